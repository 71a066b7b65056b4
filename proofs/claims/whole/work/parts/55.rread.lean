/-! The reference's reading: names, signs, blocks, kinds, methods -/
/-- the place and the length are numbers -/
def PT (r : RV) : Prop := ∃ p n, gi r 1447 = nI p ∧ gi r 1448 = nI n ∧ p ≤ n ∧ n ≤ 2000
theorem ai_tok (r : RV) (t : Nat → Int32) (n q : Nat) : ai (tokP r t n q) = ai r := by
  unfold tokP; split; rfl; split; split <;> rfl; rfl
theorem al_tok (r : RV) (t : Nat → Int32) (n q : Nat) : al (tokP r t n q) = al r := by
  unfold tokP; split; rfl; split; split <;> rfl; rfl
theorem gi_stk (r : RV) (p q s : Int32) (x : Int64) {f : Nat} (h1 : ¬ f = 1447) (h2 : ¬ f = 1449) (h3 : ¬ f = 1451) : gi (stk r p q s x) f = gi r f := by
  show (if f = 1447 then p else if f = 1449 then q else if f = 1451 then s else gi r f) = gi r f
  rw [if_neg h1, if_neg h2, if_neg h3]
theorem gi_tok (r : RV) (t : Nat → Int32) (n q : Nat) {f : Nat} (h1 : ¬ f = 1447) (h2 : ¬ f = 1449) (h3 : ¬ f = 1451) : gi (tokP r t n q) f = gi r f := by
  unfold tokP; split
  · exact gi_stk _ _ _ _ _ h1 h2 h3
  · split
    · split <;> exact gi_stk _ _ _ _ _ h1 h2 h3
    · exact gi_stk _ _ _ _ _ h1 h2 h3
theorem gl_stk (r : RV) (p q s : Int32) (x : Int64) {f : Nat} (h1 : ¬ f = 21450) : gl (stk r p q s x) f = gl r f := by
  show (if f = 21450 then x else gl r f) = gl r f
  rw [if_neg h1]
theorem gl_tok (r : RV) (t : Nat → Int32) (n q : Nat) {f : Nat} (h1 : ¬ f = 21450) : gl (tokP r t n q) f = gl r f := by
  unfold tokP; split
  · exact gl_stk _ _ _ _ _ h1
  · split
    · split <;> exact gl_stk _ _ _ _ _ h1
    · exact gl_stk _ _ _ _ _ h1
theorem ai_adv (r : RV) : ai (advF r) = ai r := ai_tok _ _ _ _
theorem al_adv (r : RV) : al (advF r) = al r := al_tok _ _ _ _
theorem gi_adv (r : RV) {f : Nat} (h1 : ¬ f = 1447 := by decide) (h2 : ¬ f = 1449 := by decide) (h3 : ¬ f = 1451 := by decide) : gi (advF r) f = gi r f := gi_tok _ _ _ _ h1 h2 h3
theorem gl_adv (r : RV) {f : Nat} (h1 : ¬ f = 21450 := by decide) : gl (advF r) f = gl r f := gl_tok _ _ _ _ h1
theorem PT_adv {r : RV} (P : PT r) : PT (advF r) := by
  obtain ⟨p, n, hp, hn, h1, h2⟩ := P
  have eF : advF r = tokP r (ai r 1) n (skB (ai r 1) (n - p) p) := by
    unfold advF
    rw [hp, hn, tn_nI (by omega), tn_nI (by omega)]
  have b := skB_le (ai r 1) (n - p) p
  generalize skB (ai r 1) (n - p) p = q at eF b
  have l := lwE_le (ai r 1) (n - q) q
  have e2 : gi (advF r) 1448 = nI n := by rw [gi_adv]; exact hn
  have key : ∃ m, m ≤ n ∧ gi (advF r) 1447 = nI m := by
    rw [eF]
    unfold tokP
    split
    · exact ⟨q, by omega, rfl⟩
    · split
      · split
        · exact ⟨_, by omega, rfl⟩
        · exact ⟨_, by omega, rfl⟩
      · exact ⟨q + 1, by omega, rfl⟩
  obtain ⟨m, hm, em⟩ := key
  exact ⟨m, n, em, e2, hm, h2⟩
theorem PT_sI {r : RV} (P : PT r) (f : Nat) (v : Int32) (h1 : ¬ f = 1447 := by decide) (h2 : ¬ f = 1448 := by decide) : PT (sI r f v) := by
  obtain ⟨p, n, hp, hn, q1, q2⟩ := P
  refine ⟨p, n, ?_, ?_, q1, q2⟩
  · rw [gi_sI, if_neg (fun z => h1 z.symm)]; exact hp
  · rw [gi_sI, if_neg (fun z => h2 z.symm)]; exact hn
theorem PT_sL {r : RV} (P : PT r) (f : Nat) (v : Int64) : PT (sL r f v) := P
theorem PT_tI {r : RV} (P : PT r) (q i : Nat) (v : Int32) : PT (tI r q i v) := P
theorem PT_tL {r : RV} (P : PT r) (q i : Nat) (v : Int64) : PT (tL r q i v) := P
def isKw (x : Int64) : Bool := decide (x = 1802071652 ∨ x = 422608400247 ∨ x = 7823737 ∨ x = 1870030194 ∨ x = 1718773093 ∨ x = 127991945328499 ∨ x = 25711 ∨ x = 1667329132 ∨ x = 499968536439 ∨ x = 7562612 ∨ x = 26982 ∨ x = 1701606245 ∨ x = 512852847717 ∨ x = 1819242352 ∨ x = 422826041707 ∨ x = 125780071117422 ∨ x = 7631481 ∨ x = 426836779880 ∨ x = 28826370426301561 ∨ x = 7501166)
theorem kwstep {c : Prop} [Decidable c] {A : Prop} {p : Prop} [Decidable p] {F : Bool → Prop} (h1 : A = F (decide p)) : ((c → F true) ∧ (¬ c → A)) = F (decide (c ∨ p)) := by
  by_cases z : c
  · simp [z]
  · simp [z, h1]
theorem e_isKeyword {d : Nat} {h : AH} {Q : Option V → AH → Prop} (x : Int64) : wp d K_X12_isKeyword 0 [] [(0, vl x)] h Q = Q (some (vi (b2i (isKw x)))) h := by
  have e80 : wp d K_X12_isKeyword 80 [] [(0, vl x)] h Q = (fun b => Q (some (vi (b2i b))) h) true := by
    rw [bk_X12_isKeyword_80, bk_X12_isKeyword_83]; exact propext (and_iff_right (Or.inr rfl))
  have e82 : wp d K_X12_isKeyword 82 [] [(0, vl x)] h Q = (fun b => Q (some (vi (b2i b))) h) false := by
    rw [bk_X12_isKeyword_82, bk_X12_isKeyword_83]; exact propext (and_iff_right (Or.inl rfl))
  have last : wp d K_X12_isKeyword 76 [] [(0, vl x)] h Q = (fun b => Q (some (vi (b2i b))) h) (decide (x = 7501166)) := by
    rw [bk_X12_isKeyword_76, e80, e82, lg0]
    by_cases z : x = 7501166 <;> simp [z]
  unfold isKw
  rw [bk_X12_isKeyword_0, e80, lg0]
  refine kwstep (F := fun b => Q (some (vi (b2i b))) h) ?_
  rw [bk_X12_isKeyword_4, e80, lg0]
  refine kwstep (F := fun b => Q (some (vi (b2i b))) h) ?_
  rw [bk_X12_isKeyword_8, e80, lg0]
  refine kwstep (F := fun b => Q (some (vi (b2i b))) h) ?_
  rw [bk_X12_isKeyword_12, e80, lg0]
  refine kwstep (F := fun b => Q (some (vi (b2i b))) h) ?_
  rw [bk_X12_isKeyword_16, e80, lg0]
  refine kwstep (F := fun b => Q (some (vi (b2i b))) h) ?_
  rw [bk_X12_isKeyword_20, e80, lg0]
  refine kwstep (F := fun b => Q (some (vi (b2i b))) h) ?_
  rw [bk_X12_isKeyword_24, e80, lg0]
  refine kwstep (F := fun b => Q (some (vi (b2i b))) h) ?_
  rw [bk_X12_isKeyword_28, e80, lg0]
  refine kwstep (F := fun b => Q (some (vi (b2i b))) h) ?_
  rw [bk_X12_isKeyword_32, e80, lg0]
  refine kwstep (F := fun b => Q (some (vi (b2i b))) h) ?_
  rw [bk_X12_isKeyword_36, e80, lg0]
  refine kwstep (F := fun b => Q (some (vi (b2i b))) h) ?_
  rw [bk_X12_isKeyword_40, e80, lg0]
  refine kwstep (F := fun b => Q (some (vi (b2i b))) h) ?_
  rw [bk_X12_isKeyword_44, e80, lg0]
  refine kwstep (F := fun b => Q (some (vi (b2i b))) h) ?_
  rw [bk_X12_isKeyword_48, e80, lg0]
  refine kwstep (F := fun b => Q (some (vi (b2i b))) h) ?_
  rw [bk_X12_isKeyword_52, e80, lg0]
  refine kwstep (F := fun b => Q (some (vi (b2i b))) h) ?_
  rw [bk_X12_isKeyword_56, e80, lg0]
  refine kwstep (F := fun b => Q (some (vi (b2i b))) h) ?_
  rw [bk_X12_isKeyword_60, e80, lg0]
  refine kwstep (F := fun b => Q (some (vi (b2i b))) h) ?_
  rw [bk_X12_isKeyword_64, e80, lg0]
  refine kwstep (F := fun b => Q (some (vi (b2i b))) h) ?_
  rw [bk_X12_isKeyword_68, e80, lg0]
  refine kwstep (F := fun b => Q (some (vi (b2i b))) h) ?_
  rw [bk_X12_isKeyword_72, e80, lg0]
  exact kwstep (F := fun b => Q (some (vi (b2i b))) h) last
/-- the text is wrong here -/
def faiF (r : RV) : RV := sI r 1452 (if gi r 1452 = -1 then gi r 1449 else gi r 1452)
/-- a name stands here -/
def okN (r : RV) : Bool := !decide (gl r 21450 = 0) && !isKw (gl r 21450)
def namF (r : RV) : RV := advF (sI (sL r 21453 (gl r 21450)) 1454 (gi r 1449))
theorem PT_fai {r : RV} (P : PT r) : PT (faiF r) := PT_sI P _ _
theorem PT_nam {r : RV} (P : PT r) : PT (namF r) := PT_adv (PT_sI (PT_sL P _ _) _ _)
section
variable {d : Nat} {h : AH} {a : Nat} {r : RV} {Q : Option V → AH → Prop}
theorem c_advance (R : RW r h a) (P : PT r) (H : ∀ h', RW (advF r) h' a → Q none h') : wp (d + 1) K_X12_advance 0 [] [(0, vr (some a))] h Q := by
  obtain ⟨p, n, hp, hn, h1, h2⟩ := P
  exact a_advance R hp hn h1 h2 H
theorem c_fails (R : RW r h a) (H : ∀ h', RW (faiF r) h' a → Q (some (vi (b2i false))) h') : wp d K_X12_fails 0 [] [(0, vr (some a))] h Q := by
  have e10 : ∀ v, v = (if gi r 1452 = -1 then gi r 1449 else gi r 1452) → wp d K_X12_fails 10 [vi v, vr (some a)] [(0, vr (some a))] h Q := fun v ev => by
    rw [bk_X12_fails_10, nn_some]
    refine ⟨R.1.1, Or.inl rfl, H _ ?_⟩
    rw [ev]
    exact R.FI 1452 _
  rw [rb_X12_fails_0 _ R.1, R.gi, rb_X12_fails_8 _ _ R.1, rb_X12_fails_5 _ _ R.1, R.gi, R.gi]
  exact ⟨fun z => e10 _ (by rw [if_neg z]), fun z => e10 _ (by rw [if_pos (Classical.not_not.mp z)])⟩
theorem c_take (R : RW r h a) (P : PT r) (s : Int32) (H1 : gi r 1451 = s → ∀ h', RW (advF r) h' a → Q (some (vi (b2i true))) h') (H2 : ¬ gi r 1451 = s → ∀ h', RW (faiF r) h' a → Q (some (vi (b2i false))) h') : wp (d + 2) K_X12_take 0 [] [(0, vr (some a)), (1, vi s)] h Q := by
  rw [rb_X12_take_0 _ _ R.1, R.gi]
  refine ⟨fun z => ?_, fun z => ?_⟩
  · rw [rb_X12_take_7 _ _ R.1]
    refine c_advance R P (fun h' R' => ?_)
    simp only [psh, bk_X12_take_9]
    exact ⟨Or.inr trivial, H1 z h' R'⟩
  · rw [rb_X12_take_4 _ _ R.1]
    refine c_fails R (fun h' R' => ?_)
    simp only [psh, bk_X12_take_6]
    exact ⟨Or.inl rfl, H2 z h' R'⟩
theorem c_takeWord (R : RW r h a) (P : PT r) (x : Int64) (H1 : gl r 21450 = x → ∀ h', RW (advF r) h' a → Q (some (vi (b2i true))) h') (H2 : ¬ gl r 21450 = x → ∀ h', RW (faiF r) h' a → Q (some (vi (b2i false))) h') : wp (d + 2) K_X12_takeWord 0 [] [(0, vr (some a)), (1, vl x)] h Q := by
  rw [rb_X12_takeWord_0 _ _ R.1, R.gl, lg0]
  refine ⟨fun z => ?_, fun z => ?_⟩
  · rw [rb_X12_takeWord_8 _ _ R.1]
    refine c_advance R P (fun h' R' => ?_)
    simp only [psh, bk_X12_takeWord_10]
    exact ⟨Or.inr trivial, H1 z h' R'⟩
  · rw [rb_X12_takeWord_5 _ _ R.1]
    refine c_fails R (fun h' R' => ?_)
    simp only [psh, bk_X12_takeWord_7]
    exact ⟨Or.inl rfl, H2 z h' R'⟩
theorem c_takeName (R : RW r h a) (P : PT r) (H1 : okN r = true → ∀ h', RW (namF r) h' a → Q (some (vi (b2i true))) h') (H2 : okN r = false → ∀ h', RW (faiF r) h' a → Q (some (vi (b2i false))) h') : wp (d + 2) K_X12_takeName 0 [] [(0, vr (some a))] h Q := by
  have e9 : okN r = false → wp (d + 2) K_X12_takeName 9 [] [(0, vr (some a))] h Q := fun z => by
    rw [rb_X12_takeName_9 _ R.1]
    refine c_fails R (fun h' R' => ?_)
    simp only [psh, bk_X12_takeName_11]
    exact ⟨Or.inl rfl, H2 z h' R'⟩
  rw [rb_X12_takeName_0 _ R.1, R.gl, lg0]
  refine ⟨fun z => e9 (by unfold okN; rw [decide_eq_true z]; rfl), fun z => ?_⟩
  rw [rb_X12_takeName_5 _ R.1, R.gl, e_isKeyword]
  simp only [psh, bk_X12_takeName_8, b2i_0]
  refine ⟨fun z2 => ?_, fun z2 => e9 (by unfold okN; rw [bt z2]; simp)⟩
  rw [rb_X12_takeName_12 _ R.1]
  simp only [fI_setFJ]
  rw [R.gl, R.gi]
  refine c_advance ((R.FJ 21453 _).FI 1454 _) (PT_sI (PT_sL P _ _) _ _) (fun h' R' => ?_)
  simp only [psh, bk_X12_takeName_22]
  exact ⟨Or.inr trivial, H1 (by unfold okN; rw [decide_eq_false z, z2]; rfl) h' R'⟩
theorem c_isWord (R : RW r h a) (x : Int64) : wp d K_X12_isWord 0 [] [(0, vr (some a)), (1, vl x)] h Q = Q (some (vi (b2i (decide (gl r 21450 = x))))) h := by
  rw [rb_X12_isWord_0 _ _ R.1, R.gl, lg0]
  simp only [bk_X12_isWord_7, bk_X12_isWord_5, bk_X12_isWord_8]
  by_cases z : gl r 21450 = x <;> simp [z, b2i]
def wN (r : RV) : Nat := tn (gi r 1402)
/-- a block's number -/
def nbN (r : RV) : Nat := wN r * 1024 + tn (ai r 39 (wN r))
def opG (r : RV) (b : Nat) (what own num : Int32) : RV := sI (tI (tI (tI (tI (tI (tI (tI (tI r 39 (wN r) (ai r 39 (wN r) + 1)) 40 b what) 41 b own) 42 b num) 43 b (gi r 1449)) 44 b (-1)) 45 b (-1)) 46 (tn (gi r 1455)) (nI b)) 1455 (gi r 1455 + 1)
def okO (r : RV) : Bool := decide (gi r 1451 = 123) && !decide (gi r 1455 = 8)
/-- a block is opened -/
def opF (r : RV) (what own num : Int32) : RV := if okO r then advF (opG r (nbN r) what own num) else faiF r
def opV (r : RV) : Int32 := if okO r then nI (nbN r) else -1
/-- numbers that the opening needs -/
def OB (r : RV) : Prop := PT r ∧ gi r 1402 = nI (wN r) ∧ wN r < 2 ∧ cnt (ai r 39 (wN r)) 1023 ∧ cnt (gi r 1455) 8
theorem c_opened (R : RW r h a) (B : OB r) (what own num : Int32) (H : ∀ h', RW (opF r what own num) h' a → Q (some (vi (opV r))) h') : wp (d + 2) K_X12_opened 0 [] [(0, vr (some a)), (1, vi what), (2, vi own), (3, vi num)] h Q := by
  obtain ⟨P, hw, hw2, hb, hd⟩ := B
  have hb2 := hb.2
  have hd2 := hd.2
  have e8 : okO r = false → wp (d + 2) K_X12_opened 8 [] [(0, vr (some a)), (1, vi what), (2, vi own), (3, vi num)] h Q := fun z => by
    rw [rb_X12_opened_8 _ _ _ _ R.1]
    refine c_fails R (fun h' R' => ?_)
    simp only [psh, bk_X12_opened_10]
    have := H h'
    unfold opF opV at this
    rw [z] at this
    exact this R'
  rw [rb_X12_opened_0 _ _ _ _ R.1, R.gi]
  refine ⟨fun z => e8 (by unfold okO; rw [decide_eq_false z]; rfl), fun z => ?_⟩
  have z := Classical.not_not.mp z
  rw [rb_X12_opened_4 _ _ _ _ R.1, R.gi]
  refine ⟨fun z2 => ?_, fun z2 => e8 (by unfold okO; rw [decide_eq_true (Classical.not_not.mp z2)]; simp)⟩
  have ok : okO r = true := by unfold okO; rw [decide_eq_true z, decide_eq_false z2]; rfl
  have dne : ¬ tn (gi r 1455) = 8 := fun q => z2 (by rw [hd.1, q]; rfl)
  unfold opF opV at H
  rw [ok] at H
  rw [rb_X12_opened_13 _ _ _ _ R.1, R.gi, hw]
  simp (disch := omega) only [nI_clamp, nI_leI, nI_ltI, nI_eq, nI_add, pk_mul, vp_in_nI, nI_1, true_and, and_true, true_implies, implies_true, not_true_eq_false, not_false_eq_true, false_implies, psh, nn_some, forall_const]
  rw [R.ai, hb.1, lt1024]
  simp (disch := omega) only [nI_clamp, nI_leI, nI_ltI, nI_eq, nI_add, pk_mul, vp_in_nI, nI_1, true_and, and_true, true_implies, implies_true, not_true_eq_false, not_false_eq_true, false_implies, psh, nn_some, forall_const]
  have en : nbN r = wN r * 1024 + tn (ai r 39 (wN r)) := rfl
  rw [← en]
  have R1 := ((R.AI 39 (wN r) (nI (tn (ai r 39 (wN r)) + 1))).AI 40 (nbN r) what).AI 41 (nbN r) own
  generalize setAI (setAI (setAI h (a + 39) (wN r) (nI (tn (ai r 39 (wN r)) + 1))) (a + 40) (nbN r) what) (a + 41) (nbN r) own = h1 at R1 ⊢
  rw [rb_X12_opened_43 _ _ _ _ _ R1.1]
  simp (disch := omega) only [nI_clamp, nI_leI, nI_ltI, nI_eq, nI_add, pk_mul, vp_in_nI, nI_1, true_and, and_true, true_implies, implies_true, not_true_eq_false, not_false_eq_true, false_implies, psh, nn_some, forall_const, fI_setAI]
  rw [R1.gi]
  have R2 := ((R1.AI 42 (nbN r) num).AI 43 (nbN r) (gi r 1449)).AI 44 (nbN r) (-1)
  simp only [gi_tI]
  generalize setAI (setAI (setAI h1 (a + 42) (nbN r) num) (a + 43) (nbN r) (gi r 1449)) (a + 44) (nbN r) (-1) = h2 at R2 ⊢
  rw [rb_X12_opened_59 _ _ _ _ _ R2.1]
  simp (disch := omega) only [nI_clamp, nI_leI, nI_ltI, nI_eq, nI_add, pk_mul, vp_in_nI, nI_1, true_and, and_true, true_implies, implies_true, not_true_eq_false, not_false_eq_true, false_implies, psh, nn_some, forall_const, fI_setAI]
  rw [R2.gi]
  simp only [gi_tI]
  rw [hd.1]
  simp (disch := omega) only [nI_clamp, nI_leI, nI_ltI, nI_eq, nI_add, pk_mul, vp_in_nI, nI_1, true_and, and_true, true_implies, implies_true, not_true_eq_false, not_false_eq_true, false_implies, psh, nn_some, forall_const]
  have R3 := ((R2.AI 45 (nbN r) (-1)).AI 46 (tn (gi r 1455)) (nI (nbN r))).FI 1455 (nI (tn (gi r 1455) + 1))
  rw [rb_X12_opened_76 _ _ _ _ _ R3.1]
  have eG : opG r (nbN r) what own num = sI (tI (tI (tI (tI (tI (tI (tI (tI r 39 (wN r) (nI (tn (ai r 39 (wN r)) + 1))) 40 (nbN r) what) 41 (nbN r) own) 42 (nbN r) num) 43 (nbN r) (gi r 1449)) 44 (nbN r) (-1)) 45 (nbN r) (-1)) 46 (tn (gi r 1455)) (nI (nbN r))) 1455 (nI (tn (gi r 1455) + 1)) := by
    unfold opG
    rw [← nI_1, ← nI_1, ← hb.1, ← hd.1]
  rw [← eG] at R3
  have PG : PT (opG r (nbN r) what own num) := PT_sI P _ _
  refine c_advance R3 PG (fun h' R' => ?_)
  simp only [psh, bk_X12_opened_78]
  exact H h' R'
end
