/-! The reference's walking: its steps as functions of the state -/
def drwF (r : RV) : RV := sL r 21464 (gl r 21464 * 6364136223846793005 + 1442695040888963407)
/-- what is drawn of a number -/
def drwN (x : Int64) (n : Int32) : Int32 := Int64.toInt32 (((x.toUInt64 >>> ((Int32.toInt64 33).toUInt64 &&& Int64.toUInt64 63)).toInt64) - ((x.toUInt64 >>> ((Int32.toInt64 33).toUInt64 &&& Int64.toUInt64 63)).toInt64) / (Int32.toInt64 n) * (Int32.toInt64 n))
def drwV (r : RV) (n : Int32) : Int32 := drwN (gl r 21464 * 6364136223846793005 + 1442695040888963407) n
def okW (r : RV) : Bool := decide (¬ gi r 1465 = 300)
def stpW (r : RV) : RV := if gi r 1465 = 300 then sI (sI r 11468 1) 1465 (gi r 1465 + 0) else sI (sI r 11468 0) 1465 (gi r 1465 + 1)
def fcN (r : RV) : Nat := tn (gi r 1469)
def pusF (r : RV) (b : Nat) : RV := sI (tI (tI r 52 (fcN r) (nI b)) 53 (fcN r) (ai r 44 b)) 1469 (nI (fcN r + 1))
def thrW (r : RV) (k : Int32) : RV := sI (sI r 1466 1) 1467 k
/-- how many kinds behind a method's throws are known -/
def knN (r : RV) (w nk x : Nat) : Nat := fup (fun i c => c + (if kN r w nk (al r 15 (4 * x + i)) (ai r 16 (4 * x + i)) = none then 0 else 1)) (tn (ai r 14 x)) 0 0
def dtS (r : RV) (w nk x i : Nat) (p : RV × Int32) : RV × Int32 := match kN r w nk (al r 15 (4 * x + i)) (ai r 16 (4 * x + i)) with
  | none => (p.1, p.2 - 0)
  | some k => (if p.2 - 1 = 0 ∧ ¬ gi p.1 1466 = 1 then thrW p.1 (nI k) else p.1, p.2 - 1)
/-- one of what a method throws is drawn -/
def dtF (r : RV) (w nk x : Nat) : RV := (fup (dtS r w nk x) (tn (ai r 14 x)) 0 (drwF r, drwV r (nI (1 + knN r w nk x)))).1
theorem BV_FI {r : RV} {w nk nm ns nb f : Nat} {v : Int32} (B : BV r w nk nm ns nb) (hf : ¬ f = 1402) : BV (sI r f v) w nk nm ns nb := by
  have e : gi (sI r f v) 1402 = gi r 1402 := by rw [gi_sI, if_neg (fun z => hf z.symm)]
  exact ⟨⟨e.trans B.1.1, B.1.2⟩, B.2⟩
theorem BV_FJ {r : RV} {w nk nm ns nb f : Nat} {v : Int64} (B : BV r w nk nm ns nb) : BV (sL r f v) w nk nm ns nb := B
theorem BV_52 {r : RV} {w nk nm ns nb i : Nat} {v : Int32} (B : BV r w nk nm ns nb) : BV (tI r 52 i v) w nk nm ns nb := B
theorem BV_53 {r : RV} {w nk nm ns nb i : Nat} {v : Int32} (B : BV r w nk nm ns nb) : BV (tI r 53 i v) w nk nm ns nb := B
theorem BV_54 {r : RV} {w nk nm ns nb i : Nat} {v : Int32} (B : BV r w nk nm ns nb) : BV (tI r 54 i v) w nk nm ns nb := B
theorem BV_55 {r : RV} {w nk nm ns nb i : Nat} {v : Int32} (B : BV r w nk nm ns nb) : BV (tI r 55 i v) w nk nm ns nb := B
theorem BV_56 {r : RV} {w nk nm ns nb i : Nat} {v : Int32} (B : BV r w nk nm ns nb) : BV (tI r 56 i v) w nk nm ns nb := B
theorem BV_pus {r : RV} {w nk nm ns nb b : Nat} (B : BV r w nk nm ns nb) : BV (pusF r b) w nk nm ns nb := BV_FI (BV_53 (BV_52 B)) (by decide)
theorem BV_thr {r : RV} {w nk nm ns nb : Nat} {k : Int32} (B : BV r w nk nm ns nb) : BV (thrW r k) w nk nm ns nb := BV_FI (BV_FI B (by decide)) (by decide)
theorem BV_stp {r : RV} {w nk nm ns nb : Nat} (B : BV r w nk nm ns nb) : BV (stpW r) w nk nm ns nb := by
  unfold stpW
  split
  · exact BV_FI (BV_FI B (by decide)) (by decide)
  · exact BV_FI (BV_FI B (by decide)) (by decide)
section
variable {d : Nat} {h : AH} {a w nk nm ns nb : Nat} {r : RV} {Q : Option V → AH → Prop}
theorem RW.bq (R : RW r h a) (B : BV r w nk nm ns nb) : BQ h a w nk nm ns nb := (BQ_iff _ _ _ _ _ _ _).mpr ⟨R.1, by rw [R.2]; exact B⟩
theorem w_draw (R : RW r h a) {n : Int32} (hn : ¬ Int32.toInt64 n = 0) (H : ∀ h', RW (drwF r) h' a → Q (some (vi (drwV r n))) h') : wp d K_X12_draw 0 [] [(0, vr (some a)), (1, vi n)] h Q := by
  rw [rb_X12_draw_0 _ _ R.1, R.gl]
  refine ⟨hn, ?_⟩
  have R1 := R.FJ 21464 (gl r 21464 * 6364136223846793005 + 1442695040888963407)
  have := H _ R1
  rw [R1.gl]
  exact this
theorem w_isStep (R : RW r h a) (H : ∀ h', RW (stpW r) h' a → Q (some (vi (b2i (okW r)))) h') : wp d K_X12_isStep 0 [] [(0, vr (some a))] h Q := by
  unfold stpW okW at H
  have fin : ∀ (h2 : AH) b, RS h2 a → fI h2 11468 a = b2i b → (Q (some (vi (b2i (!b)))) h2) → ((¬ (fI h2 11468 a) = 0 → wp d K_X12_isStep 25 [] [(0, vr (some a))] h2 Q) ∧ (¬ (¬ (fI h2 11468 a) = 0) → wp d K_X12_isStep 23 [] [(0, vr (some a))] h2 Q)) := by
    intro h2 b hs2 e q
    rw [e, bk_X12_isStep_25, bk_X12_isStep_23, bk_X12_isStep_26, bk_X12_isStep_26]
    cases b
    · exact ⟨fun z => absurd rfl z, fun _ => ⟨Or.inr rfl, q⟩⟩
    · exact ⟨fun _ => ⟨Or.inl rfl, q⟩, fun z => absurd (Classical.not_not.mp z) (by decide)⟩
  rw [rb_X12_isStep_0 _ R.1, R.gi]
  refine ⟨fun z => ?_, fun z => ?_⟩
  · rw [if_neg z, decide_eq_true z] at H
    rw [bk_X12_isStep_7, rb_X12_isStep_8 _ _ _ R.1, nn_some]
    have R1 := R.FI 11468 0
    have e1 : fI (setFI h 11468 a 0) 11468 a = 0 := fFI_same _ _ _ _
    have e2 : fI (setFI h 11468 a 0) 1465 a = gi r 1465 := by rw [R1.gi]; rfl
    generalize setFI h 11468 a 0 = h1 at *
    refine ⟨R.1.1, Or.inl rfl, fun _ => ?_, fun q => absurd e1 q⟩
    rw [bk_X12_isStep_17, e2, rb_X12_isStep_18 _ _ _ _ R1.1, nn_some]
    have R2 := R1.FI 1465 (gi r 1465 + 1)
    refine ⟨R1.1.1, fin _ false R2.1 ?_ (H _ R2)⟩
    rw [R2.gi]; rfl
  · have z := Classical.not_not.mp z
    rw [if_pos z, decide_eq_false (fun q => q z)] at H
    rw [bk_X12_isStep_5, rb_X12_isStep_8 _ _ _ R.1, nn_some]
    have R1 := R.FI 11468 1
    have e1 : fI (setFI h 11468 a 1) 11468 a = 1 := fFI_same _ _ _ _
    have e2 : fI (setFI h 11468 a 1) 1465 a = gi r 1465 := by rw [R1.gi]; rfl
    generalize setFI h 11468 a 1 = h1 at *
    refine ⟨R.1.1, Or.inr rfl, fun q => absurd (e1.symm.trans q) (by decide), fun _ => ?_⟩
    rw [bk_X12_isStep_15, e2, rb_X12_isStep_18 _ _ _ _ R1.1, nn_some]
    have R2 := R1.FI 1465 (gi r 1465 + 0)
    refine ⟨R1.1.1, fin _ true R2.1 ?_ (H _ R2)⟩
    rw [R2.gi]; rfl
theorem w_push (R : RW r h a) {b : Nat} (hb : b < 2048) (hf : gi r 1469 = nI (fcN r)) (hf2 : fcN r < 16) (H : ∀ h', RW (pusF r b) h' a → Q none h') : wp d K_X12_push 0 [] [(0, vr (some a)), (1, vi (nI b))] h Q := by
  rw [rb_X12_push_0 _ _ R.1]
  simp only [fI_setAI]
  rw [R.gi, hf]
  simp (disch := omega) only [nI_clamp, nI_leI, nI_ltI, nI_eq, nI_add, pk_mul, vp_in_nI, nI_1, true_and, and_true, true_implies, implies_true, not_true_eq_false, not_false_eq_true, false_implies, psh, nn_some, forall_const, bk_X12_push_21]
  rw [aI_neq _ _ (by decide), R.ai]
  exact H _ (((R.AI 52 (fcN r) (nI b)).AI 53 (fcN r) (ai r 44 b)).FI 1469 _)
theorem w_throwOne (R : RW r h a) (k : Int32) (H : ∀ h', RW (thrW r k) h' a → Q none h') : wp d K_X12_throwOne 0 [] [(0, vr (some a)), (1, vi k)] h Q := by
  rw [rb_X12_throwOne_0 _ _ R.1]
  exact H _ ((R.FI 1466 1).FI 1467 k)
theorem knN_le (r : RV) (w nk x : Nat) : ∀ m k c, fup (fun i c => c + (if kN r w nk (al r 15 (4 * x + i)) (ai r 16 (4 * x + i)) = none then 0 else 1)) m k c ≤ c + m := by
  intro m
  induction m with
  | zero => intro k c; exact Nat.le_refl _
  | succ m ih =>
    intro k c
    rw [fup]
    have := ih (k + 1) (c + (if kN r w nk (al r 15 (4 * x + k)) (ai r 16 (4 * x + k)) = none then 0 else 1))
    have e1 : (if kN r w nk (al r 15 (4 * x + k)) (ai r 16 (4 * x + k)) = none then 0 else 1) ≤ 1 := by split <;> omega
    omega
theorem w_drawThrow (R : RW r h a) (B : BV r w nk nm ns nb) {m : Nat} (hm : m < nm) (H : ∀ h', RW (dtF r w nk (w * 12 + m)) h' a → Q none h') : wp (d + 1) K_X12_drawThrow 0 [] [(0, vr (some a)), (1, vi (nI m))] h Q := by
  have hw2 := B.1.2.1; have hnm := B.2.1.2.1; have hnk := B.1.2.2.2.1
  have hc := B.2.1.2.2.2.2.1 m hm
  have hc4 := hc.2
  have T := R.bq B
  have hw := T.1.1.2.1
  unfold dtF at H
  rw [rb_X12_drawThrow_0 _ _ R.1, hw, lt12, pk_mul, nI_add]
  generalize ex : w * 12 + m = x at *
  have hx : x < 24 := by omega
  -- the second loop
  have L2 : ∀ i k (p : RV × Int32) (h : AH) x3, k + i = tn (ai r 14 x) → RW p.1 h a → (∀ q, ¬ q = 52 → ai p.1 q = ai r q) → al p.1 = al r → gi p.1 1402 = gi r 1402 → (∀ h', RW (fup (dtS r w nk x) i k p).1 h' a → Q none h') → wp (d + 1) K_X12_drawThrow 53 [] [(0, vr (some a)), (1, vi (nI m)), (2, vi (nI x)), (3, vi x3), (4, vi p.2), (5, vi (nI k))] h Q := by
    intro i
    induction i with
    | zero =>
      intro k p h x3 e R1 ea el eg H
      rw [rb_X12_drawThrow_53 _ _ _ _ _ _ R1.1, nI_clamp (by omega), R1.ai, ea _ (by decide), hc.1]
      simp (disch := omega) only [nI_clamp, nI_leI, nI_ltI, nI_eq, nI_add, pk_mul, vp_in_nI, nI_1, true_and, and_true, true_implies, implies_true, not_true_eq_false, not_false_eq_true, false_implies, psh, nn_some, forall_const, show tn (ai r 14 x) ≤ k by omega, bk_X12_drawThrow_101]
      exact H h R1
    | succ i ih =>
      intro k p h x3 e R1 ea el eg H
      rw [rb_X12_drawThrow_53 _ _ _ _ _ _ R1.1, nI_clamp (by omega), R1.ai, ea _ (by decide), hc.1]
      simp (disch := omega) only [nI_clamp, nI_leI, nI_ltI, nI_eq, nI_add, pk_mul, vp_in_nI, nI_1, true_and, and_true, true_implies, implies_true, not_true_eq_false, not_false_eq_true, false_implies, psh, nn_some, forall_const, show ¬ tn (ai r 14 x) ≤ k by omega]
      rw [rb_X12_drawThrow_59 _ _ _ _ _ _ R1.1, lt4]
      simp (disch := omega) only [nI_clamp, nI_leI, nI_ltI, nI_eq, nI_add, pk_mul, vp_in_nI, nI_1, true_and, and_true, true_implies, implies_true, not_true_eq_false, not_false_eq_true, false_implies, psh, nn_some, forall_const]
      have K1 : KQ h a w nk := by
        have e1 : view h a = p.1 := R1.2
        refine ⟨R1.1, ?_, B.1.2.1, ?_, B.1.2.2.2.1, B.1.2.2.2.2.1, ?_⟩
        · rw [R1.gi, eg]; exact B.1.1
        · rw [R1.ai, ea _ (by decide)]; exact B.1.2.2.1
        · rw [e1]
          have ep : ∀ k, parN p.1 w nk k = parN r w nk k := fun k => by
            unfold parN kN
            rw [el, ea 7 (by decide), ea 5 (by decide)]
          intro k k1 k2
          rw [ep]
          exact B.1.2.2.2.2.2 k k1 k2
      rw [q_kindOf K1, R1.ai, R1.al]
      have ek : kN (view h a) w nk (al p.1 15 (4 * x + k)) (ai p.1 16 (4 * x + k)) = kN r w nk (al r 15 (4 * x + k)) (ai r 16 (4 * x + k)) := by
        rw [R1.2]
        unfold kN
        rw [el, ea 16 (by decide), ea 5 (by decide)]
      rw [ek]
      simp only [psh, bk_X12_drawThrow_77]
      rw [fup] at H
      have nx : ∀ (p' : RV × Int32) (h' : AH) j6, p' = dtS r w nk x k p → RW p'.1 h' a → (∀ q, ¬ q = 52 → ai p'.1 q = ai r q) → al p'.1 = al r → gi p'.1 1402 = gi r 1402 → wp (d + 1) K_X12_drawThrow 99 [] [(0, vr (some a)), (1, vi (nI m)), (2, vi (nI x)), (3, vi x3), (4, vi p'.2), (5, vi (nI k)), (6, vi j6)] h' Q := fun p' h' j6 ep R' ea' el' eg' => by
        rw [bk_X12_drawThrow_99, nI_1]
        refine wp_cut 6 ?_
        exact ih (k + 1) p' h' x3 (by omega) R' ea' el' eg' (by rw [ep]; exact H)
      have eS : dtS r w nk x k p = (match kN r w nk (al r 15 (4 * x + k)) (ai r 16 (4 * x + k)) with
        | none => (p.1, p.2 - 0)
        | some k => (if p.2 - 1 = 0 ∧ ¬ gi p.1 1466 = 1 then thrW p.1 (nI k) else p.1, p.2 - 1)) := rfl
      cases e9 : kN r w nk (al r 15 (4 * x + k)) (ai r 16 (4 * x + k)) with
      | none =>
        rw [e9] at eS
        have eS : dtS r w nk x k p = (p.1, p.2 - 0) := eS
        simp only [oI, not_true_eq_false, false_implies, true_and, not_false_eq_true, true_implies]
        rw [bk_X12_drawThrow_82, bk_X12_drawThrow_85, bk_X12_drawThrow_89]
        have go := nx (p.1, p.2 - 0) h (-1) eS.symm R1 ea el eg
        exact ⟨fun _ => go, fun _ => ⟨fun _ => go, fun q => absurd rfl q⟩⟩
      | some q =>
        have hq := kN_lt e9
        rw [e9] at eS
        have eS : dtS r w nk x k p = (if p.2 - 1 = 0 ∧ ¬ gi p.1 1466 = 1 then thrW p.1 (nI q) else p.1, p.2 - 1) := eS
        simp (disch := omega) only [oI_some, nI_ne_m1, nI_clamp, nI_leI, nI_ltI, nI_eq, nI_add, pk_mul, vp_in_nI, nI_1, true_and, and_true, true_implies, implies_true, not_true_eq_false, not_false_eq_true, false_implies, psh, nn_some, forall_const]
        rw [bk_X12_drawThrow_84, bk_X12_drawThrow_85, bk_X12_drawThrow_89]
        have go : ¬ (p.2 - 1 = 0 ∧ ¬ gi p.1 1466 = 1) → wp (d + 1) K_X12_drawThrow 99 [] [(0, vr (some a)), (1, vi (nI m)), (2, vi (nI x)), (3, vi x3), (4, vi (p.2 - 1)), (5, vi (nI k)), (6, vi (nI q))] h Q := fun z => by
          rw [if_neg z] at eS
          exact nx (p.1, p.2 - 1) h (nI q) eS.symm R1 ea el eg
        refine ⟨fun z => go (fun y => z y.1), fun z => ?_⟩
        have z := Classical.not_not.mp z
        refine ⟨fun y => absurd y (nI_ne_m1 (by omega)), fun _ => ?_⟩
        rw [rb_X12_drawThrow_92 _ _ _ _ _ _ _ R1.1, R1.gi]
        refine ⟨fun y => go (fun t => t.2 y), fun y => ?_⟩
        rw [if_pos ⟨z, y⟩] at eS
        rw [rb_X12_drawThrow_96 _ _ _ _ _ _ _ R1.1]
        refine w_throwOne R1 (nI q) (fun h' R' => ?_)
        exact nx (thrW p.1 (nI q), p.2 - 1) h' (nI q) eS.symm R' ea el eg
  -- the first loop
  have L1 : ∀ i k c, k + i = tn (ai r 14 x) → c ≤ k → fup (fun i c => c + (if kN r w nk (al r 15 (4 * x + i)) (ai r 16 (4 * x + i)) = none then 0 else 1)) i k c = knN r w nk x → wp (d + 1) K_X12_drawThrow 11 [] [(0, vr (some a)), (1, vi (nI m)), (2, vi (nI x)), (3, vi (nI c)), (4, vi (nI k))] h Q := by
    intro i
    induction i with
    | zero =>
      intro k c e hck ec
      have ec : c = knN r w nk x := ec
      rw [rb_X12_drawThrow_11 _ _ _ _ _ R.1, nI_clamp (by omega), R.ai, hc.1]
      simp (disch := omega) only [nI_clamp, nI_leI, nI_ltI, nI_eq, nI_add, pk_mul, vp_in_nI, nI_1, true_and, and_true, true_implies, implies_true, not_true_eq_false, not_false_eq_true, false_implies, psh, nn_some, forall_const, show tn (ai r 14 x) ≤ k by omega]
      rw [rb_X12_drawThrow_45 _ _ _ _ _ R.1, lt1, nI_add]
      have nz : ∀ c, c ≤ 4 → ¬ Int32.toInt64 (nI (1 + c)) = 0 := by decide
      refine w_draw R (nz c (by omega)) (fun h' R' => ?_)
      simp only [psh, bk_X12_drawThrow_50]
      rw [ec]
      exact L2 (tn (ai r 14 x)) 0 (drwF r, drwV r (nI (1 + knN r w nk x))) h' _ (by omega) R' (fun _ _ => rfl) rfl rfl H
    | succ i ih =>
      intro k c e hck ec
      rw [rb_X12_drawThrow_11 _ _ _ _ _ R.1, nI_clamp (by omega), R.ai, hc.1]
      simp (disch := omega) only [nI_clamp, nI_leI, nI_ltI, nI_eq, nI_add, pk_mul, vp_in_nI, nI_1, true_and, and_true, true_implies, implies_true, not_true_eq_false, not_false_eq_true, false_implies, psh, nn_some, forall_const, show ¬ tn (ai r 14 x) ≤ k by omega]
      rw [rb_X12_drawThrow_17 _ _ _ _ _ R.1, lt4]
      simp (disch := omega) only [nI_clamp, nI_leI, nI_ltI, nI_eq, nI_add, pk_mul, vp_in_nI, nI_1, true_and, and_true, true_implies, implies_true, not_true_eq_false, not_false_eq_true, false_implies, psh, nn_some, forall_const]
      rw [q_kindOf T.1.1, R.ai, R.al, R.2]
      simp only [psh, bk_X12_drawThrow_36]
      rw [fup] at ec
      have okk : ∀ j, kN r w nk (al r 15 (4 * x + k)) (ai r 16 (4 * x + k)) = some j → j < 2 ^ 31 := kN_ok hnk
      refine ⟨fun z => ?_, fun z => ?_⟩
      · have z : ¬ kN r w nk (al r 15 (4 * x + k)) (ai r 16 (4 * x + k)) = none := fun q => z (by rw [q]; rfl)
        rw [if_neg z] at ec
        rw [bk_X12_drawThrow_40, bk_X12_drawThrow_41, nI_1, nI_1]
        exact ih (k + 1) (c + 1) (by omega) (by omega) ec
      · have z := (oI_m1 okk).mp (Classical.not_not.mp z)
        rw [if_pos z] at ec
        rw [bk_X12_drawThrow_38, bk_X12_drawThrow_41, nI_1, Int32.add_zero]
        exact ih (k + 1) c (by omega) (by omega) ec
  exact L1 (tn (ai r 14 x)) 0 0 (by omega) (by omega) rfl
end
