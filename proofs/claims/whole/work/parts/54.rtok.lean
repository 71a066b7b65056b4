/-! The reference's reading: tokens -/
/-- the reference at a is in the state r -/
def RW (r : RV) (h : AH) (a : Nat) : Prop := RS h a ∧ view h a = r
section
variable {r : RV} {h : AH} {a : Nat}
theorem RW.FI (R : RW r h a) (f : Nat) (v : Int32) : RW (sI r f v) (setFI h f a v) a := ⟨R.1, by rw [view_FI, R.2]⟩
theorem RW.FJ (R : RW r h a) (f : Nat) (v : Int64) : RW (sL r f v) (setFJ h f a v) a := ⟨R.1, by rw [view_FJ, R.2]⟩
theorem RW.AI (R : RW r h a) (q i : Nat) (v : Int32) : RW (tI r q i v) (setAI h (a + q) i v) a := ⟨R.1, by rw [view_AI, R.2]⟩
theorem RW.AJ (R : RW r h a) (q i : Nat) (v : Int64) : RW (tL r q i v) (setAJ h (a + q) i v) a := ⟨R.1, by rw [view_AJ, R.2]⟩
theorem RW.gi (R : RW r h a) (f : Nat) : fI h f a = gi r f := by rw [← R.2]; rfl
theorem RW.gl (R : RW r h a) (f : Nat) : fJ h f a = gl r f := by rw [← R.2]; rfl
theorem RW.ai (R : RW r h a) (q i : Nat) : aI h (a + q) i = ai r q i := by rw [← R.2]; rfl
theorem RW.al (R : RW r h a) (q i : Nat) : aJ h (a + q) i = al r q i := by rw [← R.2]; rfl
end
theorem rv_ext {r r' : RV} (e1 : ∀ f, gi r f = gi r' f) (e2 : ∀ f, gl r f = gl r' f) (e3 : ∀ q i, ai r q i = ai r' q i) (e4 : ∀ q i, al r q i = al r' q i) : r = r' := by
  obtain ⟨a1, a2, a3, a4⟩ := r
  obtain ⟨b1, b2, b3, b4⟩ := r'
  have x1 : a1 = b1 := funext e1
  have x2 : a2 = b2 := funext e2
  have x3 : a3 = b3 := funext fun q => funext (e3 q)
  have x4 : a4 = b4 := funext fun q => funext (e4 q)
  subst x1 x2 x3 x4
  rfl
/-- the state with another token: the place behind it, its place, its sign, its word -/
def stk (r : RV) (p q s : Int32) (x : Int64) : RV := (fun f => if f = 1447 then p else if f = 1449 then q else if f = 1451 then s else r.1 f, fun f => if f = 21450 then x else r.2.1 f, r.2.2)
theorem stk_self (r : RV) : stk r (gi r 1447) (gi r 1449) (gi r 1451) (gl r 21450) = r := by
  refine rv_ext (fun f => ?_) (fun f => ?_) (fun _ _ => rfl) (fun _ _ => rfl)
  · show (if f = 1447 then gi r 1447 else if f = 1449 then gi r 1449 else if f = 1451 then gi r 1451 else gi r f) = gi r f
    by_cases c1 : f = 1447
    · subst c1; rfl
    · by_cases c2 : f = 1449
      · subst c2; rfl
      · by_cases c3 : f = 1451
        · subst c3; rfl
        · rw [if_neg c1, if_neg c2, if_neg c3]
  · show (if f = 21450 then gl r 21450 else gl r f) = gl r f
    by_cases c1 : f = 21450
    · subst c1; rfl
    · rw [if_neg c1]
theorem stk_p (r : RV) (p q s : Int32) (x : Int64) (v : Int32) : sI (stk r p q s x) 1447 v = stk r v q s x := by
  refine rv_ext (fun f => ?_) (fun f => rfl) (fun _ _ => rfl) (fun _ _ => rfl)
  show (if f = 1447 then v else if f = 1447 then p else if f = 1449 then q else if f = 1451 then s else gi r f) = if f = 1447 then v else if f = 1449 then q else if f = 1451 then s else gi r f
  by_cases c1 : f = 1447 <;> simp [c1]
theorem stk_q (r : RV) (p q s : Int32) (x : Int64) (v : Int32) : sI (stk r p q s x) 1449 v = stk r p v s x := by
  refine rv_ext (fun f => ?_) (fun f => rfl) (fun _ _ => rfl) (fun _ _ => rfl)
  show (if f = 1449 then v else if f = 1447 then p else if f = 1449 then q else if f = 1451 then s else gi r f) = if f = 1447 then p else if f = 1449 then v else if f = 1451 then s else gi r f
  by_cases c1 : f = 1447 <;> by_cases c2 : f = 1449 <;> simp [c1, c2] <;> omega
theorem stk_s (r : RV) (p q s : Int32) (x : Int64) (v : Int32) : sI (stk r p q s x) 1451 v = stk r p q v x := by
  refine rv_ext (fun f => ?_) (fun f => rfl) (fun _ _ => rfl) (fun _ _ => rfl)
  show (if f = 1451 then v else if f = 1447 then p else if f = 1449 then q else if f = 1451 then s else gi r f) = if f = 1447 then p else if f = 1449 then q else if f = 1451 then v else gi r f
  by_cases c1 : f = 1447
  · subst c1; rfl
  · by_cases c2 : f = 1449
    · subst c2; rfl
    · by_cases c3 : f = 1451 <;> simp [c1, c2, c3]
theorem stk_x (r : RV) (p q s : Int32) (x : Int64) (v : Int64) : sL (stk r p q s x) 21450 v = stk r p q s v := by
  refine rv_ext (fun f => rfl) (fun f => ?_) (fun _ _ => rfl) (fun _ _ => rfl)
  show (if f = 21450 then v else if f = 21450 then x else gl r f) = if f = 21450 then v else gl r f
  by_cases c1 : f = 21450 <;> simp [c1]
def isLe (x : Int32) : Bool := !decide (x < 97) && !decide (122 < x)
def isSg (x : Int32) : Bool := decide (x = 123 ∨ x = 125 ∨ x = 40 ∨ x = 41 ∨ x = 124 ∨ x = 59 ∨ x = 44)
theorem e_isLetter {d : Nat} {h : AH} {Q : Option V → AH → Prop} (x : Int32) : wp d K_X12_isLetter 0 [] [(0, vi x)] h Q = Q (some (vi (b2i (isLe x)))) h := by
  simp only [bk_X12_isLetter_0, bk_X12_isLetter_8, bk_X12_isLetter_3, bk_X12_isLetter_9, bk_X12_isLetter_6]
  unfold isLe b2i
  by_cases c : x < 97 <;> by_cases c2 : 122 < x <;> simp [c, c2]
theorem e_isSign {d : Nat} {h : AH} {Q : Option V → AH → Prop} (x : Int32) : wp d K_X12_isSign 0 [] [(0, vi x)] h Q = Q (some (vi (b2i (isSg x)))) h := by
  simp only [bk_X12_isSign_0, bk_X12_isSign_21, bk_X12_isSign_3, bk_X12_isSign_24, bk_X12_isSign_6, bk_X12_isSign_9, bk_X12_isSign_12, bk_X12_isSign_15, bk_X12_isSign_18, bk_X12_isSign_23]
  unfold isSg b2i
  by_cases c1 : x = 123
  · subst c1; simp
  by_cases c2 : x = 125
  · subst c2; simp
  by_cases c3 : x = 40
  · subst c3; simp
  by_cases c4 : x = 41
  · subst c4; simp
  by_cases c5 : x = 124
  · subst c5; simp
  by_cases c6 : x = 59
  · subst c6; simp
  by_cases c7 : x = 44
  · subst c7; simp
  simp [c1, c2, c3, c4, c5, c6, c7]
def isBl (x : Int32) : Bool := decide (x = 32 ∨ x = 10)
def skB (t : Nat → Int32) : Nat → Nat → Nat
  | 0, p => p
  | f + 1, p => if isBl (t p) then skB t f (p + 1) else p
/-- where the letters end -/
def lwE (t : Nat → Int32) : Nat → Nat → Nat
  | 0, p => p
  | f + 1, p => if isLe (t p) then lwE t f (p + 1) else p
def wd8 (x : Int64) (b : Int32) : Int64 := (x <<< (Int32.toInt64 8 &&& 63)) ||| Int32.toInt64 b
/-- the word of the letters -/
def lwW (t : Nat → Int32) : Nat → Nat → Int64 → Int64
  | 0, _, x => x
  | f + 1, p, x => if isLe (t p) then lwW t f (p + 1) (wd8 x (t p)) else x
def tokP (r : RV) (t : Nat → Int32) (n q : Nat) : RV := if q = n then stk r (nI q) (nI q) (-1) 0 else if isLe (t q) then (if lwE t (n - q) q - q ≤ 8 then stk r (nI (lwE t (n - q) q)) (nI q) 0 (lwW t (n - q) q 0) else stk r (nI (lwE t (n - q) q)) (nI q) (-2) 0) else stk r (nI (q + 1)) (nI q) (if isSg (t q) then t q else -2) 0
/-- the next token -/
def advF (r : RV) : RV := tokP r (ai r 1) (tn (gi r 1448)) (skB (ai r 1) (tn (gi r 1448) - tn (gi r 1447)) (tn (gi r 1447)))
theorem skB_le (t : Nat → Int32) : ∀ f p, p ≤ skB t f p ∧ skB t f p ≤ p + f := by
  intro f
  induction f with
  | zero => intro p; exact ⟨Nat.le_refl _, Nat.le_refl _⟩
  | succ f ih =>
    intro p
    rw [skB]
    split
    · have := ih (p + 1); omega
    · omega
theorem lwE_le (t : Nat → Int32) : ∀ f p, p ≤ lwE t f p ∧ lwE t f p ≤ p + f := by
  intro f
  induction f with
  | zero => intro p; exact ⟨Nat.le_refl _, Nat.le_refl _⟩
  | succ f ih =>
    intro p
    rw [lwE]
    split
    · have := ih (p + 1); omega
    · omega
section
variable {d : Nat} {h : AH} {a : Nat} {r : RV} {Q : Option V → AH → Prop}
theorem a_advance (R : RW r h a) {p n : Nat} (hp : gi r 1447 = nI p) (hn : gi r 1448 = nI n) (h1 : p ≤ n) (h2 : n ≤ 2000) (H : ∀ h', RW (advF r) h' a → Q none h') : wp (d + 1) K_X12_advance 0 [] [(0, vr (some a))] h Q := by
  have eF : advF r = tokP r (ai r 1) n (skB (ai r 1) (n - p) p) := by
    unfold advF
    rw [hp, hn, tn_nI (by omega), tn_nI (by omega)]
  rw [eF] at H
  have hns : ∀ p q s x, gi (stk r p q s x) 1448 = nI n := fun _ _ _ _ => hn
  have hps : ∀ p q s x, gi (stk r p q s x) 1447 = p := fun _ _ _ _ => rfl
  have hqs : ∀ p q s x, gi (stk r p q s x) 1449 = q := fun _ _ _ _ => rfl
  have hxs : ∀ p q s x, gl (stk r p q s x) 21450 = x := fun _ _ _ _ => rfl
  have hts : ∀ p q s x, ai (stk r p q s x) 1 = ai r 1 := fun _ _ _ _ => rfl
  -- the letters
  have L2 : ∀ f e q x (h : AH), e + f = n → q ≤ e → RW (stk r (nI e) (nI q) 0 x) h a → (∀ h', RW (if lwE (ai r 1) f e - q ≤ 8 then stk r (nI (lwE (ai r 1) f e)) (nI q) 0 (lwW (ai r 1) f e x) else stk r (nI (lwE (ai r 1) f e)) (nI q) (-2) 0) h' a → Q none h') → wp (d + 1) K_X12_advance 52 [] [(0, vr (some a))] h Q := by
    have fin : ∀ e q x (h : AH), e ≤ n → q ≤ e → RW (stk r (nI e) (nI q) 0 x) h a → (∀ h', RW (if e - q ≤ 8 then stk r (nI e) (nI q) 0 x else stk r (nI e) (nI q) (-2) 0) h' a → Q none h') → wp (d + 1) K_X12_advance 84 [] [(0, vr (some a))] h Q := by
      intro e q x h he hq R H
      rw [rb_X12_advance_84 _ R.1, R.gi, R.gi, hps, hqs, pk_sub hq, show (8 : Int32) = nI 8 from rfl]
      simp (disch := omega) only [nI_clamp, nI_leI, nI_ltI, nI_eq, nI_add, pk_mul, vp_in_nI, nI_1, true_and, and_true, true_implies, implies_true, not_true_eq_false, not_false_eq_true, false_implies, psh, nn_some, forall_const, bk_X12_advance_120]
      refine ⟨fun z => H h (by rw [if_pos z]; exact R), fun z => ?_⟩
      rw [rb_X12_advance_91 _ R.1, bk_X12_advance_120]
      refine H _ ?_
      rw [if_neg z]
      have := (R.FI 1451 (-2)).FJ 21450 0
      rw [stk_s, stk_x] at this
      exact this
    intro f
    induction f with
    | zero =>
      intro e q x h he hq R H
      rw [rb_X12_advance_52 _ R.1, R.gi, R.gi, hps, hns]
      simp (disch := omega) only [nI_clamp, nI_leI, nI_ltI, nI_eq, nI_add, pk_mul, vp_in_nI, nI_1, true_and, and_true, true_implies, implies_true, not_true_eq_false, not_false_eq_true, false_implies, psh, nn_some, forall_const, show n ≤ e by omega]
      exact fin e q x h (by omega) hq R H
    | succ f ih =>
      intro e q x h he hq R H
      rw [rb_X12_advance_52 _ R.1, R.gi, R.gi, hps, hns]
      simp (disch := omega) only [nI_clamp, nI_leI, nI_ltI, nI_eq, nI_add, pk_mul, vp_in_nI, nI_1, true_and, and_true, true_implies, implies_true, not_true_eq_false, not_false_eq_true, false_implies, psh, nn_some, forall_const, show ¬ n ≤ e by omega]
      rw [rb_X12_advance_57 _ R.1, R.gi, hps]
      simp (disch := omega) only [nI_clamp, nI_leI, nI_ltI, nI_eq, nI_add, pk_mul, vp_in_nI, nI_1, true_and, and_true, true_implies, implies_true, not_true_eq_false, not_false_eq_true, false_implies, psh, nn_some, forall_const]
      rw [R.ai, hts, e_isLetter]
      simp only [psh, bk_X12_advance_63, b2i_0]
      rw [lwE, lwW] at H
      refine ⟨fun z => ?_, fun z => ?_⟩
      · simp only [z, Bool.false_eq_true, if_false] at H
        exact fin e q x h (by omega) hq R H
      · have z := bt z
        simp only [z, if_true] at H
        rw [rb_X12_advance_64 _ R.1]
        simp only [fI_setFJ]
        rw [R.gi, R.gl, hps, hxs]
        simp (disch := omega) only [nI_clamp, nI_leI, nI_ltI, nI_eq, nI_add, pk_mul, vp_in_nI, nI_1, true_and, and_true, true_implies, implies_true, not_true_eq_false, not_false_eq_true, false_implies, psh, nn_some, forall_const]
        rw [R.ai, hts]
        refine ih (e + 1) q _ _ (by omega) (by omega) ?_ H
        have := (R.FJ 21450 (wd8 x (ai r 1 e))).FI 1447 (nI (e + 1))
        rw [stk_x, stk_p] at this
        exact this
  have T : ∀ q s0 w0 a0 (h : AH), q ≤ n → RW (stk r (nI q) a0 s0 w0) h a → (∀ h', RW (tokP r (ai r 1) n q) h' a → Q none h') → wp (d + 1) K_X12_advance 26 [] [(0, vr (some a))] h Q := by
    intro q s0 w0 a0 h hq R H
    have R2 := (R.FI 1449 (nI q)).FJ 21450 0
    rw [stk_q, stk_x] at R2
    rw [rb_X12_advance_26 _ R.1, R.gi, hps]
    generalize setFJ (setFI h 1449 a (nI q)) 21450 a 0 = h2 at R2 ⊢
    rw [R2.gi, R2.gi, hps, hns]
    simp (disch := omega) only [nI_clamp, nI_leI, nI_ltI, nI_eq, nI_add, pk_mul, vp_in_nI, nI_1, true_and, and_true, true_implies, implies_true, not_true_eq_false, not_false_eq_true, false_implies, psh, nn_some, forall_const]
    unfold tokP at H
    refine ⟨fun z => ?_, fun z => ?_⟩
    · rw [if_neg z] at H
      rw [rb_X12_advance_42 _ R2.1, R2.gi, hps]
      simp (disch := omega) only [nI_clamp, nI_leI, nI_ltI, nI_eq, nI_add, pk_mul, vp_in_nI, nI_1, true_and, and_true, true_implies, implies_true, not_true_eq_false, not_false_eq_true, false_implies, psh, nn_some, forall_const]
      rw [R2.ai, hts, e_isLetter]
      simp only [psh, bk_X12_advance_48, b2i_0]
      refine ⟨fun z2 => ?_, fun z2 => ?_⟩
      · rw [if_neg (by rw [z2]; exact Bool.false_ne_true)] at H
        rw [rb_X12_advance_98 _ R2.1, R2.gi, hps]
        simp (disch := omega) only [nI_clamp, nI_leI, nI_ltI, nI_eq, nI_add, pk_mul, vp_in_nI, nI_1, true_and, and_true, true_implies, implies_true, not_true_eq_false, not_false_eq_true, false_implies, psh, nn_some, forall_const]
        rw [R2.ai, hts, e_isSign]
        simp only [psh, bk_X12_advance_105, b2i_0, bk_X12_advance_112]
        rw [rb_X12_advance_106 _ _ R2.1, R2.gi, hps]
        simp (disch := omega) only [nI_clamp, nI_leI, nI_ltI, nI_eq, nI_add, pk_mul, vp_in_nI, nI_1, true_and, and_true, true_implies, implies_true, not_true_eq_false, not_false_eq_true, false_implies, psh, nn_some, forall_const]
        rw [R2.ai, hts]
        have e113 : ∀ v, (if isSg (ai r 1 q) then ai r 1 q else -2) = v → wp (d + 1) K_X12_advance 113 [vi v, vr (some a)] [(0, vr (some a))] h2 Q := fun v ev => by
          rw [rb_X12_advance_113 _ _ _ R2.1]
          simp only [nn_some, R2.1.1, true_and, bk_X12_advance_120]
          refine H _ ?_
          have R3 := R2.FI 1451 v
          rw [stk_s] at R3
          rw [R3.gi, hps, nI_1, ev]
          have R4 := R3.FI 1447 (nI (q + 1))
          rw [stk_p] at R4
          exact R4
        refine ⟨fun z3 => e113 (-2) (by rw [if_neg (by rw [z3]; exact Bool.false_ne_true)]), fun z3 => e113 _ (by rw [if_pos (bt z3)])⟩
      · rw [if_pos (bt z2)] at H
        rw [rb_X12_advance_49 _ R2.1]
        have R3 := R2.FI 1451 0
        rw [stk_s] at R3
        exact L2 (n - q) q q 0 _ (by omega) (Nat.le_refl _) R3 H
    · have z := Classical.not_not.mp z
      rw [if_pos z] at H
      rw [rb_X12_advance_38 _ R2.1, bk_X12_advance_120]
      refine H _ ?_
      have R3 := R2.FI 1451 (-1)
      rw [stk_s] at R3
      exact R3
  have L1 : ∀ f q s0 w0 a0 (h : AH), q + f = n → RW (stk r (nI q) a0 s0 w0) h a → (∀ h', RW (tokP r (ai r 1) n (skB (ai r 1) f q)) h' a → Q none h') → wp (d + 1) K_X12_advance 0 [] [(0, vr (some a))] h Q := by
    intro f
    induction f with
    | zero =>
      intro q s0 w0 a0 h hq R H
      rw [rb_X12_advance_0 _ R.1, R.gi, R.gi, hps, hns]
      simp (disch := omega) only [nI_clamp, nI_leI, nI_ltI, nI_eq, nI_add, pk_mul, vp_in_nI, nI_1, true_and, and_true, true_implies, implies_true, not_true_eq_false, not_false_eq_true, false_implies, psh, nn_some, forall_const, show n ≤ q by omega]
      exact T q s0 w0 a0 h (by omega) R H
    | succ f ih =>
      intro q s0 w0 a0 h hq R H
      rw [rb_X12_advance_0 _ R.1, R.gi, R.gi, hps, hns]
      simp (disch := omega) only [nI_clamp, nI_leI, nI_ltI, nI_eq, nI_add, pk_mul, vp_in_nI, nI_1, true_and, and_true, true_implies, implies_true, not_true_eq_false, not_false_eq_true, false_implies, psh, nn_some, forall_const, show ¬ n ≤ q by omega]
      rw [rb_X12_advance_5 _ R.1, rb_X12_advance_12 _ R.1, R.gi, hps]
      simp (disch := omega) only [nI_clamp, nI_leI, nI_ltI, nI_eq, nI_add, pk_mul, vp_in_nI, nI_1, true_and, and_true, true_implies, implies_true, not_true_eq_false, not_false_eq_true, false_implies, psh, nn_some, forall_const]
      rw [R.ai, hts]
      rw [skB] at H
      have go : isBl (ai r 1 q) = true → wp (d + 1) K_X12_advance 19 [] [(0, vr (some a))] h Q := fun z => by
        rw [if_pos z] at H
        rw [rb_X12_advance_19 _ R.1, R.gi, hps, nI_1]
        have R2 := R.FI 1447 (nI (q + 1))
        rw [stk_p] at R2
        exact ih (q + 1) s0 w0 a0 _ (by omega) R2 H
      refine ⟨fun z => go (decide_eq_true (Or.inl z)), fun z => ⟨fun z2 => ?_, fun z2 => go (decide_eq_true (Or.inr (Classical.not_not.mp z2)))⟩⟩
      rw [if_neg] at H
      · exact T q s0 w0 a0 h (by omega) R H
      · intro q
        rcases of_decide_eq_true q with q | q
        · exact z q
        · exact z2 q
  refine L1 (n - p) p (gi r 1451) (gl r 21450) (gi r 1449) h (by omega) ?_ H
  rw [← hp, stk_self]
  exact R
end
