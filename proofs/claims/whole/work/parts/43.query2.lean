/-! Contracts of the reference's questions: sets -/
def tn (v : Int32) : Nat := v.toNatClampNeg
/-- v is a count of at most B -/
def cnt (v : Int32) (B : Nat) : Prop := v = nI (tn v) ∧ tn v ≤ B
/-- v is an index below B -/
def idx (v : Int32) (B : Nat) : Prop := v = nI (tn v) ∧ tn v < B
theorem tn_nI {n : Nat} (h : n < 2 ^ 31) : tn (nI n) = n := nI_clamp h
def KQ (h : AH) (a w nk : Nat) : Prop := RS h a ∧ fI h 1402 a = nI w ∧ w < 2 ∧ aI h (a + 2) w = nI nk ∧ nk ≤ 16 ∧ 4 ≤ nk ∧ ∀ k, 0 < k → k < nk → parN (view h a) w nk k < k
theorem lt120 : (120 : Int32) = nI 120 := rfl
theorem lt1024 : (1024 : Int32) = nI 1024 := rfl
theorem or0 (x : Int32) : x ||| 0 = x := Int32.or_zero
theorem e_only1 {d : Nat} {h : AH} {Q : Option V → AH → Prop} {k : Nat} (hk : k < 2 ^ 31) : wp d K_X12_only 0 [] [(0, vi (nI k))] h Q = Q (some (vi (one k))) h := e_only (some k) (fun j e => by cases e; exact hk)
section
variable {d : Nat} {h : AH} {a w nk : Nat} {Q : Option V → AH → Prop}
theorem q_kindOf (K : KQ h a w nk) (x : Int64) (wh : Int32) : wp d K_X12_kindOf 0 [] [(0, vr (some a)), (1, vl x), (3, vi wh)] h Q = Q (some (vi (oI (kN (view h a) w nk x wh)))) h := e_kindOf K.1 K.2.1 K.2.2.1 K.2.2.2.1 K.2.2.2.2.1 x wh
theorem q_parent (K : KQ h a w nk) (k : Nat) (hkk : k < nk) : wp (d + 1) K_X12_parent 0 [] [(0, vr (some a)), (1, vi (nI k))] h Q = Q (some (vi (if k = 0 then -1 else nI (parN (view h a) w nk k)))) h := e_parent K.1 K.2.1 K.2.2.1 K.2.2.2.1 K.2.2.2.2.1 K.2.2.2.2.2.1 k hkk
theorem q_isBelow (K : KQ h a w nk) {x y : Nat} (hx : x < nk) (hy : y < 2 ^ 31) : wp (d + 2) K_X12_isBelow 0 [] [(0, vr (some a)), (1, vi (nI x)), (2, vi (nI y))] h Q = Q (some (vi (b2i (bel (view h a) w nk x y)))) h := e_isBelow K.1 K.2.1 K.2.2.1 K.2.2.2.1 K.2.2.2.2.1 K.2.2.2.2.2.1 K.2.2.2.2.2.2 x y hx hy
theorem q_isChecked (K : KQ h a w nk) {x : Nat} (hx : x < nk) : wp (d + 3) K_X12_isChecked 0 [] [(0, vr (some a)), (1, vi (nI x))] h Q = Q (some (vi (b2i (chk (view h a) w nk x)))) h := e_isChecked K.1 K.2.1 K.2.2.1 K.2.2.2.1 K.2.2.2.2.1 K.2.2.2.2.2.1 K.2.2.2.2.2.2 x hx
theorem q_isUnder (K : KQ h a w nk) {x : Nat} (hx : x < nk) (s : Int32) : wp (d + 3) K_X12_isUnder 0 [] [(0, vr (some a)), (1, vi (nI x)), (2, vi s)] h Q = Q (some (vi (b2i (und (view h a) w nk x s)))) h := e_isUnder K.1 K.2.1 K.2.2.1 K.2.2.2.1 K.2.2.2.2.1 K.2.2.2.2.2.1 K.2.2.2.2.2.2 x hx s
theorem mask_step {p : Nat → Bool} {m k : Nat} {x : Int32} : fup (fun k x => if p k then x ||| one k else x) (m + 1) k x = fup (fun k x => if p k then x ||| one k else x) m (k + 1) (if p k then x ||| one k else x) := rfl
theorem q_without (K : KQ h a w nk) (s t : Int32) : wp (d + 4) K_X12_without 0 [] [(0, vr (some a)), (1, vi s), (2, vi t)] h Q = Q (some (vi (mask (fun k => hasB s k && !und (view h a) w nk k t) nk))) h := by
  have hs := K.1; have hw := K.2.1; have hw2 := K.2.2.1; have hk := K.2.2.2.1; have hn := K.2.2.2.2.1
  have L : ∀ m k x, k + m = nk → wp (d + 4) K_X12_without 4 [] [(0, vr (some a)), (1, vi s), (2, vi t), (3, vi x), (4, vi (nI k))] h Q = Q (some (vi (fup (fun k x => if hasB s k && !und (view h a) w nk k t then x ||| one k else x) m k x))) h := by
    intro m
    induction m with
    | zero =>
      intro k x e
      rw [rb_X12_without_4 _ _ _ _ _ hs]
      simp (disch := omega) only [hw, hk, nI_clamp, nI_leI, nI_ltI, nI_eq, nI_add, pk_mul, vp_in_nI, nI_1, true_and, and_true, true_implies, implies_true, not_true_eq_false, not_false_eq_true, false_implies, psh, nn_some, forall_const, bk_X12_without_29]
      simp [show nk ≤ k by omega, fup]
    | succ m ih =>
      intro k x e
      rw [rb_X12_without_4 _ _ _ _ _ hs]
      simp (disch := omega) only [hw, hk, nI_clamp, nI_leI, nI_ltI, nI_eq, nI_add, pk_mul, vp_in_nI, nI_1, true_and, and_true, true_implies, implies_true, not_true_eq_false, not_false_eq_true, false_implies, psh, nn_some, forall_const, show ¬ nk ≤ k by omega, bk_X12_without_11, bk_X12_without_15, bk_X12_without_24, bk_X12_without_25, e_has, b2i_0, or0]
      rw [rb_X12_without_16 _ _ _ _ _ _ hs, q_isUnder K (by omega)]
      simp (disch := omega) only [psh, bk_X12_without_24, bk_X12_without_25, bk_X12_without_20, bk_X12_without_21, bk_X12_without_23, b2i_0, e_only1, or0, nI_1]
      rw [ih (k + 1) x (by omega), ih (k + 1) (x ||| one k) (by omega), fup]
      cases hasB s k <;> cases und (view h a) w nk k t <;> simp
  rw [bk_X12_without_0]
  exact L nk 0 0 (by omega)
theorem q_checkedOf (K : KQ h a w nk) (s : Int32) : wp (d + 4) K_X12_checkedOf 0 [] [(0, vr (some a)), (1, vi s)] h Q = Q (some (vi (mask (fun k => hasB s k && chk (view h a) w nk k) nk))) h := by
  have hs := K.1; have hw := K.2.1; have hw2 := K.2.2.1; have hk := K.2.2.2.1; have hn := K.2.2.2.2.1
  have L : ∀ m k x, k + m = nk → wp (d + 4) K_X12_checkedOf 4 [] [(0, vr (some a)), (1, vi s), (2, vi x), (3, vi (nI k))] h Q = Q (some (vi (fup (fun k x => if hasB s k && chk (view h a) w nk k then x ||| one k else x) m k x))) h := by
    intro m
    induction m with
    | zero =>
      intro k x e
      rw [rb_X12_checkedOf_4 _ _ _ _ hs]
      simp (disch := omega) only [hw, hk, nI_clamp, nI_leI, nI_ltI, nI_eq, nI_add, pk_mul, vp_in_nI, nI_1, true_and, and_true, true_implies, implies_true, not_true_eq_false, not_false_eq_true, false_implies, psh, nn_some, forall_const, bk_X12_checkedOf_28]
      simp [show nk ≤ k by omega, fup]
    | succ m ih =>
      intro k x e
      rw [rb_X12_checkedOf_4 _ _ _ _ hs]
      simp (disch := omega) only [hw, hk, nI_clamp, nI_leI, nI_ltI, nI_eq, nI_add, pk_mul, vp_in_nI, nI_1, true_and, and_true, true_implies, implies_true, not_true_eq_false, not_false_eq_true, false_implies, psh, nn_some, forall_const, show ¬ nk ≤ k by omega, bk_X12_checkedOf_11, bk_X12_checkedOf_15, bk_X12_checkedOf_23, bk_X12_checkedOf_24, e_has, b2i_0, or0]
      rw [rb_X12_checkedOf_16 _ _ _ _ _ hs, q_isChecked K (by omega)]
      simp (disch := omega) only [psh, bk_X12_checkedOf_23, bk_X12_checkedOf_24, bk_X12_checkedOf_19, bk_X12_checkedOf_20, bk_X12_checkedOf_22, b2i_0, e_only1, or0, nI_1]
      rw [ih (k + 1) x (by omega), ih (k + 1) (x ||| one k) (by omega), fup]
      cases hasB s k <;> cases chk (view h a) w nk k <;> simp
  rw [bk_X12_checkedOf_0]
  exact L nk 0 0 (by omega)
/-- methods -/
def mN (r : RV) (w nm : Nat) (x : Int64) : Option Nat := ffst (fun m => decide (al r 9 (w * 12 + m) = x)) nm 0
theorem q_methodOf (hs : RS h a) (hw : fI h 1402 a = nI w) (hw2 : w < 2) {nm : Nat} (hk : aI h (a + 8) w = nI nm) (hn : nm ≤ 12) (x : Int64) : wp d K_X12_methodOf 0 [] [(0, vr (some a)), (1, vl x)] h Q = Q (some (vi (oI (mN (view h a) w nm x)))) h := by
  have L : ∀ m k, k + m = nm → wp d K_X12_methodOf 2 [] [(0, vr (some a)), (1, vl x), (3, vi (nI k))] h Q = Q (some (vi (oI (ffst (fun m => decide (al (view h a) 9 (w * 12 + m) = x)) m k)))) h := by
    intro m
    induction m with
    | zero =>
      intro k e
      rw [rb_X12_methodOf_2 _ _ _ hs]
      simp (disch := omega) only [hw, hk, nI_clamp, nI_leI, nI_ltI, nI_eq, nI_add, pk_mul, vp_in_nI, nI_1, true_and, and_true, true_implies, implies_true, not_true_eq_false, not_false_eq_true, false_implies, psh, nn_some, forall_const, bk_X12_methodOf_25]
      simp [show nm ≤ k by omega, ffst, oI]
    | succ m ih =>
      intro k e
      rw [rb_X12_methodOf_2 _ _ _ hs]
      simp (disch := omega) only [hw, hk, nI_clamp, nI_leI, nI_ltI, nI_eq, nI_add, pk_mul, vp_in_nI, nI_1, true_and, and_true, true_implies, implies_true, not_true_eq_false, not_false_eq_true, false_implies, psh, nn_some, forall_const, show ¬ nm ≤ k by omega]
      rw [rb_X12_methodOf_9 _ _ _ hs]
      simp (disch := omega) only [hw, lt12, nI_clamp, nI_leI, nI_ltI, nI_eq, nI_add, pk_mul, vp_in_nI, nI_1, true_and, and_true, true_implies, implies_true, not_true_eq_false, not_false_eq_true, false_implies, psh, nn_some, forall_const, lg0]
      refine ite3 (fun c => ?_) (fun c => ?_)
      · rw [bk_X12_methodOf_21, ffst, if_pos]
        · rfl
        · exact decide_eq_true c
      · rw [bk_X12_methodOf_23, nI_1, ih (k + 1) (by omega), ffst, if_neg]
        exact fun z => c (of_decide_eq_true z)
  rw [bk_X12_methodOf_0]
  exact L nm 0 (by omega)
/-- the kinds behind the throws of method number x -/
def thrS (r : RV) (w nk x : Nat) : Int32 := fup (fun k s => s ||| onlyO (kN r w nk (al r 15 (4 * x + k)) (ai r 16 (4 * x + k)))) (tn (ai r 14 x)) 0 0
def thrO (r : RV) (w nk : Nat) : Option Nat → Int32
  | none => 0
  | some m => thrS r w nk (w * 12 + m)
theorem kN_ok {r : RV} {w nk : Nat} (hn : nk ≤ 16) {x : Int64} {wh : Int32} : ∀ k, kN r w nk x wh = some k → k < 2 ^ 31 := fun k e => by
  have := kN_lt e
  omega
theorem q_throwsOf (K : KQ h a w nk) (m : Option Nat) (hm : ∀ j, m = some j → j < 12 ∧ cnt (aI h (a + 14) (w * 12 + j)) 4) : wp (d + 1) K_X12_throwsOf 0 [] [(0, vr (some a)), (1, vi (oI m))] h Q = Q (some (vi (thrO (view h a) w nk m))) h := by
  have hs := K.1; have hw := K.2.1; have hw2 := K.2.2.1; have hk := K.2.2.2.1; have hn := K.2.2.2.2.1
  rw [rb_X12_throwsOf_0 _ _ hs]
  cases m with
  | none =>
    rw [bk_X12_throwsOf_11]
    simp [oI, bk_X12_throwsOf_44, thrO]
  | some j =>
    obtain ⟨j12, hc⟩ := hm j rfl
    have L : ∀ m k x, k + m = tn (aI h (a + 14) (w * 12 + j)) → wp (d + 1) K_X12_throwsOf 11 [] [(0, vr (some a)), (1, vi (nI j)), (2, vi x), (3, vi (nI (w * 12 + j))), (4, vi (nI k))] h Q = Q (some (vi (fup (fun k s => s ||| onlyO (kN (view h a) w nk (al (view h a) 15 (4 * (w * 12 + j) + k)) (ai (view h a) 16 (4 * (w * 12 + j) + k)))) m k x))) h := by
      intro m
      induction m with
      | zero =>
        intro k x e
        rw [bk_X12_throwsOf_11]
        simp (disch := omega) only [nI_ne_m1, nI_clamp, nI_leI, nI_ltI, nI_eq, nI_add, pk_mul, vp_in_nI, nI_1, true_and, and_true, true_implies, implies_true, not_true_eq_false, not_false_eq_true, false_implies, psh, nn_some, forall_const]
        rw [rb_X12_throwsOf_14 _ _ _ _ _ hs]
        simp (disch := omega) only [nI_clamp, nI_leI, nI_ltI, nI_eq, nI_add, pk_mul, vp_in_nI, nI_1, true_and, and_true, true_implies, implies_true, not_true_eq_false, not_false_eq_true, false_implies, psh, nn_some, forall_const]
        rw [hc.1]
        have := hc.2
        simp (disch := omega) only [nI_clamp, nI_leI, nI_ltI, nI_eq, nI_add, pk_mul, vp_in_nI, nI_1, true_and, and_true, true_implies, implies_true, not_true_eq_false, not_false_eq_true, false_implies, psh, nn_some, forall_const, bk_X12_throwsOf_44]
        simp [show tn (aI h (a + 14) (w * 12 + j)) ≤ k by omega, fup]
      | succ m ih =>
        intro k x e
        rw [bk_X12_throwsOf_11]
        simp (disch := omega) only [nI_ne_m1, nI_clamp, nI_leI, nI_ltI, nI_eq, nI_add, pk_mul, vp_in_nI, nI_1, true_and, and_true, true_implies, implies_true, not_true_eq_false, not_false_eq_true, false_implies, psh, nn_some, forall_const]
        rw [rb_X12_throwsOf_14 _ _ _ _ _ hs]
        simp (disch := omega) only [nI_clamp, nI_leI, nI_ltI, nI_eq, nI_add, pk_mul, vp_in_nI, nI_1, true_and, and_true, true_implies, implies_true, not_true_eq_false, not_false_eq_true, false_implies, psh, nn_some, forall_const]
        rw [hc.1]
        have := hc.2
        simp (disch := omega) only [nI_clamp, nI_leI, nI_ltI, nI_eq, nI_add, pk_mul, vp_in_nI, nI_1, true_and, and_true, true_implies, implies_true, not_true_eq_false, not_false_eq_true, false_implies, psh, nn_some, forall_const, show ¬ tn (aI h (a + 14) (w * 12 + j)) ≤ k by omega]
        rw [rb_X12_throwsOf_20 _ _ _ _ _ hs, lt4]
        simp (disch := omega) only [nI_clamp, nI_leI, nI_ltI, nI_eq, nI_add, pk_mul, vp_in_nI, nI_1, true_and, and_true, true_implies, implies_true, not_true_eq_false, not_false_eq_true, false_implies, psh, nn_some, forall_const]
        rw [q_kindOf K]
        simp only [psh, bk_X12_throwsOf_39]
        rw [e_only _ (kN_ok hn)]
        simp only [psh, bk_X12_throwsOf_40, nI_1]
        exact ih (k + 1) _ (by omega)
    rw [hw, lt12]
    show wp (d + 1) K_X12_throwsOf 11 [] [(0, vr (some a)), (1, vi (nI j)), (2, vi 0), (3, vi (nI w * nI 12 + nI j)), (4, vi 0)] h Q = _
    rw [pk_mul, nI_add]
    exact L _ 0 0 (Nat.zero_add _)
end
