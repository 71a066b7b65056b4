/-! Contracts of the reference's questions: over, called, tried, parameters, can -/
def ovF (r : RV) (w nk : Nat) (t : Int32) (k best : Nat) : Nat := if fup (fun q b => b && (!hasB t q || bel r w nk q k)) nk 0 (bel r w nk k best) then k else best
/-- the lowest kind over a set -/
def ovS (r : RV) (w nk : Nat) (t : Int32) : Nat := fup (ovF r w nk t) (nk - 1) 1 0
def calS (r : RV) (w nk nm s : Nat) : Int32 := match mN r w nm (al r 24 s) with
  | none => 0
  | some j => if ai r 13 (w * 12 + j) = 0 then thrS r w nk (w * 12 + j) else thrS r w nk (w * 12 + j) ||| one (if mask (fun k => hasB (bcS r (oN (ai r 26 s))) k && chk r w nk k) nk = 0 then 2 else ovS r w nk (mask (fun k => hasB (bcS r (oN (ai r 26 s))) k && chk r w nk k) nk))
def trA (r : RV) (w nk s : Nat) (n : Nat) : Int32 := fup (fun k x => x ||| cgS r w nk (4 * s + k)) n 0 0
def trM (r : RV) (s : Nat) (n : Nat) : Int32 := fup (fun k x => x ||| bcS r (oN (ai r 33 (4 * s + k)))) n 0 0
def trS (r : RV) (w nk nm s : Nat) : Int32 := mask (fun k => hasB (insS r w nk nm s) k && !und r w nk k (trA r w nk s (tn (ai r 32 s)))) nk ||| trM r s (tn (ai r 32 s))
def triS (r : RV) (w nk nm s : Nat) : Int32 := match oN (ai r 28 s) with
  | none => trS r w nk nm s
  | some b => if lfB r (some b) then trS r w nk nm s ||| bcS r (some b) else bcS r (some b)
theorem ovF_le (r : RV) (w nk : Nat) (t : Int32) : ∀ m k x, x < k → fup (ovF r w nk t) m k x < k + m := by
  intro m
  induction m with
  | zero => intro k x h; exact h
  | succ m ih =>
    intro k x h
    rw [fup]
    have := ih (k + 1) (ovF r w nk t k x) (by unfold ovF; split <;> omega)
    omega
theorem ovS_lt {r : RV} {w nk : Nat} {t : Int32} (h4 : 4 ≤ nk) : ovS r w nk t < nk := by
  have := ovF_le r w nk t (nk - 1) 1 0 (by omega)
  unfold ovS
  omega
section
variable {d : Nat} {h : AH} {a w nk nm ns nb : Nat} {Q : Option V → AH → Prop}
theorem q_over (K : KQ h a w nk) (t : Int32) : wp (d + 3) K_X12_over 0 [] [(0, vr (some a)), (1, vi t)] h Q = Q (some (vi (nI (ovS (view h a) w nk t)))) h := by
  have hs := K.1; have hw := K.2.1; have hw2 := K.2.2.1; have hk := K.2.2.2.1; have hn := K.2.2.2.2.1; have hn4 := K.2.2.2.2.2.1
  have I : ∀ k b, k < nk → ∀ m q x, q + m = nk → wp (d + 3) K_X12_over 18 [] [(0, vr (some a)), (1, vi t), (2, vi b), (3, vi (nI k)), (4, vi (b2i x)), (5, vi (nI q))] h Q = wp (d + 3) K_X12_over 42 [] [(0, vr (some a)), (1, vi t), (2, vi b), (3, vi (nI k)), (4, vi (b2i (fup (fun q b => b && (!hasB t q || bel (view h a) w nk q k)) m q x))), (5, vi (nI nk))] h Q := by
    intro k b hkk m
    induction m with
    | zero =>
      intro q x e
      rw [rb_X12_over_18 _ _ _ _ _ _ hs]
      simp (disch := omega) only [hw, hk, nI_clamp, nI_leI, nI_ltI, nI_eq, nI_add, pk_mul, vp_in_nI, nI_1, true_and, and_true, true_implies, implies_true, not_true_eq_false, not_false_eq_true, false_implies, psh, nn_some, forall_const]
      have : q = nk := by omega
      subst this
      simp [fup]
    | succ m ih =>
      intro q x e
      rw [rb_X12_over_18 _ _ _ _ _ _ hs]
      simp (disch := omega) only [hw, hk, nI_clamp, nI_leI, nI_ltI, nI_eq, nI_add, pk_mul, vp_in_nI, nI_1, true_and, and_true, true_implies, implies_true, not_true_eq_false, not_false_eq_true, false_implies, psh, nn_some, forall_const, show ¬ nk ≤ q by omega, bk_X12_over_25, bk_X12_over_38, bk_X12_over_27, bk_X12_over_30, bk_X12_over_36, e_has, b2i_0]
      have nx : ∀ c, wp (d + 3) K_X12_over 39 [vi (b2i c)] [(0, vr (some a)), (1, vi t), (2, vi b), (3, vi (nI k)), (4, vi (b2i x)), (5, vi (nI q))] h Q = wp (d + 3) K_X12_over 42 [] [(0, vr (some a)), (1, vi t), (2, vi b), (3, vi (nI k)), (4, vi (b2i (fup (fun q b => b && (!hasB t q || bel (view h a) w nk q k)) m (q + 1) c))), (5, vi (nI nk))] h Q := fun c => by
        rw [bk_X12_over_39, nI_1, ih (q + 1) c (by omega)]
      rw [rb_X12_over_31 _ _ _ _ _ _ hs, q_isBelow K (by omega) (by omega)]
      simp only [psh, bk_X12_over_38, bk_X12_over_36, bk_X12_over_35, b2i_0]
      rw [show (0 : Int32) = b2i false from rfl, show (1 : Int32) = b2i true from rfl, nx, nx, fup]
      cases x <;> cases hasB t q <;> cases bel (view h a) w nk q k <;> simp
  have S : ∀ k x, k < nk → x < k → ∀ X : Prop, (∀ j2 j3 : Int32, wp (d + 3) K_X12_over 4 [] [(0, vr (some a)), (1, vi t), (2, vi (nI (ovF (view h a) w nk t k x))), (3, vi (nI (k + 1))), (4, vi j2), (5, vi j3)] h Q = X) → wp (d + 3) K_X12_over 18 [] [(0, vr (some a)), (1, vi t), (2, vi (nI x)), (3, vi (nI k)), (4, vi (b2i (bel (view h a) w nk k x))), (5, vi 0)] h Q = X := by
    intro k x h1 h2 X H
    rw [lt0, I k (nI x) h1 nk 0 _ (by omega)]
    simp only [bk_X12_over_42, bk_X12_over_46, bk_X12_over_44, bk_X12_over_47, b2i_0, nI_1]
    unfold ovF at H
    cases c : fup (fun q b => b && (!hasB t q || bel (view h a) w nk q k)) nk 0 (bel (view h a) w nk k x) <;> rw [c] at H <;> simp at H ⊢ <;> exact H _ _
  have L : ∀ m k x j2 j3, k + m = nk → x < k → wp (d + 3) K_X12_over 4 [] [(0, vr (some a)), (1, vi t), (2, vi (nI x)), (3, vi (nI k)), (4, vi j2), (5, vi j3)] h Q = Q (some (vi (nI (fup (ovF (view h a) w nk t) m k x)))) h := by
    intro m
    induction m with
    | zero =>
      intro k x j2 j3 e hx
      rw [rb_X12_over_4_1 _ _ _ _ _ _ hs]
      simp (disch := omega) only [hw, hk, nI_clamp, nI_leI, nI_ltI, nI_eq, nI_add, pk_mul, vp_in_nI, nI_1, true_and, and_true, true_implies, implies_true, not_true_eq_false, not_false_eq_true, false_implies, psh, nn_some, forall_const, bk_X12_over_50_1]
      simp [show nk ≤ k by omega, fup]
    | succ m ih =>
      intro k x j2 j3 e hx
      rw [rb_X12_over_4_1 _ _ _ _ _ _ hs]
      simp (disch := omega) only [hw, hk, nI_clamp, nI_leI, nI_ltI, nI_eq, nI_add, pk_mul, vp_in_nI, nI_1, true_and, and_true, true_implies, implies_true, not_true_eq_false, not_false_eq_true, false_implies, psh, nn_some, forall_const, show ¬ nk ≤ k by omega]
      rw [rb_X12_over_11_1 _ _ _ _ _ _ hs, q_isBelow K (by omega) (by omega)]
      simp only [psh, bk_X12_over_15_1]
      refine S k x (by omega) hx _ (fun j2 j3 => ?_)
      rw [ih (k + 1) _ _ _ (by omega) (by unfold ovF; split <;> omega)]
      rfl
  rw [bk_X12_over_0]
  rw [show ((2 : Nat), vi 0) = (2, vi (nI 0)) from rfl, show ((3 : Nat), vi 1) = (3, vi (nI 1)) from rfl, rb_X12_over_4 _ _ _ _ hs]
  simp (disch := omega) only [hw, hk, nI_clamp, nI_leI, nI_ltI, nI_eq, nI_add, pk_mul, vp_in_nI, nI_1, true_and, and_true, true_implies, implies_true, not_true_eq_false, not_false_eq_true, false_implies, psh, nn_some, forall_const, show ¬ nk ≤ 1 by omega]
  rw [rb_X12_over_11 _ _ _ _ hs, q_isBelow K (by omega) (by omega)]
  simp only [psh, bk_X12_over_15]
  refine S 1 0 (by omega) (by omega) _ (fun j2 j3 => ?_)
  rw [L (nk - 2) 2 _ _ _ (by omega) (by unfold ovF; split <;> omega)]
  unfold ovS
  rw [show nk - 1 = (nk - 2) + 1 by omega]
  rfl
theorem b_called (T : BQ h a w nk nm ns nb) {s : Nat} (h1 : w * 120 ≤ s) (h2 : s < w * 120 + ns) : wp (d + 5) K_X12_called 0 [] [(0, vr (some a)), (1, vi (nI s))] h Q = Q (some (vi (calS (view h a) w nk nm s))) h := by
  have K := T.1.1; have hs := K.1; have hw := K.2.1; have hw2 := K.2.2.1; have hk := K.2.2.2.1; have hn := K.2.2.2.2.1; have hn4 := K.2.2.2.2.2.1
  have hns := T.1.2.2.2.2.1
  rw [rb_X12_called_0 _ _ hs]
  simp (disch := omega) only [nI_clamp, nI_leI, nI_ltI, nI_eq, nI_add, pk_mul, vp_in_nI, nI_1, true_and, and_true, true_implies, implies_true, not_true_eq_false, not_false_eq_true, false_implies, psh, nn_some, forall_const]
  rw [t_methodOf T.1]
  simp only [psh]
  rw [rb_X12_called_6 _ _ _ hs, t_throwsOf T.1]
  simp only [psh, bk_X12_called_10]
  unfold calS
  show _ = Q (some (vi (match mN (view h a) w nm (aJ h (a + 24) s) with
    | none => 0
    | some j => if aI h (a + 13) (w * 12 + j) = 0 then thrS (view h a) w nk (w * 12 + j) else thrS (view h a) w nk (w * 12 + j) ||| one (if mask (fun k => hasB (bcS (view h a) (oN (aI h (a + 26) s))) k && chk (view h a) w nk k) nk = 0 then 2 else ovS (view h a) w nk (mask (fun k => hasB (bcS (view h a) (oN (aI h (a + 26) s))) k && chk (view h a) w nk k) nk))))) h
  have M := T.1.mO (aJ h (a + 24) s)
  cases e : mN (view h a) w nm (aJ h (a + 24) s) with
  | none => simp [oI, bk_X12_called_44, thrO]
  | some j =>
    have := (M j e).1
    simp (disch := omega) only [oI, nI_ne_m1, nI_clamp, nI_leI, nI_ltI, nI_eq, nI_add, pk_mul, vp_in_nI, nI_1, true_and, and_true, true_implies, implies_true, not_true_eq_false, not_false_eq_true, false_implies, psh, nn_some, forall_const, thrO]
    rw [rb_X12_called_14 _ _ _ _ hs]
    simp (disch := omega) only [hw, lt12, nI_clamp, nI_leI, nI_ltI, nI_eq, nI_add, pk_mul, vp_in_nI, nI_1, true_and, and_true, true_implies, implies_true, not_true_eq_false, not_false_eq_true, false_implies, psh, nn_some, forall_const]
    refine ite2 (fun c => ?_) (fun c => ?_)
    · rw [bk_X12_called_44, if_pos c]
    · rw [if_neg c, rb_X12_called_24 _ _ _ _ hs]
      simp (disch := omega) only [nI_clamp, nI_leI, nI_ltI, nI_eq, nI_add, pk_mul, vp_in_nI, nI_1, true_and, and_true, true_implies, implies_true, not_true_eq_false, not_false_eq_true, false_implies, psh, nn_some, forall_const]
      rw [rf_oI (T.2.2.1 s h1 h2).1, b_blockCan T (T.of26 h1 h2), ← rf_oI (T.2.2.1 s h1 h2).1]
      simp only [psh, bk_X12_called_31, nn_some, hs.1, true_and]
      rw [q_checkedOf K]
      simp only [psh, bk_X12_called_32]
      generalize mask (fun k => hasB (bcS (view h a) (oN (aI h (a + 26) s))) k && chk (view h a) w nk k) nk = t
      refine ite3 (fun c2 => ?_) (fun c2 => ?_)
      · rw [bk_X12_called_36, bk_X12_called_41, lt2, e_only1 (by omega)]
        simp only [psh, bk_X12_called_42, bk_X12_called_44_1]
        rw [if_pos c2]
      · rw [rb_X12_called_38 _ _ _ _ _ _ hs, q_over K]
        have := ovS_lt (r := view h a) (w := w) (t := t) hn4
        simp only [psh, bk_X12_called_41]
        rw [e_only1 (by omega)]
        simp only [psh, bk_X12_called_42, bk_X12_called_44_1]
        rw [if_neg c2]
theorem b_tried (T : BQ h a w nk nm ns nb) {s : Nat} (h1 : w * 120 ≤ s) (h2 : s < w * 120 + ns) : wp (d + 5) K_X12_tried 0 [] [(0, vr (some a)), (1, vi (nI s))] h Q = Q (some (vi (triS (view h a) w nk nm s))) h := by
  have K := T.1.1; have hs := K.1; have hw := K.2.1; have hw2 := K.2.2.1; have hk := K.2.2.2.1; have hn := K.2.2.2.2.1; have hn4 := K.2.2.2.2.2.1
  have hns := T.1.2.2.2.2.1
  have hnb := T.2.1
  obtain ⟨-, hc, hcs, -⟩ := T.1.2.2.2.2.2.2 s h1 h2
  have hc4 := hc.2
  obtain ⟨-, -, h28, hcb, -⟩ := T.2.2.1 s h1 h2
  rw [rb_X12_tried_0 _ _ hs, b_inside T h1 h2]
  simp only [psh, bk_X12_tried_3]
  have L : ∀ m k x y, k + m = tn (aI h (a + 32) s) → wp (d + 5) K_X12_tried 10 [] [(0, vr (some a)), (1, vi (nI s)), (2, vi (insS (view h a) w nk nm s)), (3, vi x), (4, vi y), (5, vi (nI k))] h Q = wp (d + 5) K_X12_tried 41 [] [(0, vr (some a)), (1, vi (nI s)), (2, vi (insS (view h a) w nk nm s)), (3, vi (fup (fun k x => x ||| cgS (view h a) w nk (4 * s + k)) m k x)), (4, vi (fup (fun k x => x ||| bcS (view h a) (oN (ai (view h a) 33 (4 * s + k)))) m k y)), (5, vi (nI (k + m)))] h Q := by
    intro m
    induction m with
    | zero =>
      intro k x y e
      rw [rb_X12_tried_10 _ _ _ _ _ _ hs]
      simp (disch := omega) only [nI_clamp, nI_leI, nI_ltI, nI_eq, nI_add, pk_mul, vp_in_nI, nI_1, true_and, and_true, true_implies, implies_true, not_true_eq_false, not_false_eq_true, false_implies, psh, nn_some, forall_const]
      rw [hc.1]
      simp (disch := omega) only [nI_clamp, nI_leI, nI_ltI, nI_eq, nI_add, pk_mul, vp_in_nI, nI_1, true_and, and_true, true_implies, implies_true, not_true_eq_false, not_false_eq_true, false_implies, psh, nn_some, forall_const]
      simp [show tn (aI h (a + 32) s) ≤ k by omega, fup]
    | succ m ih =>
      intro k x y e
      rw [rb_X12_tried_10 _ _ _ _ _ _ hs]
      simp (disch := omega) only [nI_clamp, nI_leI, nI_ltI, nI_eq, nI_add, pk_mul, vp_in_nI, nI_1, true_and, and_true, true_implies, implies_true, not_true_eq_false, not_false_eq_true, false_implies, psh, nn_some, forall_const]
      rw [hc.1]
      simp (disch := omega) only [nI_clamp, nI_leI, nI_ltI, nI_eq, nI_add, pk_mul, vp_in_nI, nI_1, true_and, and_true, true_implies, implies_true, not_true_eq_false, not_false_eq_true, false_implies, psh, nn_some, forall_const, show ¬ tn (aI h (a + 32) s) ≤ k by omega]
      rw [rb_X12_tried_16 _ _ _ _ _ _ hs, lt4]
      simp (disch := omega) only [nI_clamp, nI_leI, nI_ltI, nI_eq, nI_add, pk_mul, vp_in_nI, nI_1, true_and, and_true, true_implies, implies_true, not_true_eq_false, not_false_eq_true, false_implies, psh, nn_some, forall_const]
      rw [q_caughtBy K (by omega) (hcs k (by omega)).1]
      simp only [psh]
      rw [rb_X12_tried_24 _ _ _ _ _ _ _ _ hs, lt4]
      simp (disch := omega) only [nI_clamp, nI_leI, nI_ltI, nI_eq, nI_add, pk_mul, vp_in_nI, nI_1, true_and, and_true, true_implies, implies_true, not_true_eq_false, not_false_eq_true, false_implies, psh, nn_some, forall_const]
      rw [rf_oI (hcb k (by omega)), b_blockCan T (T.of33 (i := k) h1 h2 (by omega))]
      simp only [psh, bk_X12_tried_37, nI_1]
      rw [ih (k + 1) _ _ (by omega), show k + 1 + m = k + (m + 1) by omega]
      rfl
  rw [show ((5 : Nat), vi 0) = (5, vi (nI 0)) from rfl, L (tn (aI h (a + 32) s)) 0 0 0 (by omega), rb_X12_tried_41 _ _ _ _ _ _ hs, q_without K]
  simp only [psh]
  rw [rb_X12_tried_45 _ _ _ _ _ _ _ hs]
  simp (disch := omega) only [nI_clamp, nI_leI, nI_ltI, nI_eq, nI_add, pk_mul, vp_in_nI, nI_1, true_and, and_true, true_implies, implies_true, not_true_eq_false, not_false_eq_true, false_implies, psh, nn_some, forall_const]
  show _ = Q (some (vi (match oN (aI h (a + 28) s) with
    | none => trS (view h a) w nk nm s
    | some b => if lfB (view h a) (some b) then trS (view h a) w nk nm s ||| bcS (view h a) (some b) else bcS (view h a) (some b)))) h
  have e0 : (mask (fun k => hasB (insS (view h a) w nk nm s) k && !und (view h a) w nk k (fup (fun k x => x ||| cgS (view h a) w nk (4 * s + k)) (tn (aI h (a + 32) s)) 0 0)) nk ||| fup (fun k x => x ||| bcS (view h a) (oN (ai (view h a) 33 (4 * s + k)))) (tn (aI h (a + 32) s)) 0 0) = trS (view h a) w nk nm s := rfl
  rw [e0]
  have ob := T.of28 h1 h2
  cases e : oN (aI h (a + 28) s) with
  | none => simp [rf_none e, bk_X12_tried_54, bk_X12_tried_78]
  | some b =>
    have eb := (rf_some h28 e).1
    have lb := (rf_some h28 e).2
    rw [eb]
    simp (disch := omega) only [nI_ne_m1, nI_clamp, nI_leI, nI_ltI, nI_eq, nI_add, pk_mul, vp_in_nI, nI_1, true_and, and_true, true_implies, implies_true, not_true_eq_false, not_false_eq_true, false_implies, psh, nn_some, forall_const]
    rw [rb_X12_tried_56 _ _ _ _ _ _ hs]
    simp (disch := omega) only [nI_clamp, nI_leI, nI_ltI, nI_eq, nI_add, pk_mul, vp_in_nI, nI_1, true_and, and_true, true_implies, implies_true, not_true_eq_false, not_false_eq_true, false_implies, psh, nn_some, forall_const]
    have ob' : ∀ b', some b = some b' → w * 1024 ≤ b' ∧ b' < w * 1024 + nb := fun b' e' => by cases e'; exact lb
    rw [eb, show vi (nI b) = vi (oI (some b)) from rfl, b_isLeft T ob']
    simp only [psh, bk_X12_tried_62, b2i_0]
    rw [rb_X12_tried_72 _ _ _ _ _ _ hs, rb_X12_tried_63 _ _ _ _ _ _ hs]
    simp (disch := omega) only [nI_clamp, nI_leI, nI_ltI, nI_eq, nI_add, pk_mul, vp_in_nI, nI_1, true_and, and_true, true_implies, implies_true, not_true_eq_false, not_false_eq_true, false_implies, psh, nn_some, forall_const]
    rw [eb, show vi (nI b) = vi (oI (some b)) from rfl, b_blockCan T ob', b_blockCan T ob']
    simp only [psh, bk_X12_tried_78, bk_X12_tried_70]
    cases lfB (view h a) (some b) <;> simp
end
