/-! Contracts of the reference's questions: names, catches, blocks -/
/-- the whole of what questions need of the reference's tree: w the half, nk kinds, nm methods, ns statements -/
def TQ (h : AH) (a w nk nm ns : Nat) : Prop := KQ h a w nk ∧ aI h (a + 8) w = nI nm ∧ nm ≤ 12 ∧ aI h (a + 18) w = nI ns ∧ ns ≤ 120 ∧ (∀ m, m < nm → cnt (aI h (a + 14) (w * 12 + m)) 4) ∧
  ∀ s, w * 120 ≤ s → s < w * 120 + ns → cnt (aI h (a + 29) s) 4 ∧ cnt (aI h (a + 32) s) 4 ∧ (∀ i, i < tn (aI h (a + 32) s) → cnt (aI h (a + 36) (4 * s + i)) 4 ∧ (aI h (a + 33) (4 * s + i) = -1 ∨ idx (aI h (a + 33) (4 * s + i)) 2048)) ∧ (aI h (a + 23) s = -1 ∨ (idx (aI h (a + 23) s) (w * 120 + ns) ∧ s < tn (aI h (a + 23) s))) ∧ (aI h (a + 26) s = -1 ∨ idx (aI h (a + 26) s) 2048) ∧ (aI h (a + 27) s = -1 ∨ idx (aI h (a + 27) s) 2048) ∧ (aI h (a + 28) s = -1 ∨ idx (aI h (a + 28) s) 2048)
theorem mN_lt {r : RV} {w nm : Nat} {x : Int64} {m : Nat} (e : mN r w nm x = some m) : m < nm := by
  have := (ffst_some e).2.1
  omega
section
variable {d : Nat} {h : AH} {a w nk nm ns : Nat} {Q : Option V → AH → Prop}
theorem TQ.mO (T : TQ h a w nk nm ns) (x : Int64) : ∀ j, mN (view h a) w nm x = some j → j < 12 ∧ cnt (aI h (a + 14) (w * 12 + j)) 4 := fun j e => by
  have := mN_lt e
  have := T.2.2.1
  exact ⟨by omega, T.2.2.2.2.2.1 j (by omega)⟩
theorem t_methodOf (T : TQ h a w nk nm ns) (x : Int64) : wp d K_X12_methodOf 0 [] [(0, vr (some a)), (1, vl x)] h Q = Q (some (vi (oI (mN (view h a) w nm x)))) h := q_methodOf T.1.1 T.1.2.1 T.1.2.2.1 T.2.1 T.2.2.1 x
theorem t_throwsOf (T : TQ h a w nk nm ns) (x : Int64) : wp (d + 1) K_X12_throwsOf 0 [] [(0, vr (some a)), (1, vi (oI (mN (view h a) w nm x)))] h Q = Q (some (vi (thrO (view h a) w nk (mN (view h a) w nm x)))) h := q_throwsOf T.1 _ (T.mO x)
/-- the kinds that the names of statement s stand for -/
def nmS (r : RV) (w nk nm s : Nat) : Int32 := fup (fun k x => x ||| (if ai r 19 s = 9 then thrO r w nk (mN r w nm (al r 30 (4 * s + k))) else onlyO (kN r w nk (al r 30 (4 * s + k)) (ai r 31 (4 * s + k))))) (tn (ai r 29 s)) 0 0
theorem t_namesOf (T : TQ h a w nk nm ns) {s : Nat} (h1 : w * 120 ≤ s) (h2 : s < w * 120 + ns) : wp (d + 2) K_X12_namesOf 0 [] [(0, vr (some a)), (1, vi (nI s))] h Q = Q (some (vi (nmS (view h a) w nk nm s))) h := by
  have K := T.1; have hs := K.1; have hw := K.2.1; have hw2 := K.2.2.1; have hk := K.2.2.2.1; have hn := K.2.2.2.2.1
  have hc := (T.2.2.2.2.2.2 s h1 h2).1
  have hns := T.2.2.2.2.1
  have hc4 := hc.2
  have L : ∀ m k x, k + m = tn (aI h (a + 29) s) → wp (d + 2) K_X12_namesOf 4 [] [(0, vr (some a)), (1, vi (nI s)), (2, vi x), (3, vi (nI k))] h Q = Q (some (vi (fup (fun k x => x ||| (if ai (view h a) 19 s = 9 then thrO (view h a) w nk (mN (view h a) w nm (al (view h a) 30 (4 * s + k))) else onlyO (kN (view h a) w nk (al (view h a) 30 (4 * s + k)) (ai (view h a) 31 (4 * s + k))))) m k x))) h := by
    intro m
    induction m with
    | zero =>
      intro k x e
      rw [rb_X12_namesOf_4 _ _ _ _ hs]
      simp (disch := omega) only [nI_clamp, nI_leI, nI_ltI, nI_eq, nI_add, pk_mul, vp_in_nI, nI_1, true_and, and_true, true_implies, implies_true, not_true_eq_false, not_false_eq_true, false_implies, psh, nn_some, forall_const]
      rw [hc.1]
      simp (disch := omega) only [nI_clamp, nI_leI, nI_ltI, nI_eq, nI_add, pk_mul, vp_in_nI, nI_1, true_and, and_true, true_implies, implies_true, not_true_eq_false, not_false_eq_true, false_implies, psh, nn_some, forall_const, bk_X12_namesOf_53]
      simp [show tn (aI h (a + 29) s) ≤ k by omega, fup]
    | succ m ih =>
      intro k x e
      rw [rb_X12_namesOf_4 _ _ _ _ hs]
      simp (disch := omega) only [nI_clamp, nI_leI, nI_ltI, nI_eq, nI_add, pk_mul, vp_in_nI, nI_1, true_and, and_true, true_implies, implies_true, not_true_eq_false, not_false_eq_true, false_implies, psh, nn_some, forall_const]
      rw [hc.1]
      simp (disch := omega) only [nI_clamp, nI_leI, nI_ltI, nI_eq, nI_add, pk_mul, vp_in_nI, nI_1, true_and, and_true, true_implies, implies_true, not_true_eq_false, not_false_eq_true, false_implies, psh, nn_some, forall_const, show ¬ tn (aI h (a + 29) s) ≤ k by omega]
      rw [rb_X12_namesOf_10 _ _ _ _ hs]
      simp (disch := omega) only [nI_clamp, nI_leI, nI_ltI, nI_eq, nI_add, pk_mul, vp_in_nI, nI_1, true_and, and_true, true_implies, implies_true, not_true_eq_false, not_false_eq_true, false_implies, psh, nn_some, forall_const]
      rw [fup]
      refine ite3 (fun c => ?_) (fun c => ?_)
      · rw [rb_X12_namesOf_17 _ _ _ _ _ hs, lt4]
        simp (disch := omega) only [nI_clamp, nI_leI, nI_ltI, nI_eq, nI_add, pk_mul, vp_in_nI, nI_1, true_and, and_true, true_implies, implies_true, not_true_eq_false, not_false_eq_true, false_implies, psh, nn_some, forall_const]
        rw [t_methodOf T]
        simp only [psh, bk_X12_namesOf_28, nn_some, hs.1, true_and]
        rw [t_throwsOf T]
        simp only [psh, bk_X12_namesOf_29, bk_X12_namesOf_49, nI_1]
        have c : ai (view h a) 19 s = 9 := c
        rw [ih (k + 1) _ (by omega), if_pos c]
        rfl
      · rw [rb_X12_namesOf_30 _ _ _ _ _ hs, lt4]
        simp (disch := omega) only [nI_clamp, nI_leI, nI_ltI, nI_eq, nI_add, pk_mul, vp_in_nI, nI_1, true_and, and_true, true_implies, implies_true, not_true_eq_false, not_false_eq_true, false_implies, psh, nn_some, forall_const]
        rw [q_kindOf K]
        simp only [psh, bk_X12_namesOf_48]
        rw [e_only _ (kN_ok hn)]
        simp only [psh, bk_X12_namesOf_49, nI_1]
        have c : ¬ ai (view h a) 19 s = 9 := c
        rw [ih (k + 1) _ (by omega), if_neg c]
        rfl
  rw [bk_X12_namesOf_0]
  exact L _ 0 0 (Nat.zero_add _)
def cgK (r : RV) (w nk c k : Nat) : Option Nat := kN r w nk (al r 37 (4 * c + k)) (ai r 38 (4 * c + k))
def cgS (r : RV) (w nk c : Nat) : Int32 := fup (fun k x => x ||| onlyO (cgK r w nk c k)) (tn (ai r 36 c)) 0 0
theorem q_caughtKind (K : KQ h a w nk) {c k : Nat} (hc : c < 960) (hk4 : k < 4) : wp (d + 1) K_X12_caughtKind 0 [] [(0, vr (some a)), (1, vi (nI c)), (2, vi (nI k))] h Q = Q (some (vi (oI (cgK (view h a) w nk c k)))) h := by
  rw [rb_X12_caughtKind_0 _ _ _ K.1, lt4]
  simp (disch := omega) only [nI_clamp, nI_leI, nI_ltI, nI_eq, nI_add, pk_mul, vp_in_nI, nI_1, true_and, and_true, true_implies, implies_true, not_true_eq_false, not_false_eq_true, false_implies, psh, nn_some, forall_const]
  rw [q_kindOf K]
  simp only [psh, bk_X12_caughtKind_18]
  rfl
theorem q_caughtBy (K : KQ h a w nk) {c : Nat} (hc : c < 960) (hq : cnt (aI h (a + 36) c) 4) : wp (d + 2) K_X12_caughtBy 0 [] [(0, vr (some a)), (1, vi (nI c))] h Q = Q (some (vi (cgS (view h a) w nk c))) h := by
  have hs := K.1; have hn := K.2.2.2.2.1
  have hc4 := hq.2
  have L : ∀ m k x, k + m = tn (aI h (a + 36) c) → wp (d + 2) K_X12_caughtBy 4 [] [(0, vr (some a)), (1, vi (nI c)), (2, vi x), (3, vi (nI k))] h Q = Q (some (vi (fup (fun k x => x ||| onlyO (cgK (view h a) w nk c k)) m k x))) h := by
    intro m
    induction m with
    | zero =>
      intro k x e
      rw [rb_X12_caughtBy_4 _ _ _ _ hs]
      simp (disch := omega) only [nI_clamp, nI_leI, nI_ltI, nI_eq, nI_add, pk_mul, vp_in_nI, nI_1, true_and, and_true, true_implies, implies_true, not_true_eq_false, not_false_eq_true, false_implies, psh, nn_some, forall_const]
      rw [hq.1]
      simp (disch := omega) only [nI_clamp, nI_leI, nI_ltI, nI_eq, nI_add, pk_mul, vp_in_nI, nI_1, true_and, and_true, true_implies, implies_true, not_true_eq_false, not_false_eq_true, false_implies, psh, nn_some, forall_const, bk_X12_caughtBy_20]
      simp [show tn (aI h (a + 36) c) ≤ k by omega, fup]
    | succ m ih =>
      intro k x e
      rw [rb_X12_caughtBy_4 _ _ _ _ hs]
      simp (disch := omega) only [nI_clamp, nI_leI, nI_ltI, nI_eq, nI_add, pk_mul, vp_in_nI, nI_1, true_and, and_true, true_implies, implies_true, not_true_eq_false, not_false_eq_true, false_implies, psh, nn_some, forall_const]
      rw [hq.1]
      simp (disch := omega) only [nI_clamp, nI_leI, nI_ltI, nI_eq, nI_add, pk_mul, vp_in_nI, nI_1, true_and, and_true, true_implies, implies_true, not_true_eq_false, not_false_eq_true, false_implies, psh, nn_some, forall_const, show ¬ tn (aI h (a + 36) c) ≤ k by omega]
      rw [rb_X12_caughtBy_10 _ _ _ _ hs, q_caughtKind K hc (by omega)]
      simp only [psh, bk_X12_caughtBy_15]
      rw [e_only (cgK (view h a) w nk c k) (kN_ok hn)]
      simp only [psh, bk_X12_caughtBy_16, nI_1]
      rw [ih (k + 1) _ (by omega)]
      rfl
  rw [bk_X12_caughtBy_0]
  exact L _ 0 0 (Nat.zero_add _)
/-- the kinds of the catches ahead of number i of statement s -/
def ahd (r : RV) (w nk s i : Nat) : Int32 := fup (fun k x => x ||| cgS r w nk k) i (4 * s) 0
theorem t_ahead (T : TQ h a w nk nm ns) {s i : Nat} (h1 : w * 120 ≤ s) (h2 : s < w * 120 + ns) (hi : i < tn (aI h (a + 32) s)) : wp (d + 3) K_X12_ahead 0 [] [(0, vr (some a)), (1, vi (nI (4 * s + i)))] h Q = Q (some (vi (ahd (view h a) w nk s i))) h := by
  have K := T.1; have hs := K.1; have hw2 := K.2.2.1
  have hns := T.2.2.2.2.1
  obtain ⟨-, hc, hcs, -⟩ := T.2.2.2.2.2.2 s h1 h2
  have hc4 := hc.2
  have L : ∀ m k x, k + m = i → wp (d + 3) K_X12_ahead 8 [] [(0, vr (some a)), (1, vi (nI (4 * s + i))), (2, vi x), (3, vi (nI (4 * s + k)))] h Q = Q (some (vi (fup (fun k x => x ||| cgS (view h a) w nk k) m (4 * s + k) x))) h := by
    intro m
    induction m with
    | zero =>
      intro k x e
      rw [bk_X12_ahead_8]
      simp (disch := omega) only [nI_clamp, nI_leI, nI_ltI, nI_eq, nI_add, pk_mul, vp_in_nI, nI_1, true_and, and_true, true_implies, implies_true, not_true_eq_false, not_false_eq_true, false_implies, psh, nn_some, forall_const, bk_X12_ahead_19]
      simp [show i ≤ k by omega, fup]
    | succ m ih =>
      intro k x e
      rw [bk_X12_ahead_8]
      simp (disch := omega) only [nI_clamp, nI_leI, nI_ltI, nI_eq, nI_add, pk_mul, vp_in_nI, nI_1, true_and, and_true, true_implies, implies_true, not_true_eq_false, not_false_eq_true, false_implies, psh, nn_some, forall_const, show ¬ 4 * s + i ≤ 4 * s + k by omega]
      rw [rb_X12_ahead_11 _ _ _ _ hs, q_caughtBy K (by omega) (hcs k (by omega)).1]
      simp only [psh, bk_X12_ahead_15, nI_1]
      rw [show 4 * s + k + 1 = 4 * s + (k + 1) from rfl, ih (k + 1) _ (by omega)]
      rfl
  rw [bk_X12_ahead_0, lt4, pk_div (by omega) (by omega) (by omega), pk_mul, show (4 * s + i) / 4 * 4 = 4 * s + 0 by omega]
  rw [L i 0 0 (by omega)]
  exact propext (and_iff_right (by decide))
end
