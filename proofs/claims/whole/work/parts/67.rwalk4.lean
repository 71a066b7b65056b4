/-! The reference's walking: the loop -/
def wkI (r : RV) (w m : Nat) (x : Int64) : RV := pusF (sI (sI (sI (sI (sL r 21464 x) 1465 0) 1466 0) 11468 0) 1469 0) (tn (ai r 17 (w * 12 + m)))
/-- the next statement of the innermost frame -/
def wsN (r : RV) : Int32 := ai r 53 (fcN r - 1)
def wsB (r : RV) : Nat := tn (ai r 52 (fcN r - 1))
def wsP (r : RV) : RV := sI r 1469 (nI (fcN r - 1))
def wsQ (r : RV) : RV := tI r 53 (fcN r - 1) (ai r 23 (tn (wsN r)))
/-- one turn of the walking -/
def wsF (r : RV) (w nk nm : Nat) : RV := if gi r 1466 = 0 ∧ ¬ wsN r = -1 then (if okW (wsQ r) then begF (stpW (wsQ r)) w nk nm (tn (wsN r)) else stpW (wsQ r)) else lvF (wsP r) w nk nm (wsB r) (fcN r - 1)
def wrn (r : RV) : Prop := 0 < fcN r ∧ gi r 11468 = 0
def WPR (r : RV) (w nk nm ns nb : Nat) : Prop := BV r w nk nm ns nb ∧ BLK r w ns ∧ gi r 1469 = nI (fcN r) ∧ fcN r < 16 ∧ rf (wsN r) (w * 120) (w * 120 + ns) ∧ ai r 52 (fcN r - 1) = nI (wsB r) ∧ w * 1024 ≤ wsB r ∧ wsB r < w * 1024 + nb ∧ LVQ (wsP r) w nk nm ns (wsB r) ∧ (ai r 40 (wsB r) = 4 → ai r 19 (tn (ai r 41 (wsB r))) = 5 ∨ ai r 19 (tn (ai r 41 (wsB r))) = 6) ∧ (ai r 40 (wsB r) = 5 → gi (lvCl (wsP r) w nk nm (tn (ai r 41 (wsB r)))) 1466 = 1 → gi (lvCl (wsP r) w nk nm (tn (ai r 41 (wsB r)))) 1467 = nI (tn (gi (lvCl (wsP r) w nk nm (tn (ai r 41 (wsB r)))) 1467)) ∧ tn (gi (lvCl (wsP r) w nk nm (tn (ai r 41 (wsB r)))) 1467) < nk)
def gwN (w nk nm ns nb : Nat) : Nat → RV → RV → Prop
  | 0, r, r' => r' = r
  | n + 1, r, r' => wrn r ∧ WPR r w nk nm ns nb ∧ gwN w nk nm ns nb n (wsF r w nk nm) r'
theorem gwN_tr {w nk nm ns nb : Nat} : ∀ {n m : Nat} {r r' r'' : RV}, gwN w nk nm ns nb n r r' → gwN w nk nm ns nb m r' r'' → gwN w nk nm ns nb (n + m) r r'' := by
  intro n
  induction n with
  | zero => intro m r r' r'' h1 h2; rw [Nat.zero_add]; have h1 : r' = r := h1; subst h1; exact h2
  | succ n ih =>
    intro m r r' r'' h1 h2
    rw [show n + 1 + m = (n + m) + 1 by omega]
    exact ⟨h1.1, h1.2.1, ih h1.2.2 h2⟩
section
variable {d : Nat} {h : AH} {a w nk nm ns nb : Nat} {r : RV} {Q : Option V → AH → Prop}
theorem wk_bad (R : RW r h a) (B : BV r w nk nm ns nb) (x : Int32) (y : Int64) (hb : ∀ j, ixO x nm = some j → ai r 17 (w * 12 + j) = -1) (H : Q (some (vi (-3))) h) : wp d K_X12_walk 0 [] [(0, vr (some a)), (1, vi x), (2, vl y)] h Q := by
  have T := R.bq B
  have hw := T.1.1.2.1; have hw2 := B.1.2.1; have hnm := B.2.1.2.1
  rw [bk_X12_walk_0, rb_X12_walk_2 _ _ _ R.1, hw]
  simp (disch := omega) only [nI_clamp, nI_leI, nI_ltI, nI_eq, nI_add, pk_mul, vp_in_nI, nI_1, true_and, and_true, true_implies, implies_true, not_true_eq_false, not_false_eq_true, false_implies, psh, nn_some, forall_const, bk_X12_walk_20]
  rw [R.ai, B.2.1.1]
  rcases ixO_cases x (n := nm) (by omega) with ⟨e, c⟩ | ⟨j, hj, ex, e⟩
  · rcases c with c | ⟨c, c2⟩
    · exact ⟨fun _ => H, fun q => absurd c q⟩
    · exact ⟨fun _ => H, fun _ => ⟨fun _ => H, fun q => absurd c2 q⟩⟩
  · refine ⟨fun _ => H, fun _ => ⟨fun _ => H, fun _ => ?_⟩⟩
    rw [ex, rb_X12_walk_9 _ _ _ R.1, hw, lt12]
    simp (disch := omega) only [nI_clamp, nI_leI, nI_ltI, nI_eq, nI_add, pk_mul, vp_in_nI, nI_1, true_and, and_true, true_implies, implies_true, not_true_eq_false, not_false_eq_true, false_implies, psh, nn_some, forall_const, bk_X12_walk_20]
    rw [R.ai, hb j e]
    exact ⟨fun q => absurd rfl q, fun _ => H⟩
theorem wk_start (R : RW r h a) (B : BV r w nk nm ns nb) {j : Nat} (hj : j < nm) (y : Int64) (hb : ¬ ai r 17 (w * 12 + j) = -1) (H : ∀ h', RW (wkI r w j y) h' a → wp (d + 6) K_X12_walk 48 [] [(0, vr (some a)), (1, vi (nI j)), (2, vl y)] h' Q) : wp (d + 6) K_X12_walk 0 [] [(0, vr (some a)), (1, vi (nI j)), (2, vl y)] h Q := by
  have T := R.bq B
  have hw := T.1.1.2.1; have hw2 := B.1.2.1; have hnm := B.2.1.2.1; have hnb := B.2.2.1
  rw [bk_X12_walk_0, rb_X12_walk_2 _ _ _ R.1, hw]
  simp (disch := omega) only [nI_clamp, nI_leI, nI_ltI, nI_eq, nI_add, pk_mul, vp_in_nI, nI_1, true_and, and_true, true_implies, implies_true, not_true_eq_false, not_false_eq_true, false_implies, psh, nn_some, forall_const]
  rw [R.ai, B.2.1.1]
  simp (disch := omega) only [nI_pos, nI_clamp, nI_leI, nI_ltI, nI_eq, nI_add, pk_mul, vp_in_nI, nI_1, true_and, and_true, true_implies, implies_true, not_true_eq_false, not_false_eq_true, false_implies, psh, nn_some, forall_const, show ¬ nm ≤ j by omega]
  rw [rb_X12_walk_9 _ _ _ R.1, hw, lt12]
  simp (disch := omega) only [nI_clamp, nI_leI, nI_ltI, nI_eq, nI_add, pk_mul, vp_in_nI, nI_1, true_and, and_true, true_implies, implies_true, not_true_eq_false, not_false_eq_true, false_implies, psh, nn_some, forall_const]
  rw [R.ai]
  refine ⟨fun _ => ?_, fun q => absurd (Classical.not_not.mp q) hb⟩
  rw [rb_X12_walk_22 _ _ _ R.1]
  have R1 := ((R.FJ 21464 y).FI 1465 0).FI 1466 0
  rw [rb_X12_walk_31 _ _ _ R1.1]
  have R2 := (R1.FI 11468 0).FI 1469 0
  rw [R2.gi]
  have g2 : gi (sI (sI (sI (sI (sL r 21464 y) 1465 0) 1466 0) 11468 0) 1469 0) 1402 = nI w := B.1.1
  rw [g2, lt12]
  simp (disch := omega) only [nI_clamp, nI_leI, nI_ltI, nI_eq, nI_add, pk_mul, vp_in_nI, nI_1, true_and, and_true, true_implies, implies_true, not_true_eq_false, not_false_eq_true, false_implies, psh, nn_some, forall_const]
  rw [R2.ai]
  refine ⟨Or.inl trivial, ?_⟩
  have e17 : ai (sI (sI (sI (sI (sL r 21464 y) 1465 0) 1466 0) 11468 0) 1469 0) 17 (w * 12 + j) = ai r 17 (w * 12 + j) := rfl
  rw [e17]
  rcases B.2.2.2.2.2 j hj with rv | ⟨e1, e2, e3⟩
  · exact absurd rv hb
  · rw [e1]
    refine w_push R2 (by omega) rfl (by show (0 : Nat) < 16; omega) (fun h' R' => ?_)
    exact H h' R'
theorem wk_step (R : RW r h a) (hr : wrn r) (P : WPR r w nk nm ns nb) (x : Int32) (y : Int64) (H : ∀ h', RW (wsF r w nk nm) h' a → wp (d + 6) K_X12_walk 48 [] [(0, vr (some a)), (1, vi x), (2, vl y)] h' Q) : wp (d + 6) K_X12_walk 48 [] [(0, vr (some a)), (1, vi x), (2, vl y)] h Q := by
  obtain ⟨B, K, hf, hf2, hN, h52, b1, b2, LQ, h4, hcl⟩ := P
  have hw2 := B.1.2.1; have hns := B.2.1.2.2.2.1
  have hr1 := hr.1
  unfold wsF at H
  rw [rb_X12_walk_48 _ _ _ R.1, R.gi, hf]
  refine ⟨fun q => absurd q (nI_nle (by omega) (by omega)), fun _ => ?_⟩
  rw [rb_X12_walk_51 _ _ _ R.1, R.gi]
  refine ⟨fun q => absurd hr.2 q, fun _ => ?_⟩
  have ef : gi r 1469 - 1 = nI (fcN r - 1) := by rw [hf, lt1, pk_sub (by omega)]
  rw [rb_X12_walk_54 _ _ _ R.1, R.gi, R.gi, ef]
  simp (disch := omega) only [nI_clamp, nI_leI, nI_ltI, nI_eq, nI_add, pk_mul, vp_in_nI, nI_1, true_and, and_true, true_implies, implies_true, not_true_eq_false, not_false_eq_true, false_implies, psh, nn_some, forall_const]
  rw [R.ai]
  have eN : ai r 53 (fcN r - 1) = wsN r := rfl
  rw [eN]
  have e85 : ¬ (gi r 1466 = 0 ∧ ¬ wsN r = -1) → wp (d + 6) K_X12_walk 85 [] [(0, vr (some a)), (1, vi x), (2, vl y), (4, vi (nI (fcN r - 1))), (5, vi (wsN r))] h Q := fun z => by
    rw [if_neg z] at H
    rw [rb_X12_walk_85 _ _ _ _ _ R.1, R.gi, ef]
    simp (disch := omega) only [nI_clamp, nI_leI, nI_ltI, nI_eq, nI_add, pk_mul, vp_in_nI, nI_1, true_and, and_true, true_implies, implies_true, not_true_eq_false, not_false_eq_true, false_implies, psh, nn_some, forall_const, aI_setFI]
    rw [R.ai, h52]
    have R1 : RW (wsP r) _ a := R.FI 1469 (nI (fcN r - 1))
    have f1 : fcN (wsP r) = fcN r - 1 := by unfold fcN wsP; rw [gi_sI, if_pos rfl]; exact tn_nI (by have : tn (gi r 1469) = fcN r := rfl; omega)
    have g1 : gi (wsP r) 1469 = nI (fcN (wsP r)) := by rw [f1]; unfold wsP; rw [gi_sI, if_pos rfl]
    refine w_leave R1 (BV_FI B (by decide)) K b1 b2 g1 (by rw [f1]; omega) (by omega) LQ h4 hcl (fun h' R' => ?_)
    simp only [psh, bk_X12_walk_98]
    refine wp_cut 4 ?_
    exact H h' R'
  refine ⟨fun z => e85 (fun q => z q.1), fun z => ?_⟩
  have z := Classical.not_not.mp z
  rw [bk_X12_walk_67]
  refine ⟨fun z2 => e85 (fun q => q.2 z2), fun z2 => ?_⟩
  rw [if_pos ⟨z, z2⟩] at H
  rcases hN with hN | ⟨n1, n2, n3⟩
  · exact absurd hN z2
  rw [rb_X12_walk_70 _ _ _ _ _ R.1, n1]
  simp (disch := omega) only [nI_clamp, nI_leI, nI_ltI, nI_eq, nI_add, pk_mul, vp_in_nI, nI_1, true_and, and_true, true_implies, implies_true, not_true_eq_false, not_false_eq_true, false_implies, psh, nn_some, forall_const]
  rw [R.ai]
  have R1 : RW (wsQ r) _ a := R.AI 53 (fcN r - 1) (ai r 23 (tn (wsN r)))
  refine w_isStep R1 (fun h' R' => ?_)
  simp only [psh, bk_X12_walk_80, b2i_0, bk_X12_walk_98]
  refine ⟨fun q => ?_, fun q => ?_⟩
  · rw [if_neg (by rw [q]; decide)] at H
    refine wp_cut 4 ?_
    exact H h' R'
  · rw [if_pos (bt q)] at H
    have B2 : BV (stpW (wsQ r)) w nk nm ns nb := BV_stp (BV_53 B)
    have s1 : ai (stpW (wsQ r)) = ai (wsQ r) := by unfold stpW; split <;> rfl
    have s2 : gi (stpW (wsQ r)) 1469 = gi r 1469 := by unfold stpW; split <;> rfl
    have f2 : fcN (stpW (wsQ r)) = fcN r := by unfold fcN; rw [s2]
    have K2 : BLK (stpW (wsQ r)) w ns := by
      unfold BLK
      rw [s1]
      exact K
    rw [rb_X12_walk_81 _ _ _ _ _ R'.1]
    refine w_begin R' B2 K2 n2 n3 (by rw [f2, s2]; exact hf) (by rw [f2]; exact hf2) (fun h3 R3 => ?_)
    simp only [psh, bk_X12_walk_84, bk_X12_walk_98]
    refine wp_cut 4 ?_
    exact H h3 R3
theorem wk_goes (x : Int32) (y : Int64) : ∀ n (r : RV) (h : AH) (r' : RV), RW r h a → gwN w nk nm ns nb n r r' → (∀ h', RW r' h' a → wp (d + 6) K_X12_walk 48 [] [(0, vr (some a)), (1, vi x), (2, vl y)] h' Q) → wp (d + 6) K_X12_walk 48 [] [(0, vr (some a)), (1, vi x), (2, vl y)] h Q := by
  intro n
  induction n with
  | zero => intro r h r' R g H; have g : r' = r := g; subst g; exact H h R
  | succ n ih =>
    intro r h r' R g H
    exact wk_step R g.1 g.2.1 x y (fun h1 R1 => ih _ h1 r' R1 g.2.2 H)
theorem wk_end (R : RW r h a) (hf : gi r 1469 = nI (fcN r)) (hf2 : fcN r < 17) (hr : ¬ wrn r) (x : Int32) (y : Int64) (H : Q (some (vi (if ¬ gi r 11468 = 0 then -2 else if gi r 1466 = 1 then gi r 1467 else -1))) h) : wp (d + 6) K_X12_walk 48 [] [(0, vr (some a)), (1, vi x), (2, vl y)] h Q := by
  have e99 : wp (d + 6) K_X12_walk 99 [] [(0, vr (some a)), (1, vi x), (2, vl y)] h Q := by
    rw [rb_X12_walk_99 _ _ _ R.1, R.gi]
    refine ⟨fun z => ?_, fun z => ?_⟩
    · rw [if_neg (fun q => q z)] at H
      rw [rb_X12_walk_104 _ _ _ R.1, R.gi]
      refine ⟨fun z2 => ?_, fun z2 => ?_⟩
      · rw [if_neg z2] at H
        rw [bk_X12_walk_111, bk_X12_walk_112]
        exact H
      · rw [if_pos (Classical.not_not.mp z2)] at H
        rw [rb_X12_walk_108 _ _ _ R.1, bk_X12_walk_112, R.gi]
        exact H
    · rw [if_pos z] at H
      rw [bk_X12_walk_102, bk_X12_walk_112]
      exact H
  rw [rb_X12_walk_48 _ _ _ R.1, R.gi, hf]
  refine ⟨fun _ => e99, fun z => ?_⟩
  rw [rb_X12_walk_51 _ _ _ R.1, R.gi]
  refine ⟨fun _ => e99, fun z2 => ?_⟩
  refine absurd ⟨?_, Classical.not_not.mp z2⟩ hr
  by_cases c : fcN r = 0
  · rw [c] at z; exact absurd (by decide) z
  · omega
end
