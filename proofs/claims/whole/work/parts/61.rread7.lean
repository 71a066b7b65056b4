/-! The reference's reading: the loop -/
def crK (r : RV) (i : Nat) (c : Int64) : RV := tI (tI (tL r 3 i c) 4 i (-1)) 5 i (-1)
def crN (r : RV) (w : Nat) : RV := tI (tI (tI (tI (sI r 1402 (nI w)) 2 w 4) 8 w 0) 18 w 0) 39 w 0
/-- all is cleared in half w -/
def crF (r : RV) (w : Nat) : RV := crK (crK (crK (crK (crN r w) (w * 16) 6384748) (w * 16 + 1) 482854660462) (w * 16 + 2) 465726042981) (w * 16 + 3) 435711799154
def rdI (r : RV) (w : Nat) : RV := advF (sI (sI (sI (crF (sI (sI r 1448 (gi r 1401)) 1401 0) (1 - w)) 1447 0) 1455 0) 1452 (-1))
/-- one turn of the reading -/
def stpF (r : RV) : RV := if gi r 1455 = 0 then (if gl r 21450 = 1802071652 then rkF r else if gl r 21450 = 7823737 then rmF r else faiF r) else if gi r 1451 = 125 then clF r else rsF r
def rng (r : RV) : Prop := gi r 1452 = -1 ∧ (¬ gi r 1455 = 0 ∨ ¬ gi r 1451 = -1)
def PRE (r : RV) : Prop := OB r ∧ cnt (ai r 2 (wN r)) 16 ∧ cnt (ai r 8 (wN r)) 12 ∧ (¬ gi r 1455 = 0 → gi r 1451 = 125 → CB r) ∧ (¬ gi r 1455 = 0 → ¬ gi r 1451 = 125 → SB r)
def goN : Nat → RV → RV → Prop
  | 0, r, r' => r' = r
  | n + 1, r, r' => rng r ∧ PRE r ∧ goN n (stpF r) r'
theorem goN_tr : ∀ {n m : Nat} {r r' r'' : RV}, goN n r r' → goN m r' r'' → goN (n + m) r r'' := by
  intro n
  induction n with
  | zero => intro m r r' r'' h1 h2; rw [Nat.zero_add]; have h1 : r' = r := h1; subst h1; exact h2
  | succ n ih =>
    intro m r r' r'' h1 h2
    rw [show n + 1 + m = (n + m) + 1 by omega]
    exact ⟨h1.1, h1.2.1, ih h1.2.2 h2⟩
theorem goN_one {r : RV} (h1 : rng r) (h2 : PRE r) : goN 1 r (stpF r) := ⟨h1, h2, rfl⟩
section
variable {d : Nat} {h : AH} {a : Nat} {r : RV} {Q : Option V → AH → Prop}
theorem c_clear (R : RW r h a) {w : Nat} (hw : w < 2) (hg : gi r 1402 = nI w) (o : Bool) (H : ∀ h', RW (crF r (if o then 1 - w else w)) h' a → Q none h') : wp d K_X12_clear 0 [] [(0, vr (some a)), (1, vi (b2i o))] h Q := by
  have A : ∀ v, v < 2 → v = (if o then 1 - w else w) → wp d K_X12_clear 10 [vi (nI v), vr (some a)] [(0, vr (some a)), (1, vi (b2i o))] h Q := by
    intro v hv ev
    rw [← ev] at H
    rw [rb_X12_clear_10 _ _ _ _ R.1, nn_some]
    refine ⟨R.1.1, ?_⟩
    simp only [fI_setAI]
    rw [fFI_same]
    simp (disch := omega) only [nI_clamp, nI_leI, nI_ltI, nI_eq, nI_add, pk_mul, vp_in_nI, nI_1, true_and, and_true, true_implies, implies_true, not_true_eq_false, not_false_eq_true, false_implies, psh, nn_some, forall_const]
    have R1 := ((R.FI 1402 (nI v)).AI 2 v 4).AI 8 v 0
    have g1 : gi (tI (tI (sI r 1402 (nI v)) 2 v 4) 8 v 0) 1402 = nI v := by rw [gi_tI, gi_tI, gi_sI, if_pos rfl]
    rw [rb_X12_clear_23 _ _ R1.1]
    simp only [fI_setAI]
    rw [fFI_same]
    simp (disch := omega) only [nI_clamp, nI_leI, nI_ltI, nI_eq, nI_add, pk_mul, vp_in_nI, nI_1, true_and, and_true, true_implies, implies_true, not_true_eq_false, not_false_eq_true, false_implies, psh, nn_some, forall_const]
    have R2 : RW (crN r v) _ a := (R1.AI 18 v 0).AI 39 v 0
    have g2 : gi (crN r v) 1402 = nI v := by unfold crN; rw [gi_tI, gi_tI]; exact g1
    generalize setAI (setAI (setAI (setAI (setFI h 1402 a (nI v)) (a + 2) v 4) (a + 8) v 0) (a + 18) v 0) (a + 39) v 0 = h2 at *
    unfold crF at H
    generalize crN r v = r2 at *
    -- one kind
    have one : ∀ (r : RV) (h : AH) k c, k < 4 → RW r h a → gi r 1402 = nI v → (∀ h', RW (crK r (v * 16 + k) c) h' a → wp d K_X12_clear 37 [] [(0, vr (some a)), (1, vi (b2i o)), (2, vi (nI (k + 1)))] h' Q) → wp d K_X12_clear 63 [vl c, vi (nI (v * 16 + k)), vr (fP h 31404 a)] [(0, vr (some a)), (1, vi (b2i o)), (2, vi (nI k))] h Q := by
      intro r h k c hk R g H
      rw [R.1.p31404, rb_X12_clear_63 _ _ _ _ _ _ R.1, nn_some]
      refine ⟨R.1.t31404, by rw [R.1.l31404]; simp (disch := omega) only [nI_clamp, nI_leI, nI_ltI, nI_eq, nI_add, pk_mul, vp_in_nI, nI_1, true_and, and_true, true_implies, implies_true, not_true_eq_false, not_false_eq_true, false_implies, psh, nn_some, forall_const], ?_⟩
      simp only [fI_setAI, fI_setAJ]
      rw [R.gi, g, lt16]
      simp (disch := omega) only [nI_clamp, nI_leI, nI_ltI, nI_eq, nI_add, pk_mul, vp_in_nI, nI_1, true_and, and_true, true_implies, implies_true, not_true_eq_false, not_false_eq_true, false_implies, psh, nn_some, forall_const, bk_X12_clear_84]
      exact H _ (((R.AJ 3 _ c).AI 4 _ (-1)).AI 5 _ (-1))
    have gk : ∀ (r : RV) i c, gi (crK r i c) 1402 = gi r 1402 := fun _ _ _ => rfl
    have st : ∀ (r : RV) (h : AH) k, k < 4 → RW r h a → gi r 1402 = nI v → (((¬ nI k = 0 → wp d K_X12_clear 52 [vi (nI (v * 16 + k)), vr (fP h 31404 a)] [(0, vr (some a)), (1, vi (b2i o)), (2, vi (nI k))] h Q) ∧ (¬ (¬ nI k = 0) → wp d K_X12_clear 50 [vi (nI (v * 16 + k)), vr (fP h 31404 a)] [(0, vr (some a)), (1, vi (b2i o)), (2, vi (nI k))] h Q))) → wp d K_X12_clear 37 [] [(0, vr (some a)), (1, vi (b2i o)), (2, vi (nI k))] h Q := by
      intro r h k hk R g G
      rw [bk_X12_clear_37, lt4]
      simp (disch := omega) only [nI_clamp, nI_leI, nI_ltI, nI_eq, nI_add, pk_mul, vp_in_nI, nI_1, true_and, and_true, true_implies, implies_true, not_true_eq_false, not_false_eq_true, false_implies, psh, nn_some, forall_const, show ¬ 4 ≤ k by omega]
      rw [rb_X12_clear_40 _ _ _ R.1, R.gi, g, lt16]
      simp (disch := omega) only [nI_clamp, nI_leI, nI_ltI, nI_eq, nI_add, pk_mul, vp_in_nI, nI_1, true_and, and_true, true_implies, implies_true, not_true_eq_false, not_false_eq_true, false_implies, psh, nn_some, forall_const]
      exact G
    refine st r2 h2 0 (by omega) R2 g2 ⟨fun q => absurd rfl q, fun _ => ?_⟩
    rw [bk_X12_clear_50]
    refine one r2 h2 0 _ (by omega) R2 g2 (fun h3 R3 => ?_)
    refine st _ h3 1 (by omega) R3 (by rw [gk]; exact g2) ⟨fun _ => ?_, fun q => absurd (Classical.not_not.mp q) (by decide)⟩
    rw [bk_X12_clear_52]
    refine ⟨fun q => absurd rfl q, fun _ => ?_⟩
    rw [bk_X12_clear_55]
    refine one _ h3 1 _ (by omega) R3 (by rw [gk]; exact g2) (fun h4 R4 => ?_)
    refine st _ h4 2 (by omega) R4 (by rw [gk, gk]; exact g2) ⟨fun _ => ?_, fun q => absurd (Classical.not_not.mp q) (by decide)⟩
    rw [bk_X12_clear_52]
    refine ⟨fun _ => ?_, fun q => absurd (Classical.not_not.mp q) (by decide)⟩
    rw [bk_X12_clear_57]
    refine ⟨fun q => absurd rfl q, fun _ => ?_⟩
    rw [bk_X12_clear_60]
    refine one _ h4 2 _ (by omega) R4 (by rw [gk, gk]; exact g2) (fun h5 R5 => ?_)
    refine st _ h5 3 (by omega) R5 (by rw [gk, gk, gk]; exact g2) ⟨fun _ => ?_, fun q => absurd (Classical.not_not.mp q) (by decide)⟩
    rw [bk_X12_clear_52]
    refine ⟨fun _ => ?_, fun q => absurd (Classical.not_not.mp q) (by decide)⟩
    rw [bk_X12_clear_57]
    refine ⟨fun _ => ?_, fun q => absurd (Classical.not_not.mp q) (by decide)⟩
    rw [bk_X12_clear_62]
    refine one _ h5 3 _ (by omega) R5 (by rw [gk, gk, gk]; exact g2) (fun h6 R6 => ?_)
    rw [bk_X12_clear_37, bk_X12_clear_86]
    exact ⟨fun _ => H h6 R6, fun q => absurd (by decide) q⟩
  rw [bk_X12_clear_0]
  simp only [b2i_0]
  refine ⟨fun z => ?_, fun z => ?_⟩
  · rw [rb_X12_clear_8 _ _ _ R.1, R.gi, hg]
    exact A w hw (by rw [z]; rfl)
  · rw [rb_X12_clear_3 _ _ _ R.1, R.gi, hg, lt1, pk_sub (by omega)]
    exact A (1 - w) (by omega) (by rw [bt z]; rfl)
theorem rd_start (R : RW r h a) {w n : Nat} (hw : w < 2) (hg : gi r 1402 = nI w) (hn : gi r 1401 = nI n) (hn2 : n ≤ 2000) (H : ∀ h', RW (rdI r w) h' a → wp (d + 2) K_X12_read 21 [] [(0, vr (some a))] h' Q) : wp (d + 2) K_X12_read 0 [] [(0, vr (some a))] h Q := by
  rw [rb_X12_read_0 _ R.1, R.gi]
  have R1 := (R.FI 1448 (gi r 1401)).FI 1401 0
  have g1 : gi (sI (sI r 1448 (gi r 1401)) 1401 0) 1402 = nI w := hg
  have g1' : gi (sI (sI r 1448 (gi r 1401)) 1401 0) 1448 = nI n := hn
  unfold rdI at H
  generalize sI (sI r 1448 (gi r 1401)) 1401 0 = r1 at *
  generalize setFI (setFI h 1448 a (gi r 1401)) 1401 a 0 = h1 at *
  rw [show vi 1 = vi (b2i true) from rfl]
  refine c_clear R1 hw g1 true (fun h2 R2 => ?_)
  have R2 : RW (crF r1 (1 - w)) h2 a := R2
  have g2 : gi (crF r1 (1 - w)) 1448 = nI n := g1'
  generalize crF r1 (1 - w) = r2 at *
  simp only [psh]
  rw [rb_X12_read_10 _ R2.1]
  have R3 := ((R2.FI 1447 0).FI 1455 0).FI 1452 (-1)
  rw [rb_X12_read_19 _ R3.1]
  refine c_advance R3 ⟨0, n, rfl, g2, by omega, hn2⟩ (fun h4 R4 => ?_)
  exact H h4 R4
theorem rd_step (R : RW r h a) (hr : rng r) (P : PRE r) (H : ∀ h', RW (stpF r) h' a → wp (d + 7) K_X12_read 21 [] [(0, vr (some a))] h' Q) : wp (d + 7) K_X12_read 21 [] [(0, vr (some a))] h Q := by
  obtain ⟨B, hk, hm, hC, hS⟩ := P
  have hd := B.2.2.2.2
  have hd8 := hd.2
  unfold stpF at H
  have e32 : wp (d + 7) K_X12_read 32 [] [(0, vr (some a))] h Q := by
    rw [rb_X12_read_32 _ R.1, R.gi]
    refine ⟨fun z => ?_, fun z => ?_⟩
    · rw [if_neg z] at H
      rw [rb_X12_read_53 _ R.1, R.gi]
      refine ⟨fun z2 => ?_, fun z2 => ?_⟩
      · rw [if_neg z2] at H
        rw [rb_X12_read_60 _ R.1]
        refine c_readStatement R (hS z z2) (fun h1 R1 => ?_)
        simp only [psh, bk_X12_read_62]
        exact H h1 R1
      · have z2 := Classical.not_not.mp z2
        rw [if_pos z2] at H
        rw [rb_X12_read_57 _ R.1]
        refine c_close R (hC z z2) (fun h1 R1 => ?_)
        simp only [psh, bk_X12_read_59]
        exact H h1 R1
    · rw [if_pos (Classical.not_not.mp z)] at H
      rw [rb_X12_read_35 _ R.1, c_isWord R]
      simp only [psh, bk_X12_read_38, b2i_0]
      refine ⟨fun z2 => ?_, fun z2 => ?_⟩
      · rw [if_neg (of_decide_eq_false z2)] at H
        rw [rb_X12_read_42 _ R.1, c_isWord R]
        simp only [psh, bk_X12_read_45, b2i_0]
        refine ⟨fun z3 => ?_, fun z3 => ?_⟩
        · rw [if_neg (of_decide_eq_false z3)] at H
          rw [rb_X12_read_49 _ R.1]
          refine c_fails R (fun h1 R1 => ?_)
          simp only [psh, bk_X12_read_51]
          exact H h1 R1
        · have z3 : gl r 21450 = 7823737 := of_decide_eq_true (bt z3)
          rw [if_pos z3] at H
          rw [rb_X12_read_46 _ R.1]
          refine c_readMethod R B hm (fun h1 R1 => ?_)
          simp only [psh, bk_X12_read_48]
          exact H h1 R1
      · have z2 : gl r 21450 = 1802071652 := of_decide_eq_true (bt z2)
        rw [if_pos z2] at H
        rw [rb_X12_read_39 _ R.1]
        refine c_readKind R B hk (fun h1 R1 => ?_)
        simp only [psh, bk_X12_read_41]
        exact H h1 R1
  rw [rb_X12_read_21 _ R.1, R.gi]
  refine ⟨fun z => absurd hr.1 z, fun _ => ?_⟩
  rw [rb_X12_read_25 _ R.1, R.gi]
  refine ⟨fun _ => e32, fun z => ?_⟩
  rw [rb_X12_read_28 _ R.1, R.gi]
  refine ⟨fun z2 => ?_, fun _ => e32⟩
  rcases hr.2 with q | q
  · refine absurd ?_ q
    rw [hd.1, lt0] at z
    rw [nI_ltI (by omega) (by omega)] at z
    rw [hd.1, show tn (gi r 1455) = 0 by omega]
    rfl
  · exact absurd z2 q
theorem rd_goes : ∀ n (r : RV) (h : AH) (r' : RV), RW r h a → goN n r r' → (∀ h', RW r' h' a → wp (d + 7) K_X12_read 21 [] [(0, vr (some a))] h' Q) → wp (d + 7) K_X12_read 21 [] [(0, vr (some a))] h Q := by
  intro n
  induction n with
  | zero => intro r h r' R g H; have g : r' = r := g; subst g; exact H h R
  | succ n ih =>
    intro r h r' R g H
    exact rd_step R g.1 g.2.1 (fun h1 R1 => ih _ h1 r' R1 g.2.2 H)
theorem rd_wrong (R : RW r h a) (hr : ¬ gi r 1452 = -1) (H : ∀ h', RW (sI r 1402 (1 - gi r 1402)) h' a → Q (some (vi (-10 - gi r 1452))) h') : wp (d + 7) K_X12_read 21 [] [(0, vr (some a))] h Q := by
  rw [rb_X12_read_21 _ R.1, R.gi]
  refine ⟨fun _ => ?_, fun z => absurd hr z⟩
  rw [rb_X12_read_63 _ R.1, R.gi]
  refine ⟨fun z => absurd z hr, fun _ => ?_⟩
  rw [rb_X12_read_67 _ R.1, R.gi]
  have R1 := R.FI 1402 (1 - gi r 1402)
  rw [R1.gi]
  exact H _ R1
theorem rd_right (R : RW r h a) (hr : gi r 1452 = -1) (hd : gi r 1455 = 0) (hg : gi r 1451 = -1) (H : wp (d + 6) K_X12_judge 0 [] [(0, vr (some a))] h (fun v h1 => wp (d + 7) K_X12_read 80 (psh v []) [(0, vr (some a))] h1 Q)) : wp (d + 7) K_X12_read 21 [] [(0, vr (some a))] h Q := by
  rw [rb_X12_read_21 _ R.1, R.gi]
  refine ⟨fun z => absurd hr z, fun _ => ?_⟩
  rw [rb_X12_read_25 _ R.1, R.gi, hd]
  refine ⟨fun z => absurd z (by decide), fun _ => ?_⟩
  rw [rb_X12_read_28 _ R.1, R.gi]
  refine ⟨fun _ => ?_, fun z => absurd hg z⟩
  rw [rb_X12_read_63 _ R.1, R.gi]
  refine ⟨fun _ => ?_, fun z => absurd hr z⟩
  rw [rb_X12_read_78 _ R.1]
  exact H
end
