/-! The reference's walking: a block is left; the loop -/
/-- the catch of statement s that takes what is thrown -/
def ctS (r : RV) (w nk s : Nat) : Option Nat := ffst (fun k => und r w nk (tn (gi r 1467)) (cgS r w nk (4 * s + k))) (tn (ai r 32 s)) 0
def finF (r : RV) (s : Nat) : RV := if ai r 28 s = -1 then r else pusF (sI (tI (tI r 54 (fcN r) (gi r 1466)) 55 (fcN r) (gi r 1467)) 1466 0) (tn (ai r 28 s))
def lvL1 (r : RV) (w nk nm s : Nat) : RV := match mN r w nm (al r 24 s) with
  | none => r
  | some m => dtF r w nk (w * 12 + m)
def lvLa (r : RV) (w nk nm s : Nat) : RV := if (if gi r 1466 = 3 then 0 else gi r 1466) = 0 then lvL1 (sI r 1466 (if gi r 1466 = 3 then 0 else gi r 1466)) w nk nm s else sI r 1466 (if gi r 1466 = 3 then 0 else gi r 1466)
def lvT1 (r : RV) (s : Nat) : RV := if ai r 19 s = 6 then pusF r (tn (ai r 26 s)) else if drwV r 2 = 1 then pusF (drwF r) (tn (ai r 26 s)) else drwF r
def lvTu (r : RV) (s : Nat) : RV := if gi r 1466 = 2 ∧ gi r 1467 = nI s then sI r 1466 0 else if gi r 1466 = 0 then (if okW r then lvT1 (stpW r) s else stpW r) else r
def lvC1 (r : RV) (w nk nm s : Nat) (k : Nat) (r' : RV) : RV := match mN r w nm (al r 30 (4 * s + k)) with
  | none => r'
  | some m => dtF r' w nk (w * 12 + m)
/-- the methods in ( ) are closed -/
def lvCl (r : RV) (w nk nm s : Nat) : RV := fdn (lvC1 r w nk nm s) (tn (ai r 29 s)) r
def lvB1 (r : RV) (w nk s : Nat) : RV := if gi r 1466 = 1 then (match ctS r w nk s with
  | none => finF r s
  | some k => pusF (sI (tI r 56 (4 * s + k) (gi r 1467)) 1466 0) (tn (ai r 33 (4 * s + k)))) else finF r s
def lvLs (r : RV) (f : Nat) : RV := if gi r 1466 = 0 then sI (sI r 1466 (ai r 54 f)) 1467 (ai r 55 f) else r
/-- a block is left -/
def lvF (r : RV) (w nk nm b f : Nat) : RV := if ai r 40 b = 1 then lvLa r w nk nm (tn (ai r 41 b)) else if ai r 40 b = 4 then lvTu r (tn (ai r 41 b)) else if ai r 40 b = 5 then lvB1 (lvCl r w nk nm (tn (ai r 41 b))) w nk (tn (ai r 41 b)) else if ai r 40 b = 6 then finF r (tn (ai r 41 b)) else if ai r 40 b = 7 then lvLs r f else r
theorem lvF_1 {r : RV} {w nk nm b f : Nat} (e : ai r 40 b = 1) : lvF r w nk nm b f = lvLa r w nk nm (tn (ai r 41 b)) := by unfold lvF; rw [if_pos e]
theorem lvF_4 {r : RV} {w nk nm b f : Nat} (e : ai r 40 b = 4) : lvF r w nk nm b f = lvTu r (tn (ai r 41 b)) := by unfold lvF; rw [if_neg (by rw [e]; decide), if_pos e]
theorem lvF_5 {r : RV} {w nk nm b f : Nat} (e : ai r 40 b = 5) : lvF r w nk nm b f = lvB1 (lvCl r w nk nm (tn (ai r 41 b))) w nk (tn (ai r 41 b)) := by unfold lvF; rw [if_neg (by rw [e]; decide), if_neg (by rw [e]; decide), if_pos e]
theorem lvF_6 {r : RV} {w nk nm b f : Nat} (e : ai r 40 b = 6) : lvF r w nk nm b f = finF r (tn (ai r 41 b)) := by unfold lvF; rw [if_neg (by rw [e]; decide), if_neg (by rw [e]; decide), if_neg (by rw [e]; decide), if_pos e]
theorem lvF_7 {r : RV} {w nk nm b f : Nat} (e : ai r 40 b = 7) : lvF r w nk nm b f = lvLs r f := by unfold lvF; rw [if_neg (by rw [e]; decide), if_neg (by rw [e]; decide), if_neg (by rw [e]; decide), if_neg (by rw [e]; decide), if_pos e]
theorem lvF_o {r : RV} {w nk nm b f : Nat} (e1 : ¬ ai r 40 b = 1) (e4 : ¬ ai r 40 b = 4) (e5 : ¬ ai r 40 b = 5) (e6 : ¬ ai r 40 b = 6) (e7 : ¬ ai r 40 b = 7) : lvF r w nk nm b f = r := by unfold lvF; rw [if_neg e1, if_neg e4, if_neg e5, if_neg e6, if_neg e7]
/-- what drawing leaves alone: all but the drawn number and what is thrown -/
def dtK (r r' : RV) : Prop := ai r' = ai r ∧ al r' = al r ∧ ∀ f, ¬ f = 1466 → ¬ f = 1467 → gi r' f = gi r f
theorem dtK_tr {r r' r'' : RV} (a : dtK r r') (b : dtK r' r'') : dtK r r'' := ⟨b.1.trans a.1, b.2.1.trans a.2.1, fun f h1 h2 => (b.2.2 f h1 h2).trans (a.2.2 f h1 h2)⟩
theorem dtK_thr (r : RV) (k : Int32) : dtK r (thrW r k) := ⟨rfl, rfl, fun f h1 h2 => by unfold thrW; rw [gi_sI, if_neg h2, gi_sI, if_neg h1]⟩
theorem dtK_dt (r : RV) (w nk x : Nat) : dtK r (dtF r w nk x) := by
  unfold dtF
  have L : ∀ i k (p : RV × Int32), dtK p.1 (fup (dtS r w nk x) i k p).1 := by
    intro i
    induction i with
    | zero => intro k p; exact ⟨rfl, rfl, fun _ _ _ => rfl⟩
    | succ i ih =>
      intro k p
      rw [fup]
      refine dtK_tr ?_ (ih (k + 1) _)
      unfold dtS
      split
      · exact ⟨rfl, rfl, fun _ _ _ => rfl⟩
      · show dtK p.1 (if _ then thrW p.1 _ else p.1)
        split
        · exact dtK_thr _ _
        · exact ⟨rfl, rfl, fun _ _ _ => rfl⟩
  exact dtK_tr ⟨rfl, rfl, fun _ _ _ => rfl⟩ (L _ _ _)
theorem BV_dtK {r r' : RV} {w nk nm ns nb : Nat} (B : BV r w nk nm ns nb) (k : dtK r r') : BV r' w nk nm ns nb := by
  obtain ⟨x1, x2, x3, x4⟩ := r
  obtain ⟨y1, y2, y3, y4⟩ := r'
  obtain ⟨k1, k2, k3⟩ := k
  have e3 : y3 = x3 := k1
  have e4 : y4 = x4 := k2
  subst e3 e4
  have e : gi (y1, y2, y3, y4) 1402 = gi (x1, x2, y3, y4) 1402 := k3 1402 (by decide) (by decide)
  exact ⟨⟨e.trans B.1.1, B.1.2⟩, B.2⟩
section
variable {d : Nat} {h : AH} {a w nk nm ns nb : Nat} {r : RV} {Q : Option V → AH → Prop}
theorem w_finish (R : RW r h a) (B : BV r w nk nm ns nb) {s : Nat} (h1 : w * 120 ≤ s) (h2 : s < w * 120 + ns) (hf : gi r 1469 = nI (fcN r)) (hf2 : fcN r < 16) (H : ∀ h', RW (finF r s) h' a → Q none h') : wp (d + 1) K_X12_finish 0 [] [(0, vr (some a)), (1, vi (nI s))] h Q := by
  have hw2 := B.1.2.1
  have hns := B.2.1.2.2.2.1
  have hnb := B.2.2.1
  obtain ⟨-, -, R28, -⟩ := B.2.2.2.1 s h1 h2
  unfold finF at H
  rw [rb_X12_finish_0 _ _ R.1]
  simp (disch := omega) only [nI_clamp, nI_leI, nI_ltI, nI_eq, nI_add, pk_mul, vp_in_nI, nI_1, true_and, and_true, true_implies, implies_true, not_true_eq_false, not_false_eq_true, false_implies, psh, nn_some, forall_const, bk_X12_finish_29]
  rw [R.ai]
  refine ⟨fun z => by rw [if_pos z] at H; exact H h R, fun z => ?_⟩
  rw [if_neg z] at H
  rw [rb_X12_finish_6 _ _ R.1]
  simp only [fI_setAI]
  rw [R.gi, R.gi, R.gi, hf]
  simp (disch := omega) only [nI_clamp, nI_leI, nI_ltI, nI_eq, nI_add, pk_mul, vp_in_nI, nI_1, true_and, and_true, true_implies, implies_true, not_true_eq_false, not_false_eq_true, false_implies, psh, nn_some, forall_const]
  have R1 := ((R.AI 54 (fcN r) (gi r 1466)).AI 55 (fcN r) (gi r 1467)).FI 1466 0
  rw [rb_X12_finish_23 _ _ R1.1]
  simp (disch := omega) only [nI_clamp, nI_leI, nI_ltI, nI_eq, nI_add, pk_mul, vp_in_nI, nI_1, true_and, and_true, true_implies, implies_true, not_true_eq_false, not_false_eq_true, false_implies, psh, nn_some, forall_const]
  rw [R1.ai]
  have e28 : ai (sI (tI (tI r 54 (fcN r) (gi r 1466)) 55 (fcN r) (gi r 1467)) 1466 0) 28 s = ai r 28 s := by rw [ai_sI, ai_n (by decide), ai_n (by decide)]
  rw [e28]
  have f1 : fcN (sI (tI (tI r 54 (fcN r) (gi r 1466)) 55 (fcN r) (gi r 1467)) 1466 0) = fcN r := rfl
  rcases R28 with rv | ⟨e1, e2, e3⟩
  · exact absurd rv z
  · rw [e1]
    refine w_push R1 (by omega) (by rw [f1]; exact hf) (by rw [f1]; exact hf2) (fun h' R' => ?_)
    simp only [psh, bk_X12_finish_29]
    exact H h' R'
theorem w_catching (R : RW r h a) (B : BV r w nk nm ns nb) {s : Nat} (h1 : w * 120 ≤ s) (h2 : s < w * 120 + ns) (hk : gi r 1467 = nI (tn (gi r 1467))) (hk2 : tn (gi r 1467) < nk) : wp (d + 4) K_X12_catching 0 [] [(0, vr (some a)), (1, vi (nI s))] h Q = Q (some (vi (match ctS r w nk s with | none => -1 | some k => nI (4 * s + k)))) h := by
  have hw2 := B.1.2.1
  have hns := B.2.1.2.2.2.1
  have T := R.bq B
  have K := T.1.1
  obtain ⟨-, hc, hcs, -⟩ := B.2.1.2.2.2.2.2 s h1 h2
  have hc4 := hc.2
  unfold ctS
  generalize tn (gi r 1467) = kk at *
  have L : ∀ m k, k + m = tn (ai r 32 s) → wp (d + 4) K_X12_catching 2 [] [(0, vr (some a)), (1, vi (nI s)), (2, vi (nI k))] h Q = Q (some (vi (match ffst (fun k => und r w nk kk (cgS r w nk (4 * s + k))) m k with | none => -1 | some k => nI (4 * s + k)))) h := by
    intro m
    induction m with
    | zero =>
      intro k e
      rw [rb_X12_catching_2 _ _ _ R.1, nI_clamp (by omega), R.ai, hc.1]
      simp (disch := omega) only [nI_clamp, nI_leI, nI_ltI, nI_eq, nI_add, pk_mul, vp_in_nI, nI_1, true_and, and_true, true_implies, implies_true, not_true_eq_false, not_false_eq_true, false_implies, psh, nn_some, forall_const, show tn (ai r 32 s) ≤ k by omega, bk_X12_catching_28]
      simp [ffst]
    | succ m ih =>
      intro k e
      rw [rb_X12_catching_2 _ _ _ R.1, nI_clamp (by omega), R.ai, hc.1]
      simp (disch := omega) only [nI_clamp, nI_leI, nI_ltI, nI_eq, nI_add, pk_mul, vp_in_nI, nI_1, true_and, and_true, true_implies, implies_true, not_true_eq_false, not_false_eq_true, false_implies, psh, nn_some, forall_const, show ¬ tn (ai r 32 s) ≤ k by omega]
      rw [rb_X12_catching_8 _ _ _ R.1, lt4]
      simp (disch := omega) only [nI_clamp, nI_leI, nI_ltI, nI_eq, nI_add, pk_mul, vp_in_nI, nI_1, true_and, and_true, true_implies, implies_true, not_true_eq_false, not_false_eq_true, false_implies, psh, nn_some, forall_const]
      rw [q_caughtBy K (by omega) (by rw [R.ai]; exact (hcs k (by omega)).1), R.gi, hk, R.2]
      simp only [psh, bk_X12_catching_18, nn_some, R.1.1, true_and]
      rw [q_isUnder K hk2, R.2]
      simp only [psh, bk_X12_catching_19, b2i_0, bk_X12_catching_26, bk_X12_catching_20, nI_1]
      rw [ih (k + 1) (by omega), lt4, pk_mul, nI_add, ffst]
      cases und r w nk kk (cgS r w nk (4 * s + k)) <;> simp
  rw [bk_X12_catching_0]
  exact L (tn (ai r 32 s)) 0 (by omega)
/-- what a frame's block needs when it is left -/
def LVQ (r : RV) (w nk nm ns b : Nat) : Prop := (ai r 40 b = 1 → ¬ mN r w nm (al r 24 (tn (ai r 41 b))) = none) ∧ (gi r 1466 = 1 → gi r 1467 = nI (tn (gi r 1467)) ∧ tn (gi r 1467) < nk)
theorem w_leave (R : RW r h a) (B : BV r w nk nm ns nb) (K : BLK r w ns) {b f : Nat} (g1 : w * 1024 ≤ b) (g2 : b < w * 1024 + nb) (hf : gi r 1469 = nI (fcN r)) (hf2 : fcN r < 16) (hff : f < 16) (LQ : LVQ r w nk nm ns b) (h4 : ai r 40 b = 4 → ai r 19 (tn (ai r 41 b)) = 5 ∨ ai r 19 (tn (ai r 41 b)) = 6)
    (hcl : ai r 40 b = 5 → gi (lvCl r w nk nm (tn (ai r 41 b))) 1466 = 1 → gi (lvCl r w nk nm (tn (ai r 41 b))) 1467 = nI (tn (gi (lvCl r w nk nm (tn (ai r 41 b))) 1467)) ∧ tn (gi (lvCl r w nk nm (tn (ai r 41 b))) 1467) < nk)
    (H : ∀ h', RW (lvF r w nk nm b f) h' a → Q none h') : wp (d + 5) K_X12_leave 0 [] [(0, vr (some a)), (1, vi (nI b)), (2, vi (nI f))] h Q := by
  have hw2 := B.1.2.1
  have hns := B.2.1.2.2.2.1
  have hnm := B.2.1.2.1
  have hnb := B.2.2.1
  have hnk := B.1.2.2.2.1
  have T := R.bq B
  have nz2 : ¬ Int32.toInt64 2 = 0 := by decide
  have BB := B.2.2.2.2.1 b g1 g2
  rw [rb_X12_leave_0 _ _ _ R.1]
  simp (disch := omega) only [nI_clamp, nI_leI, nI_ltI, nI_eq, nI_add, pk_mul, vp_in_nI, nI_1, true_and, and_true, true_implies, implies_true, not_true_eq_false, not_false_eq_true, false_implies, psh, nn_some, forall_const]
  rw [R.ai, R.ai]
  -- the owner
  have ow : ¬ ai r 40 b = 0 → ai r 41 b = nI (tn (ai r 41 b)) ∧ w * 120 ≤ tn (ai r 41 b) ∧ tn (ai r 41 b) < w * 120 + ns := fun z => by
    rcases BB.2.2.1 with q | q
    · exact absurd (BB.2.2.2.1.mp q) z
    · exact q
  have push : ∀ (r' : RV) (h' : AH) v, RW r' h' a → gi r' 1469 = gi r 1469 → rf v (w * 1024) (w * 1024 + nb) → ¬ v = -1 → ∀ Q' : Option V → AH → Prop, (∀ h', RW (pusF r' (tn v)) h' a → Q' none h') → wp (d + 4) K_X12_push 0 [] [(0, vr (some a)), (1, vi v)] h' Q' := by
    intro r' h' v R' g rv nv Q' H'
    rcases rv with rv | ⟨e1, e2, e3⟩
    · exact absurd rv nv
    · rw [e1]
      have ef : fcN r' = fcN r := by unfold fcN; rw [g]
      exact w_push R' (by omega) (by rw [ef, g]; exact hf) (by rw [ef]; exact hf2) H'
  have e149 : lvF r w nk nm b f = r → ∀ x3, wp (d + 5) K_X12_leave 149 [] [(0, vr (some a)), (1, vi (nI b)), (2, vi (nI f)), (3, vi x3)] h Q := fun z x3 => by
    rw [bk_X12_leave_149]
    rw [z] at H
    exact H h R
  refine ⟨fun c => ?_, fun j hj e => ?_⟩
  · have ne : ∀ x : Int32, ¬ (x < 1 ∨ 1 + Int32.ofNat 7 ≤ x) → ¬ ai r 40 b = x := fun x hx z => hx (by rw [z] at c; exact c)
    exact e149 (lvF_o (ne 1 (by decide)) (ne 4 (by decide)) (ne 5 (by decide)) (ne 6 (by decide)) (ne 7 (by decide))) _
  · have : j = 0 ∨ j = 1 ∨ j = 2 ∨ j = 3 ∨ j = 4 ∨ j = 5 ∨ j = 6 := by omega
    rcases this with z | z | z | z | z | z | z <;> subst z
    · -- a lambda
      have e : ai r 40 b = 1 := e
      obtain ⟨o1, o2, o3⟩ := ow (by rw [e]; decide)
      rw [lvF_1 e] at H
      have nm1 := LQ.1 e
      generalize tn (ai r 41 b) = s at *
      rw [o1]
      unfold lvLa at H
      change wp (d + 5) K_X12_leave 10 [] _ h Q
      have e19 : ∀ v, v = (if gi r 1466 = 3 then (0 : Int32) else gi r 1466) → wp (d + 5) K_X12_leave 19 [vi v, vr (some a)] [(0, vr (some a)), (1, vi (nI b)), (2, vi (nI f)), (3, vi (nI s))] h Q := fun v ev => by
        rw [← ev] at H
        rw [rb_X12_leave_19 _ _ _ _ _ _ R.1, nn_some]
        refine ⟨R.1.1, ?_⟩
        have R1 := R.FI 1466 v
        rw [fFI_same]
        have B1 : BV (sI r 1466 v) w nk nm ns nb := BV_FI B (by decide)
        have T1 := R1.bq B1
        have em : mN (sI r 1466 v) w nm (al (sI r 1466 v) 24 s) = mN r w nm (al r 24 s) := rfl
        unfold lvL1 at H
        rw [em] at H
        generalize setFI h 1466 a v = h3 at *
        refine ⟨fun z => ?_, fun z => ?_⟩
        · rw [if_neg z] at H
          rw [bk_X12_leave_149]
          exact H _ R1
        · rw [if_pos (Classical.not_not.mp z)] at H
          rw [rb_X12_leave_23 _ _ _ _ R1.1]
          simp (disch := omega) only [nI_clamp, nI_leI, nI_ltI, nI_eq, nI_add, pk_mul, vp_in_nI, nI_1, true_and, and_true, true_implies, implies_true, not_true_eq_false, not_false_eq_true, false_implies, psh, nn_some, forall_const]
          rw [t_methodOf T1.1, R1.al, R1.2, em]
          cases eq : mN r w nm (al r 24 s) with
          | none => exact absurd eq nm1
          | some m =>
            have hm := mN_lt eq
            rw [eq] at H
            simp only [psh, bk_X12_leave_30, nn_some, R1.1.1, true_and]
            refine w_drawThrow R1 B1 hm (fun h4 R4 => ?_)
            simp only [psh, bk_X12_leave_31, bk_X12_leave_149]
            exact H h4 R4
      rw [rb_X12_leave_10 _ _ _ _ R.1, R.gi]
      refine ⟨fun z => ?_, fun z => ?_⟩
      · rw [rb_X12_leave_17 _ _ _ _ _ R.1, R.gi]
        exact e19 _ (by rw [if_neg z])
      · rw [bk_X12_leave_15]
        exact e19 0 (by rw [if_pos (Classical.not_not.mp z)])
    · exact e149 (lvF_o (by rw [show ai r 40 b = 2 from e]; decide) (by rw [show ai r 40 b = 2 from e]; decide) (by rw [show ai r 40 b = 2 from e]; decide) (by rw [show ai r 40 b = 2 from e]; decide) (by rw [show ai r 40 b = 2 from e]; decide)) _
    · exact e149 (lvF_o (by rw [show ai r 40 b = 3 from e]; decide) (by rw [show ai r 40 b = 3 from e]; decide) (by rw [show ai r 40 b = 3 from e]; decide) (by rw [show ai r 40 b = 3 from e]; decide) (by rw [show ai r 40 b = 3 from e]; decide)) _
    · -- a loop's turn
      have e : ai r 40 b = 4 := e
      obtain ⟨o1, o2, o3⟩ := ow (by rw [e]; decide)
      have h4 := h4 e
      rw [lvF_4 e] at H
      generalize tn (ai r 41 b) = s at *
      rw [o1]
      unfold lvTu at H
      obtain ⟨R26, -⟩ := B.2.2.2.1 s o2 o3
      have n26 := (K s o2 o3).1 (by rcases h4 with q | q; exact Or.inr (Or.inl q); exact Or.inr (Or.inr (Or.inl q)))
      change wp (d + 5) K_X12_leave 32 [] _ h Q
      have e44 : ¬ (gi r 1466 = 2 ∧ gi r 1467 = nI s) → wp (d + 5) K_X12_leave 44 [] [(0, vr (some a)), (1, vi (nI b)), (2, vi (nI f)), (3, vi (nI s))] h Q := fun z => by
        rw [if_neg z] at H
        rw [rb_X12_leave_44 _ _ _ _ R.1, R.gi]
        simp only [bk_X12_leave_149]
        refine ⟨fun z2 => by rw [if_neg z2] at H; exact H h R, fun z2 => ?_⟩
        rw [if_pos (Classical.not_not.mp z2)] at H
        rw [rb_X12_leave_47 _ _ _ _ R.1]
        refine w_isStep R (fun h3 R3 => ?_)
        simp only [psh, bk_X12_leave_49, b2i_0, bk_X12_leave_149]
        refine ⟨fun z3 => by rw [z3] at H; exact H h3 R3, fun z3 => ?_⟩
        rw [if_pos (bt z3)] at H
        have s1 : ai (stpW r) = ai r := by unfold stpW; split <;> rfl
        have s2 : gi (stpW r) 1469 = gi r 1469 := by unfold stpW; split <;> rfl
        unfold lvT1 at H
        rw [s1] at H
        generalize stpW r = r3 at *
        have e61 : ∀ (r4 : RV) (h : AH), RW r4 h a → ai r4 = ai r → gi r4 1469 = gi r 1469 → (∀ h', RW (pusF r4 (tn (ai r 26 s))) h' a → Q none h') → wp (d + 5) K_X12_leave 61 [] [(0, vr (some a)), (1, vi (nI b)), (2, vi (nI f)), (3, vi (nI s))] h Q := fun r4 h R4 q1 q2 H4 => by
          rw [rb_X12_leave_61 _ _ _ _ R4.1]
          simp (disch := omega) only [nI_clamp, nI_leI, nI_ltI, nI_eq, nI_add, pk_mul, vp_in_nI, nI_1, true_and, and_true, true_implies, implies_true, not_true_eq_false, not_false_eq_true, false_implies, psh, nn_some, forall_const]
          rw [R4.ai, q1]
          refine push r4 h _ R4 q2 R26 n26 _ (fun h5 R5 => ?_)
          simp only [psh, bk_X12_leave_67, bk_X12_leave_149]
          exact H4 h5 R5
        rw [rb_X12_leave_50 _ _ _ _ R3.1]
        simp (disch := omega) only [nI_clamp, nI_leI, nI_ltI, nI_eq, nI_add, pk_mul, vp_in_nI, nI_1, true_and, and_true, true_implies, implies_true, not_true_eq_false, not_false_eq_true, false_implies, psh, nn_some, forall_const]
        rw [R3.ai, s1]
        refine ⟨fun z4 => by rw [if_pos z4] at H; exact e61 r3 h3 R3 s1 s2 H, fun z4 => ?_⟩
        rw [if_neg z4] at H
        rw [rb_X12_leave_56 _ _ _ _ R3.1]
        refine w_draw R3 nz2 (fun h4' R4 => ?_)
        simp only [psh, bk_X12_leave_59, bk_X12_leave_149]
        refine ⟨fun z5 => by rw [if_neg z5] at H; exact H h4' R4, fun z5 => ?_⟩
        rw [if_pos (Classical.not_not.mp z5)] at H
        exact e61 _ h4' R4 s1 s2 H
      rw [rb_X12_leave_32 _ _ _ _ R.1, R.gi]
      refine ⟨fun z => e44 (fun q => z q.1), fun z => ?_⟩
      rw [rb_X12_leave_36 _ _ _ _ R.1, R.gi]
      refine ⟨fun z2 => e44 (fun q => z2 q.2), fun z2 => ?_⟩
      rw [if_pos ⟨Classical.not_not.mp z, Classical.not_not.mp z2⟩] at H
      rw [rb_X12_leave_40 _ _ _ _ R.1, bk_X12_leave_149]
      exact H _ (R.FI 1466 0)
    · -- the body of a try
      have e : ai r 40 b = 5 := e
      obtain ⟨o1, o2, o3⟩ := ow (by rw [e]; decide)
      rw [lvF_5 e] at H
      have hcl := hcl e
      generalize tn (ai r 41 b) = s at *
      rw [o1]
      obtain ⟨hN, hc, -⟩ := B.2.1.2.2.2.2.2 s o2 o3
      have hN4 := hN.2
      have hc4 := hc.2
      obtain ⟨-, -, -, R33, -⟩ := B.2.2.2.1 s o2 o3
      change wp (d + 5) K_X12_leave 68 [] _ h Q
      rw [rb_X12_leave_68 _ _ _ _ R.1]
      simp (disch := omega) only [nI_clamp, nI_leI, nI_ltI, nI_eq, nI_add, pk_mul, vp_in_nI, nI_1, true_and, and_true, true_implies, implies_true, not_true_eq_false, not_false_eq_true, false_implies, psh, nn_some, forall_const]
      rw [R.ai, hN.1, show nI (tn (ai r 29 s)) - 1 = kI (tn (ai r 29 s)) from rfl]
      have L : ∀ j (r2 : RV) (h : AH), j ≤ 4 → RW r2 h a → dtK r r2 → fdn (lvC1 r w nk nm s) j r2 = lvCl r w nk nm s → wp (d + 5) K_X12_leave 75 [] [(0, vr (some a)), (1, vi (nI b)), (2, vi (nI f)), (3, vi (nI s)), (4, vi (kI j))] h Q := by
        intro j
        induction j with
        | zero =>
          intro r2 h hj R2 kp e2
          have e2 : r2 = lvCl r w nk nm s := e2
          rw [← e2] at H hcl
          have B2 := BV_dtK B kp
          rw [bk_X12_leave_75]
          refine ⟨fun _ => ?_, fun q => absurd (by decide) q⟩
          have ef : fcN r2 = fcN r := by unfold fcN; rw [kp.2.2 1469 (by decide) (by decide)]
          have gf : gi r2 1469 = nI (fcN r2) := by rw [ef, kp.2.2 1469 (by decide) (by decide)]; exact hf
          unfold lvB1 at H
          have e105 : ∀ v, wp (d + 5) K_X12_leave 105 [vi v] [(0, vr (some a)), (1, vi (nI b)), (2, vi (nI f)), (3, vi (nI s)), (4, vi (kI 0))] h Q = ((¬ v = -1 → wp (d + 5) K_X12_leave 113 [] [(0, vr (some a)), (1, vi (nI b)), (2, vi (nI f)), (3, vi (nI s)), (4, vi v)] h Q) ∧ (¬ (¬ v = -1) → wp (d + 5) K_X12_leave 109 [] [(0, vr (some a)), (1, vi (nI b)), (2, vi (nI f)), (3, vi (nI s)), (4, vi v)] h Q)) := fun v => by rw [bk_X12_leave_105]
          have e109 : (∀ h', RW (finF r2 s) h' a → Q none h') → wp (d + 5) K_X12_leave 105 [vi (-1)] [(0, vr (some a)), (1, vi (nI b)), (2, vi (nI f)), (3, vi (nI s)), (4, vi (kI 0))] h Q := fun H2 => by
            rw [e105]
            refine ⟨fun q => absurd rfl q, fun _ => ?_⟩
            rw [rb_X12_leave_109 _ _ _ _ _ R2.1]
            refine w_finish R2 B2 o2 o3 gf (by rw [ef]; exact hf2) (fun h3 R3 => ?_)
            simp only [psh, bk_X12_leave_112]
            refine wp_cut 4 ?_
            show wp (d + 5) K_X12_leave 149 [] [(0, vr (some a)), (1, vi (nI b)), (2, vi (nI f)), (3, vi (nI s))] h3 Q
            rw [bk_X12_leave_149]
            exact H2 h3 R3
          rw [rb_X12_leave_96 _ _ _ _ _ R2.1, R2.gi]
          refine ⟨fun z => ?_, fun z => ?_⟩
          · rw [if_neg z] at H
            rw [bk_X12_leave_104]
            exact e109 H
          · have z := Classical.not_not.mp z
            rw [if_pos z] at H
            obtain ⟨q1, q2⟩ := hcl z
            rw [rb_X12_leave_100 _ _ _ _ _ R2.1, w_catching R2 B2 o2 o3 q1 q2]
            simp only [psh, bk_X12_leave_103]
            cases ec : ctS r2 w nk s with
            | none =>
              rw [ec] at H
              exact e109 H
            | some k =>
              rw [ec] at H
              have hk : k < tn (ai r2 32 s) := by
                have := (ffst_some ec).2.1
                omega
              rw [kp.1] at hk
              have H : ∀ h', RW (pusF (sI (tI r2 56 (4 * s + k) (gi r2 1467)) 1466 0) (tn (ai r2 33 (4 * s + k)))) h' a → Q none h' := H
              show wp (d + 5) K_X12_leave 105 [vi (nI (4 * s + k))] _ h Q
              rw [e105]
              refine ⟨fun _ => ?_, fun q => absurd (Classical.not_not.mp q) (nI_ne_m1 (by omega))⟩
              rw [rb_X12_leave_113 _ _ _ _ _ R2.1]
              simp (disch := omega) only [nI_clamp, nI_leI, nI_ltI, nI_eq, nI_add, pk_mul, vp_in_nI, nI_1, true_and, and_true, true_implies, implies_true, not_true_eq_false, not_false_eq_true, false_implies, psh, nn_some, forall_const]
              rw [R2.gi]
              have R3 := (R2.AI 56 (4 * s + k) (gi r2 1467)).FI 1466 0
              rw [R3.ai]
              have e33 : ai (sI (tI r2 56 (4 * s + k) (gi r2 1467)) 1466 0) 33 (4 * s + k) = ai r2 33 (4 * s + k) := by rw [ai_sI, ai_n (by decide)]
              rw [e33]
              have g3 : gi (sI (tI r2 56 (4 * s + k) (gi r2 1467)) 1466 0) 1469 = gi r 1469 := by
                rw [gi_sI, if_neg (by decide), gi_tI, kp.2.2 1469 (by decide) (by decide)]
              refine push _ _ _ R3 g3 (by rw [kp.1]; exact R33 k hk) (by rw [kp.1]; exact (K s o2 o3).2 k hk) _ (fun h4 R4 => ?_)
              simp only [psh, bk_X12_leave_128]
              refine wp_cut 4 ?_
              show wp (d + 5) K_X12_leave 149 [] [(0, vr (some a)), (1, vi (nI b)), (2, vi (nI f)), (3, vi (nI s))] h4 Q
              rw [bk_X12_leave_149]
              exact H h4 R4
        | succ j ih =>
          intro r2 h hj R2 kp e2
          have B2 := BV_dtK B kp
          have T2 := R2.bq B2
          rw [bk_X12_leave_75, kI_1]
          refine ⟨fun q => absurd q (nI_pos (by omega)), fun _ => ?_⟩
          rw [rb_X12_leave_77 _ _ _ _ _ R2.1, lt4]
          simp (disch := omega) only [nI_clamp, nI_leI, nI_ltI, nI_eq, nI_add, pk_mul, vp_in_nI, nI_1, true_and, and_true, true_implies, implies_true, not_true_eq_false, not_false_eq_true, false_implies, psh, nn_some, forall_const]
          have em : mN r2 w nm (al r2 30 (4 * s + j)) = mN r w nm (al r 30 (4 * s + j)) := by unfold mN; rw [kp.2.1]
          rw [t_methodOf T2.1, R2.al, R2.2, em]
          simp only [psh, bk_X12_leave_87]
          have e94 : ∀ (r3 : RV) (h : AH) x5, RW r3 h a → dtK r r3 → fdn (lvC1 r w nk nm s) j r3 = lvCl r w nk nm s → wp (d + 5) K_X12_leave 94 [] [(0, vr (some a)), (1, vi (nI b)), (2, vi (nI f)), (3, vi (nI s)), (4, vi (nI j)), (5, vi x5)] h Q := fun r3 h x5 R3 kp3 e3 => by
            rw [bk_X12_leave_94, kI_m1]
            refine wp_cut 5 ?_
            exact ih r3 h (by omega) R3 kp3 e3
          rw [fdn] at e2
          unfold lvC1 at e2
          cases eq : mN r w nm (al r 30 (4 * s + j)) with
          | none =>
            rw [eq] at e2
            simp only [oI, not_true_eq_false, false_implies, and_true, true_implies]
            exact e94 r2 h _ R2 kp e2
          | some m =>
            have hm := mN_lt eq
            rw [eq] at e2
            simp (disch := omega) only [oI_some, nI_ne_m1, nI_clamp, nI_leI, nI_ltI, nI_eq, nI_add, pk_mul, vp_in_nI, nI_1, true_and, and_true, true_implies, implies_true, not_true_eq_false, not_false_eq_true, false_implies, psh, nn_some, forall_const]
            rw [rb_X12_leave_91 _ _ _ _ _ _ R2.1]
            refine w_drawThrow R2 B2 hm (fun h3 R3 => ?_)
            exact e94 _ h3 _ R3 (dtK_tr kp (dtK_dt _ _ _ _)) e2
      exact L (tn (ai r 29 s)) r h (by omega) R ⟨rfl, rfl, fun _ _ _ => rfl⟩ rfl
    · -- a catch
      have e : ai r 40 b = 6 := e
      obtain ⟨o1, o2, o3⟩ := ow (by rw [e]; decide)
      rw [lvF_6 e] at H
      generalize tn (ai r 41 b) = s at *
      rw [o1]
      change wp (d + 5) K_X12_leave 129 [] _ h Q
      rw [rb_X12_leave_129 _ _ _ _ R.1]
      refine w_finish R B o2 o3 hf hf2 (fun h3 R3 => ?_)
      simp only [psh, bk_X12_leave_132, bk_X12_leave_149]
      exact H h3 R3
    · -- a finally
      have e : ai r 40 b = 7 := e
      rw [lvF_7 e] at H
      unfold lvLs at H
      change wp (d + 5) K_X12_leave 133 [] _ h Q
      rw [rb_X12_leave_133 _ _ _ _ R.1, R.gi]
      simp only [bk_X12_leave_149]
      refine ⟨fun z => by rw [if_neg z] at H; exact H h R, fun z => ?_⟩
      rw [if_pos (Classical.not_not.mp z)] at H
      rw [rb_X12_leave_136 _ _ _ _ R.1]
      simp (disch := omega) only [nI_clamp, nI_leI, nI_ltI, nI_eq, nI_add, pk_mul, vp_in_nI, nI_1, true_and, and_true, true_implies, implies_true, not_true_eq_false, not_false_eq_true, false_implies, psh, nn_some, forall_const, bk_X12_leave_149, aI_setFI]
      rw [R.ai, R.ai]
      exact H _ ((R.FI 1466 _).FI 1467 _)
end
