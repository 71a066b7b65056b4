/-! Contracts of the reference's questions: break's loop, held, leaves -/
def tgF (r : RV) : Nat → Nat → Option Nat
  | 0, _ => none
  | f + 1, b => if ai r 40 b = 0 ∨ ai r 40 b = 1 ∨ ai r 40 b = 8 then none else if ai r 40 b = 4 then some (tn (ai r 41 b)) else match upB r b with
    | none => none
    | some j => tgF r f j
/-- the loop that a break belongs to -/
def tgS (r : RV) (s : Nat) : Option Nat := tgF r 2048 (tn (ai r 21 s))
def hlP (r : RV) (b : Nat) : Bool := decide (ai r 19 (tn (ai r 41 b)) = 9) && (!decide (ai r 40 b = 7) && match oN (ai r 28 (tn (ai r 41 b))) with
  | none => false
  | some l => !lfB r (some l))
def hlF (r : RV) (t : Nat) : Nat → Nat → Bool → Bool
  | 0, _, p => p
  | f + 1, b, p => if ai r 41 b = nI t then p else match upB r b with
    | none => p
    | some j => hlF r t f j (p || hlP r b)
def hlS (r : RV) (s t : Nat) : Bool := hlF r t 2048 (tn (ai r 21 s)) false
def lvL (r : RV) (w ns s : Nat) : Bool := fup (fun k b => b || (decide (ai r 19 (w * 120 + k) = 7) && (decide (tgS r (w * 120 + k) = some s) && !hlS r (w * 120 + k) s))) ns 0 false
def lvT (r : RV) (s : Nat) : Bool := fup (fun k b => b || lfB r (oN (ai r 33 (4 * s + k)))) (tn (ai r 32 s)) 0 (lfB r (oN (ai r 26 s))) && (decide (oN (ai r 28 s) = none) || lfB r (oN (ai r 28 s)))
/-- a statement can be left -/
def lvS (r : RV) (w ns s : Nat) : Bool := if ai r 19 s = 2 ∨ ai r 19 s = 7 ∨ ai r 19 s = 8 then false else if ai r 19 s = 4 then decide (oN (ai r 27 s) = none) || (lfB r (oN (ai r 26 s)) || lfB r (oN (ai r 27 s))) else if ai r 19 s = 6 then lvL r w ns s else if ai r 19 s = 9 then lvT r s else if ai r 19 s = 11 then lfB r (oN (ai r 26 s)) else true
theorem sw_2_11 (x : Int32) (l1 : 2 ≤ x) (l2 : x < 12) : x = 2 ∨ x = 3 ∨ x = 4 ∨ x = 5 ∨ x = 6 ∨ x = 7 ∨ x = 8 ∨ x = 9 ∨ x = 10 ∨ x = 11 := by
  have h1 : (2 : Int) ≤ x.toInt := Int32.le_iff_toInt_le.mp l1
  have h2 : x.toInt < 12 := Int32.lt_iff_toInt_lt.mp l2
  have q : ∀ n : Int32, x.toInt = n.toInt → x = n := fun n e => Int32.toInt_inj.mp e
  have t : x.toInt = 2 ∨ x.toInt = 3 ∨ x.toInt = 4 ∨ x.toInt = 5 ∨ x.toInt = 6 ∨ x.toInt = 7 ∨ x.toInt = 8 ∨ x.toInt = 9 ∨ x.toInt = 10 ∨ x.toInt = 11 := by omega
  exact t.imp (q 2) (fun t => t.imp (q 3) (fun t => t.imp (q 4) (fun t => t.imp (q 5) (fun t => t.imp (q 6) (fun t => t.imp (q 7) (fun t => t.imp (q 8) (fun t => t.imp (q 9) (fun t => t.imp (q 10) (q 11)))))))))
theorem ff_step {A B X : Prop} (e : ((¬ false = false → A) ∧ (¬ (¬ false = false) → B)) = X) : B = X := by simpa using e
theorem tgF_dep {r : RV} : ∀ f b t, tgF r f b = some t → ∃ g, f = g + 1 := fun f b t e => by
  cases f with
  | zero => cases e
  | succ g => exact ⟨g, rfl⟩
section
variable {d : Nat} {h : AH} {a w nk nm ns nb : Nat} {Q : Option V → AH → Prop}
theorem BQ.up4 (T : BQ h a w nk nm ns nb) {b : Nat} (h1 : w * 1024 ≤ b) (h2 : b < w * 1024 + nb) (h0 : ¬ aI h (a + 40) b = 0) : ∃ o j, aI h (a + 41) b = nI o ∧ w * 120 ≤ o ∧ o < w * 120 + ns ∧ aI h (a + 21) o = nI j ∧ upB (view h a) b = some j ∧ w * 1024 ≤ j ∧ j < b := by
  obtain ⟨-, -, R, Z, -, -⟩ := T.2.2.2.1 b h1 h2
  have nm1 : ¬ aI h (a + 41) b = -1 := fun z => h0 (Z.mp z)
  rcases R with R | ⟨q1, q2, q3⟩
  · exact absurd R nm1
  · obtain ⟨-, -, -, -, R2, N2, -⟩ := T.2.2.1 _ q2 q3
    rcases R2 with R2 | ⟨p1, p2, p3⟩
    · exact absurd R2 N2
    · have e2 : upB (view h a) b = some (tn (aI h (a + 21) (tn (aI h (a + 41) b)))) := by
        have : upB (view h a) b = (match oN (aI h (a + 41) b) with | none => none | some o => oN (aI h (a + 21) o)) := rfl
        rw [this]
        have hw2 := T.1.1.2.2.1
        have := T.1.2.2.2.2.1
        have := T.2.1
        have e3 : oN (aI h (a + 41) b) = some (tn (aI h (a + 41) b)) := by
          unfold oN; rw [if_neg nm1]
        rw [e3]
        show oN (aI h (a + 21) (tn (aI h (a + 41) b))) = _
        unfold oN
        rw [if_neg N2]
      exact ⟨_, _, q1, q2, q3, p1, e2, T.upo h1 h2 _ e2⟩
theorem b_target (T : BQ h a w nk nm ns nb) {s : Nat} (h1 : w * 120 ≤ s) (h2 : s < w * 120 + ns) : wp d K_X12_target 0 [] [(0, vr (some a)), (1, vi (nI s))] h Q = Q (some (vi (oI (tgS (view h a) s)))) h := by
  have hs := T.1.1.1; have hw2 := T.1.1.2.2.1
  have hns := T.1.2.2.2.2.1
  have hnb := T.2.1
  have L : ∀ f b, w * 1024 ≤ b → b < w * 1024 + nb → b < f → wp d K_X12_target 5 [] [(0, vr (some a)), (1, vi (nI s)), (2, vi (nI b))] h Q = Q (some (vi (oI (tgF (view h a) f b)))) h := by
    intro f
    induction f with
    | zero => intro b _ _ z; omega
    | succ f ih =>
      intro b g1 g2 g3
      rw [rb_X12_target_5 _ _ _ hs, rb_X12_target_10 _ _ _ hs, rb_X12_target_16 _ _ _ hs]
      simp (disch := omega) only [nI_clamp, nI_leI, nI_ltI, nI_eq, nI_add, pk_mul, vp_in_nI, nI_1, true_and, and_true, true_implies, implies_true, not_true_eq_false, not_false_eq_true, false_implies, psh, nn_some, forall_const]
      have eT : tgF (view h a) (f + 1) b = (if aI h (a + 40) b = 0 ∨ aI h (a + 40) b = 1 ∨ aI h (a + 40) b = 8 then none else if aI h (a + 40) b = 4 then some (tn (aI h (a + 41) b)) else match upB (view h a) b with
        | none => none
        | some j => tgF (view h a) f j) := rfl
      rw [eT]
      by_cases c0 : aI h (a + 40) b = 0
      · simp [c0, bk_X12_target_42, oI]
      by_cases c1 : aI h (a + 40) b = 1
      · simp [c1, bk_X12_target_42, oI]
      by_cases c8 : aI h (a + 40) b = 8
      · simp [c8, bk_X12_target_42, oI]
      obtain ⟨o, j, e1, e2, e3, e4, e5, e6, e7⟩ := T.up4 g1 g2 c0
      simp only [c0, c1, c8, or_self, if_false, not_false_eq_true, true_implies, false_implies, true_and]
      rw [rb_X12_target_22 _ _ _ hs, rb_X12_target_33 _ _ _ hs, rb_X12_target_28 _ _ _ hs, e5, e1]
      simp (disch := omega) only [nI_clamp, nI_leI, nI_ltI, nI_eq, nI_add, pk_mul, vp_in_nI, nI_1, true_and, and_true, true_implies, implies_true, not_true_eq_false, not_false_eq_true, false_implies, psh, nn_some, forall_const, e1, e4, tn_nI]
      refine ite3 (fun c => ?_) (fun c => ?_)
      · rw [if_pos c]; rfl
      · rw [if_neg c]
        exact ih j e6 (by omega) (by omega)
  rw [rb_X12_target_0 _ _ hs]
  simp (disch := omega) only [nI_clamp, nI_leI, nI_ltI, nI_eq, nI_add, pk_mul, vp_in_nI, nI_1, true_and, and_true, true_implies, implies_true, not_true_eq_false, not_false_eq_true, false_implies, psh, nn_some, forall_const]
  obtain ⟨-, -, -, -, R2, N2, -⟩ := T.2.2.1 s h1 h2
  rcases R2 with R2 | ⟨p1, p2, p3⟩
  · exact absurd R2 N2
  · rw [p1, L 2048 _ p2 p3 (by omega)]
    rfl
theorem b_isHeld (T : BQ h a w nk nm ns nb) {s t : Nat} (h1 : w * 120 ≤ s) (h2 : s < w * 120 + ns) (ht : tgS (view h a) s = some t) : wp (d + 1) K_X12_isHeld 0 [] [(0, vr (some a)), (1, vi (nI s)), (2, vi (nI t))] h Q = Q (some (vi (b2i (hlS (view h a) s t)))) h := by
  have hs := T.1.1.1; have hw2 := T.1.1.2.2.1
  have hns := T.1.2.2.2.2.1
  have hnb := T.2.1
  have step : ∀ f b p, w * 1024 ≤ b → b < w * 1024 + nb → tgF (view h a) (f + 1) b = some t → (∀ j p' j5, upB (view h a) b = some j → w * 1024 ≤ j → j < b → tgF (view h a) f j = some t → wp (d + 1) K_X12_isHeld 7 [] [(0, vr (some a)), (1, vi (nI s)), (2, vi (nI t)), (3, vi (b2i p')), (4, vi (nI j)), (5, vi j5)] h Q = Q (some (vi (b2i (hlF (view h a) t f j p')))) h) → ¬ aI h (a + 41) b = nI t → ((¬ p = false → wp (d + 1) K_X12_isHeld 45 [] [(0, vr (some a)), (1, vi (nI s)), (2, vi (nI t)), (3, vi (b2i p)), (4, vi (nI b)), (5, vi (aI h (a + 41) b))] h Q) ∧ (¬ (¬ p = false) → wp (d + 1) K_X12_isHeld 20 [] [(0, vr (some a)), (1, vi (nI s)), (2, vi (nI t)), (3, vi (b2i p)), (4, vi (nI b)), (5, vi (aI h (a + 41) b))] h Q)) = Q (some (vi (b2i (hlF (view h a) t (f + 1) b p)))) h := by
    intro f b p g1 g2 eg ih ne
    have eT : tgF (view h a) (f + 1) b = (if aI h (a + 40) b = 0 ∨ aI h (a + 40) b = 1 ∨ aI h (a + 40) b = 8 then none else if aI h (a + 40) b = 4 then some (tn (aI h (a + 41) b)) else match upB (view h a) b with
        | none => none
        | some j => tgF (view h a) f j) := rfl
    rw [eT] at eg
    by_cases c0 : aI h (a + 40) b = 0 ∨ aI h (a + 40) b = 1 ∨ aI h (a + 40) b = 8
    · rw [if_pos c0] at eg; cases eg
    rw [if_neg c0] at eg
    obtain ⟨o, j, e1, e2, e3, e4, e5, e6, e7⟩ := T.up4 g1 g2 (fun z => c0 (Or.inl z))
    have c4 : ¬ aI h (a + 40) b = 4 := fun z => by
      rw [if_pos z] at eg
      have eg := Option.some.inj eg
      rw [e1, tn_nI (by omega)] at eg
      exact ne (by rw [e1, eg])
    rw [if_neg c4, e5] at eg
    have eg : tgF (view h a) f j = some t := eg
    have eH : hlF (view h a) t (f + 1) b p = hlF (view h a) t f j (p || hlP (view h a) b) := by
      have : hlF (view h a) t (f + 1) b p = if aI h (a + 41) b = nI t then p else match upB (view h a) b with
        | none => p
        | some j => hlF (view h a) t f j (p || hlP (view h a) b) := rfl
      rw [this, if_neg ne, e5]
    have nx : ∀ p', wp (d + 1) K_X12_isHeld 48 [vi (b2i p')] [(0, vr (some a)), (1, vi (nI s)), (2, vi (nI t)), (3, vi (b2i p)), (4, vi (nI b)), (5, vi (nI o))] h Q = Q (some (vi (b2i (hlF (view h a) t f j p')))) h := fun p' => by
      rw [rb_X12_isHeld_48 _ _ _ _ _ _ _ hs]
      simp (disch := omega) only [nI_clamp, nI_leI, nI_ltI, nI_eq, nI_add, pk_mul, vp_in_nI, nI_1, true_and, and_true, true_implies, implies_true, not_true_eq_false, not_false_eq_true, false_implies, psh, nn_some, forall_const, e4]
      exact ih j p' _ e5 e6 e7 eg
    rw [e1, eH, bk_X12_isHeld_45, show vi 1 = vi (b2i true) from rfl, nx]
    have eP : hlP (view h a) b = (decide (aI h (a + 19) o = 9) && (!decide (aI h (a + 40) b = 7) && match oN (aI h (a + 28) o) with
        | none => false
        | some l => !lfB (view h a) (some l))) := by
      have : hlP (view h a) b = (decide (aI h (a + 19) (tn (aI h (a + 41) b)) = 9) && (!decide (aI h (a + 40) b = 7) && match oN (aI h (a + 28) (tn (aI h (a + 41) b))) with
        | none => false
        | some l => !lfB (view h a) (some l))) := rfl
      rw [this, e1, tn_nI (by omega)]
    rw [rb_X12_isHeld_20 _ _ _ _ _ _ hs]
    simp (disch := omega) only [nI_clamp, nI_leI, nI_ltI, nI_eq, nI_add, pk_mul, vp_in_nI, nI_1, true_and, and_true, true_implies, implies_true, not_true_eq_false, not_false_eq_true, false_implies, psh, nn_some, forall_const, bk_X12_isHeld_47]
    rw [show vi 0 = vi (b2i false) from rfl, nx]
    rw [rb_X12_isHeld_26 _ _ _ _ _ _ hs, rb_X12_isHeld_32 _ _ _ _ _ _ hs]
    simp (disch := omega) only [nI_clamp, nI_leI, nI_ltI, nI_eq, nI_add, pk_mul, vp_in_nI, nI_1, true_and, and_true, true_implies, implies_true, not_true_eq_false, not_false_eq_true, false_implies, psh, nn_some, forall_const, bk_X12_isHeld_47]
    rw [show vi 0 = vi (b2i false) from rfl, nx, rb_X12_isHeld_38 _ _ _ _ _ _ hs]
    simp (disch := omega) only [nI_clamp, nI_leI, nI_ltI, nI_eq, nI_add, pk_mul, vp_in_nI, nI_1, true_and, and_true, true_implies, implies_true, not_true_eq_false, not_false_eq_true, false_implies, psh, nn_some, forall_const]
    have R28 := (T.2.2.1 o e2 e3).2.2.1
    rw [rf_oI R28, b_isLeft T (T.of28 e2 e3)]
    simp only [psh, bk_X12_isHeld_44, b2i_0, bk_X12_isHeld_47, bk_X12_isHeld_45]
    rw [show vi 0 = vi (b2i false) from rfl, nx, show vi 1 = vi (b2i true) from rfl, nx, ← rf_oI R28, eP]
    cases p
    · by_cases c9 : aI h (a + 19) o = 9
      · by_cases c7 : aI h (a + 40) b = 7
        · simp [c9, c7]
        · cases el : oN (aI h (a + 28) o) with
          | none => simp [c9, c7, rf_none el]
          | some l =>
            have ll := rf_some R28 el
            have : ¬ aI h (a + 28) o = -1 := by rw [ll.1]; exact nI_ne_m1 (by omega)
            cases ex : lfB (view h a) (some l) <;> simp [c9, c7, this, ex]
      · simp [c9]
    · simp
  have stop : ∀ b p x, tgF (view h a) x b = some t → aI h (a + 41) b = nI t → hlF (view h a) t x b p = p := by
    intro b p x e e2
    cases x with
    | zero => rfl
    | succ x =>
      have : hlF (view h a) t (x + 1) b p = if aI h (a + 41) b = nI t then p else match upB (view h a) b with
        | none => p
        | some j => hlF (view h a) t x j (p || hlP (view h a) b) := rfl
      rw [this, if_pos e2]
  have L : ∀ f b p j5, w * 1024 ≤ b → b < w * 1024 + nb → tgF (view h a) f b = some t → wp (d + 1) K_X12_isHeld 7 [] [(0, vr (some a)), (1, vi (nI s)), (2, vi (nI t)), (3, vi (b2i p)), (4, vi (nI b)), (5, vi j5)] h Q = Q (some (vi (b2i (hlF (view h a) t f b p)))) h := by
    intro f
    induction f with
    | zero => intro b p j5 _ _ e; cases e
    | succ f ih =>
      intro b p j5 g1 g2 e
      rw [rb_X12_isHeld_7_1 _ _ _ _ _ _ hs]
      simp (disch := omega) only [nI_clamp, nI_leI, nI_ltI, nI_eq, nI_add, pk_mul, vp_in_nI, nI_1, true_and, and_true, true_implies, implies_true, not_true_eq_false, not_false_eq_true, false_implies, psh, nn_some, forall_const, bk_X12_isHeld_55_1, b2i_ok]
      refine ite2 (fun c => ?_) (fun c => ?_)
      · rw [stop b p _ e c]
      · rw [rb_X12_isHeld_13_1 _ _ _ _ _ _ hs]
        simp (disch := omega) only [nI_clamp, nI_leI, nI_ltI, nI_eq, nI_add, pk_mul, vp_in_nI, nI_1, true_and, and_true, true_implies, implies_true, not_true_eq_false, not_false_eq_true, false_implies, psh, nn_some, forall_const, b2i_0]
        exact step f b p g1 g2 e (fun j p' j5 _ q2 q3 q4 => ih j p' j5 q2 (by omega) q4) c
  rw [rb_X12_isHeld_0 _ _ _ hs]
  simp (disch := omega) only [nI_clamp, nI_leI, nI_ltI, nI_eq, nI_add, pk_mul, vp_in_nI, nI_1, true_and, and_true, true_implies, implies_true, not_true_eq_false, not_false_eq_true, false_implies, psh, nn_some, forall_const]
  obtain ⟨-, -, -, -, R2, N2, -⟩ := T.2.2.1 s h1 h2
  rcases R2 with R2 | ⟨p1, p2, p3⟩
  · exact absurd R2 N2
  · have ht : tgF (view h a) 2048 (tn (aI h (a + 21) s)) = some t := ht
    rw [p1, show ((3 : Nat), vi 0) = (3, vi (b2i false)) from rfl, rb_X12_isHeld_7 _ _ _ _ _ hs]
    simp (disch := omega) only [nI_clamp, nI_leI, nI_ltI, nI_eq, nI_add, pk_mul, vp_in_nI, nI_1, true_and, and_true, true_implies, implies_true, not_true_eq_false, not_false_eq_true, false_implies, psh, nn_some, forall_const, bk_X12_isHeld_55, b2i_ok]
    show _ = Q (some (vi (b2i (hlF (view h a) t 2048 (tn (aI h (a + 21) s)) false)))) h
    refine ite2 (fun c => ?_) (fun c => ?_)
    · rw [stop _ false _ ht c]
    · rw [rb_X12_isHeld_13 _ _ _ _ _ hs]
      simp (disch := omega) only [nI_clamp, nI_leI, nI_ltI, nI_eq, nI_add, pk_mul, vp_in_nI, nI_1, true_and, and_true, true_implies, implies_true, not_true_eq_false, not_false_eq_true, false_implies, psh, nn_some, forall_const, b2i_0]
      exact ff_step (step 2047 _ false p2 p3 ht (fun j p' j5 _ q2 q3 q4 => L _ j p' j5 q2 (by omega) q4) c)
theorem b_leaves (T : BQ h a w nk nm ns nb) {s : Nat} (h1 : w * 120 ≤ s) (h2 : s < w * 120 + ns) : wp (d + 2) K_X12_leaves 0 [] [(0, vr (some a)), (1, vi (nI s))] h Q = Q (some (vi (b2i (lvS (view h a) w ns s)))) h := by
  have hs := T.1.1.1; have hw := T.1.1.2.1; have hw2 := T.1.1.2.2.1
  have hn := T.1.2.2.2.1; have hns := T.1.2.2.2.2.1
  have hnb := T.2.1
  obtain ⟨-, hc, hcs, -⟩ := T.1.2.2.2.2.2.2 s h1 h2
  have hc4 := hc.2
  obtain ⟨r26, r27, r28, hcb, -⟩ := T.2.2.1 s h1 h2
  rw [rb_X12_leaves_0 _ _ hs]
  simp (disch := omega) only [nI_clamp, nI_leI, nI_ltI, nI_eq, nI_add, pk_mul, vp_in_nI, nI_1, true_and, and_true, true_implies, implies_true, not_true_eq_false, not_false_eq_true, false_implies, psh, nn_some, forall_const]
  have eS : lvS (view h a) w ns s = if aI h (a + 19) s = 2 ∨ aI h (a + 19) s = 7 ∨ aI h (a + 19) s = 8 then false else if aI h (a + 19) s = 4 then decide (oN (aI h (a + 27) s) = none) || (lfB (view h a) (oN (aI h (a + 26) s)) || lfB (view h a) (oN (aI h (a + 27) s))) else if aI h (a + 19) s = 6 then lvL (view h a) w ns s else if aI h (a + 19) s = 9 then lvT (view h a) s else if aI h (a + 19) s = 11 then lfB (view h a) (oN (aI h (a + 26) s)) else true := rfl
  have e135 : wp (d + 2) K_X12_leaves 135 [] [(0, vr (some a)), (1, vi (nI s)), (2, vi 0)] h Q = Q (some (vi (b2i true))) h := by
    rw [bk_X12_leaves_135]; exact propext (and_iff_right (Or.inr rfl))
  have e7 : wp (d + 2) K_X12_leaves 7 [] [(0, vr (some a)), (1, vi (nI s)), (2, vi 0)] h Q = Q (some (vi (b2i false))) h := by
    rw [bk_X12_leaves_7]; exact propext (and_iff_right (Or.inl rfl))
  have e128 : wp (d + 2) K_X12_leaves 128 [] [(0, vr (some a)), (1, vi (nI s)), (2, vi 0)] h Q = Q (some (vi (b2i (lfB (view h a) (oN (aI h (a + 26) s)))))) h := by
    rw [rb_X12_leaves_128 _ _ _ hs]
    simp (disch := omega) only [nI_clamp, nI_leI, nI_ltI, nI_eq, nI_add, pk_mul, vp_in_nI, nI_1, true_and, and_true, true_implies, implies_true, not_true_eq_false, not_false_eq_true, false_implies, psh, nn_some, forall_const]
    rw [rf_oI r26, b_isLeft T (T.of26 h1 h2)]
    simp only [psh, bk_X12_leaves_134, b2i_ok, true_and]
    rw [← rf_oI r26]
  have e9 : wp (d + 2) K_X12_leaves 9 [] [(0, vr (some a)), (1, vi (nI s)), (2, vi 0)] h Q = Q (some (vi (b2i (decide (oN (aI h (a + 27) s) = none) || (lfB (view h a) (oN (aI h (a + 26) s)) || lfB (view h a) (oN (aI h (a + 27) s))))))) h := by
    rw [rb_X12_leaves_9 _ _ _ hs, rb_X12_leaves_15 _ _ _ hs]
    simp (disch := omega) only [nI_clamp, nI_leI, nI_ltI, nI_eq, nI_add, pk_mul, vp_in_nI, nI_1, true_and, and_true, true_implies, implies_true, not_true_eq_false, not_false_eq_true, false_implies, psh, nn_some, forall_const]
    rw [rf_oI r26, b_isLeft T (T.of26 h1 h2), ← rf_oI r26]
    simp only [psh, bk_X12_leaves_21, b2i_0]
    rw [rb_X12_leaves_22 _ _ _ hs]
    simp (disch := omega) only [nI_clamp, nI_leI, nI_ltI, nI_eq, nI_add, pk_mul, vp_in_nI, nI_1, true_and, and_true, true_implies, implies_true, not_true_eq_false, not_false_eq_true, false_implies, psh, nn_some, forall_const]
    cases e : oN (aI h (a + 27) s) with
    | none =>
      rw [rf_none e]
      simp [bk_X12_leaves_29, bk_X12_leaves_32, b2i]
    | some b =>
      obtain ⟨q1, q2, q3⟩ := rf_some r27 e
      rw [q1, show vi (nI b) = vi (oI (some b)) from rfl, b_isLeft T (fun j ej => by cases ej; exact ⟨q2, q3⟩)]
      simp (disch := omega) only [psh, nI_ne_m1, nI_clamp, nI_leI, nI_ltI, nI_eq, nI_add, pk_mul, vp_in_nI, nI_1, true_and, and_true, true_implies, implies_true, not_true_eq_false, not_false_eq_true, false_implies, psh, nn_some, forall_const, bk_X12_leaves_29, bk_X12_leaves_32, bk_X12_leaves_28, bk_X12_leaves_31, b2i_0]
      cases lfB (view h a) (some b) <;> cases lfB (view h a) (oN (aI h (a + 26) s)) <;> simp [b2i]
  have e75 : wp (d + 2) K_X12_leaves 75 [] [(0, vr (some a)), (1, vi (nI s)), (2, vi 0)] h Q = Q (some (vi (b2i (lvT (view h a) s)))) h := by
    rw [rb_X12_leaves_75 _ _ _ hs]
    simp (disch := omega) only [nI_clamp, nI_leI, nI_ltI, nI_eq, nI_add, pk_mul, vp_in_nI, nI_1, true_and, and_true, true_implies, implies_true, not_true_eq_false, not_false_eq_true, false_implies, psh, nn_some, forall_const]
    rw [rf_oI r26, b_isLeft T (T.of26 h1 h2)]
    simp only [psh, bk_X12_leaves_81]
    have L : ∀ m k x, k + m = tn (aI h (a + 32) s) → wp (d + 2) K_X12_leaves 84 [] [(0, vr (some a)), (1, vi (nI s)), (2, vi (b2i x)), (3, vi (nI k))] h Q = wp (d + 2) K_X12_leaves 109 [] [(0, vr (some a)), (1, vi (nI s)), (2, vi (b2i (fup (fun k b => b || lfB (view h a) (oN (ai (view h a) 33 (4 * s + k)))) m k x))), (3, vi (nI (k + m)))] h Q := by
      intro m
      induction m with
      | zero =>
        intro k x e
        rw [rb_X12_leaves_84 _ _ _ _ hs]
        simp (disch := omega) only [nI_clamp, nI_leI, nI_ltI, nI_eq, nI_add, pk_mul, vp_in_nI, nI_1, true_and, and_true, true_implies, implies_true, not_true_eq_false, not_false_eq_true, false_implies, psh, nn_some, forall_const]
        rw [hc.1]
        simp (disch := omega) only [nI_clamp, nI_leI, nI_ltI, nI_eq, nI_add, pk_mul, vp_in_nI, nI_1, true_and, and_true, true_implies, implies_true, not_true_eq_false, not_false_eq_true, false_implies, psh, nn_some, forall_const]
        simp [show tn (aI h (a + 32) s) ≤ k by omega, fup]
      | succ m ih =>
        intro k x e
        rw [rb_X12_leaves_84 _ _ _ _ hs]
        simp (disch := omega) only [nI_clamp, nI_leI, nI_ltI, nI_eq, nI_add, pk_mul, vp_in_nI, nI_1, true_and, and_true, true_implies, implies_true, not_true_eq_false, not_false_eq_true, false_implies, psh, nn_some, forall_const]
        rw [hc.1]
        simp (disch := omega) only [nI_clamp, nI_leI, nI_ltI, nI_eq, nI_add, pk_mul, vp_in_nI, nI_1, true_and, and_true, true_implies, implies_true, not_true_eq_false, not_false_eq_true, false_implies, psh, nn_some, forall_const, show ¬ tn (aI h (a + 32) s) ≤ k by omega, bk_X12_leaves_90, b2i_0, bk_X12_leaves_103]
        have nx : ∀ y, wp (d + 2) K_X12_leaves 106 [vi (b2i y)] [(0, vr (some a)), (1, vi (nI s)), (2, vi (b2i x)), (3, vi (nI k))] h Q = wp (d + 2) K_X12_leaves 109 [] [(0, vr (some a)), (1, vi (nI s)), (2, vi (b2i (fup (fun k b => b || lfB (view h a) (oN (ai (view h a) 33 (4 * s + k)))) m (k + 1) y))), (3, vi (nI (k + (m + 1))))] h Q := fun y => by
          rw [bk_X12_leaves_106, nI_1, ih (k + 1) y (by omega), show k + 1 + m = k + (m + 1) by omega]
        rw [show vi 1 = vi (b2i true) from rfl, nx, rb_X12_leaves_92 _ _ _ _ hs, lt4]
        simp (disch := omega) only [nI_clamp, nI_leI, nI_ltI, nI_eq, nI_add, pk_mul, vp_in_nI, nI_1, true_and, and_true, true_implies, implies_true, not_true_eq_false, not_false_eq_true, false_implies, psh, nn_some, forall_const]
        rw [rf_oI (hcb k (by omega)), b_isLeft T (T.of33 (i := k) h1 h2 (by omega))]
        simp only [psh, bk_X12_leaves_102, b2i_0, bk_X12_leaves_105, bk_X12_leaves_103]
        rw [show vi 0 = vi (b2i false) from rfl, nx, show vi 1 = vi (b2i true) from rfl, nx, fup]
        show _ = wp (d + 2) K_X12_leaves 109 [] [(0, vr (some a)), (1, vi (nI s)), (2, vi (b2i (fup (fun k b => b || lfB (view h a) (oN (ai (view h a) 33 (4 * s + k)))) m (k + 1) (x || lfB (view h a) (oN (aI h (a + 33) (4 * s + k))))))), (3, vi (nI (k + (m + 1))))] h Q
        cases x <;> cases lfB (view h a) (oN (aI h (a + 33) (4 * s + k))) <;> simp
    rw [show ((3 : Nat), vi 0) = (3, vi (nI 0)) from rfl, L (tn (aI h (a + 32) s)) 0 _ (by omega)]
    have eT : lvT (view h a) s = (fup (fun k b => b || lfB (view h a) (oN (ai (view h a) 33 (4 * s + k)))) (tn (aI h (a + 32) s)) 0 (lfB (view h a) (oN (aI h (a + 26) s))) && (decide (oN (aI h (a + 28) s) = none) || lfB (view h a) (oN (aI h (a + 28) s)))) := rfl
    rw [eT]
    generalize fup (fun k b => b || lfB (view h a) (oN (ai (view h a) 33 (4 * s + k)))) (tn (aI h (a + 32) s)) 0 (lfB (view h a) (oN (aI h (a + 26) s))) = y
    rw [bk_X12_leaves_109, rb_X12_leaves_111 _ _ _ _ hs, rb_X12_leaves_117 _ _ _ _ hs]
    simp (disch := omega) only [nI_clamp, nI_leI, nI_ltI, nI_eq, nI_add, pk_mul, vp_in_nI, nI_1, true_and, and_true, true_implies, implies_true, not_true_eq_false, not_false_eq_true, false_implies, psh, nn_some, forall_const, b2i_0]
    cases e : oN (aI h (a + 28) s) with
    | none =>
      rw [rf_none e]
      cases y <;> simp [bk_X12_leaves_126, bk_X12_leaves_124, bk_X12_leaves_127, b2i]
    | some b =>
      obtain ⟨q1, q2, q3⟩ := rf_some r28 e
      rw [q1, show vi (nI b) = vi (oI (some b)) from rfl, b_isLeft T (fun j ej => by cases ej; exact ⟨q2, q3⟩)]
      simp (disch := omega) only [psh, nI_ne_m1, nI_clamp, nI_leI, nI_ltI, nI_eq, nI_add, pk_mul, vp_in_nI, nI_1, true_and, and_true, true_implies, implies_true, not_true_eq_false, not_false_eq_true, false_implies, psh, nn_some, forall_const, bk_X12_leaves_126, bk_X12_leaves_127, bk_X12_leaves_124, bk_X12_leaves_123, b2i_0]
      cases lfB (view h a) (some b) <;> cases y <;> simp [b2i]
  have e33 : wp (d + 2) K_X12_leaves 33 [] [(0, vr (some a)), (1, vi (nI s)), (2, vi 0)] h Q = Q (some (vi (b2i (lvL (view h a) w ns s)))) h := by
    have S : ∀ k x X, k < ns → (∀ j, wp (d + 2) K_X12_leaves 35 [] [(0, vr (some a)), (1, vi (nI s)), (2, vi (b2i (x || (decide (ai (view h a) 19 (w * 120 + k) = 7) && (decide (tgS (view h a) (w * 120 + k) = some s) && !hlS (view h a) (w * 120 + k) s))))), (3, vi (nI (k + 1))), (4, vi j)] h Q = X) → ((¬ x = false → wp (d + 2) K_X12_leaves 67 [] [(0, vr (some a)), (1, vi (nI s)), (2, vi (b2i x)), (3, vi (nI k)), (4, vi (nI (w * 120 + k)))] h Q) ∧ (¬ (¬ x = false) → wp (d + 2) K_X12_leaves 51 [] [(0, vr (some a)), (1, vi (nI s)), (2, vi (b2i x)), (3, vi (nI k)), (4, vi (nI (w * 120 + k)))] h Q)) = X := by
      intro k x X hkk G
      have nx : ∀ y, wp (d + 2) K_X12_leaves 70 [vi (b2i y)] [(0, vr (some a)), (1, vi (nI s)), (2, vi (b2i x)), (3, vi (nI k)), (4, vi (nI (w * 120 + k)))] h Q = wp (d + 2) K_X12_leaves 35 [] [(0, vr (some a)), (1, vi (nI s)), (2, vi (b2i y)), (3, vi (nI (k + 1))), (4, vi (nI (w * 120 + k)))] h Q := fun y => by
        rw [bk_X12_leaves_70, nI_1]
      have G := G (nI (w * 120 + k))
      have eg : ai (view h a) 19 (w * 120 + k) = aI h (a + 19) (w * 120 + k) := rfl
      rw [eg] at G
      rw [bk_X12_leaves_67, show vi 1 = vi (b2i true) from rfl, nx, rb_X12_leaves_51 _ _ _ _ _ hs, bk_X12_leaves_69, show vi 0 = vi (b2i false) from rfl, nx]
      simp (disch := omega) only [nI_clamp, nI_leI, nI_ltI, nI_eq, nI_add, pk_mul, vp_in_nI, nI_1, true_and, and_true, true_implies, implies_true, not_true_eq_false, not_false_eq_true, false_implies, psh, nn_some, forall_const]
      rw [rb_X12_leaves_57 _ _ _ _ _ hs, b_target T (by omega) (by omega)]
      simp only [psh, bk_X12_leaves_60, bk_X12_leaves_69]
      rw [show vi 0 = vi (b2i false) from rfl, nx]
      cases x
      · by_cases c7 : aI h (a + 19) (w * 120 + k) = 7
        · by_cases ct : tgS (view h a) (w * 120 + k) = some s
          · rw [ct, rb_X12_leaves_62 _ _ _ _ _ hs, b_isHeld T (by omega) (by omega) ct]
            simp only [psh, bk_X12_leaves_66, b2i_0, bk_X12_leaves_69, bk_X12_leaves_67]
            rw [show vi 0 = vi (b2i false) from rfl, nx, show vi 1 = vi (b2i true) from rfl, nx]
            cases eh : hlS (view h a) (w * 120 + k) s <;> simp [c7, ct, eh] at G <;> simp [c7, oI, G]
          · have ok : ∀ j, tgS (view h a) (w * 120 + k) = some j → j < 2 ^ 31 := fun j ej => by
              have : ∀ f b j, tgF (view h a) f b = some j → j < 2 ^ 31 := by
                intro f
                induction f with
                | zero => intro b j e; cases e
                | succ f ih =>
                  intro b j e
                  rw [tgF] at e
                  split at e
                  · cases e
                  · split at e
                    · cases e; exact (Int32.toNatClampNeg_lt _)
                    · split at e
                      · cases e
                      · exact ih _ _ e
              exact this _ _ _ ej
            have : ¬ oI (tgS (view h a) (w * 120 + k)) = nI s := fun z => ct (by rw [← oN_oI ok, z, oN_nI (by omega)])
            simp [c7, ct] at G
            simp [c7, this, G]
        · simp [c7] at G
          simp [c7, G]
      · simp at G
        simp [G]
    have L : ∀ m k x j, k + m = ns → wp (d + 2) K_X12_leaves 35 [] [(0, vr (some a)), (1, vi (nI s)), (2, vi (b2i x)), (3, vi (nI k)), (4, vi j)] h Q = Q (some (vi (b2i (fup (fun k b => b || (decide (ai (view h a) 19 (w * 120 + k) = 7) && (decide (tgS (view h a) (w * 120 + k) = some s) && !hlS (view h a) (w * 120 + k) s))) m k x)))) h := by
      intro m
      induction m with
      | zero =>
        intro k x j e
        rw [rb_X12_leaves_35_1 _ _ _ _ _ hs]
        simp (disch := omega) only [hw, hn, nI_clamp, nI_leI, nI_ltI, nI_eq, nI_add, pk_mul, vp_in_nI, nI_1, true_and, and_true, true_implies, implies_true, not_true_eq_false, not_false_eq_true, false_implies, psh, nn_some, forall_const, bk_X12_leaves_73_1, b2i_ok]
        simp [show ns ≤ k by omega, fup]
      | succ m ih =>
        intro k x j e
        rw [rb_X12_leaves_35_1 _ _ _ _ _ hs]
        simp (disch := omega) only [hw, hn, nI_clamp, nI_leI, nI_ltI, nI_eq, nI_add, pk_mul, vp_in_nI, nI_1, true_and, and_true, true_implies, implies_true, not_true_eq_false, not_false_eq_true, false_implies, psh, nn_some, forall_const, show ¬ ns ≤ k by omega]
        rw [rb_X12_leaves_42_1 _ _ _ _ _ hs]
        simp (disch := omega) only [hw, b2i_0, lt120, nI_clamp, nI_leI, nI_ltI, nI_eq, nI_add, pk_mul, vp_in_nI, nI_1, true_and, and_true, true_implies, implies_true, not_true_eq_false, not_false_eq_true, false_implies, psh, nn_some, forall_const]
        refine S k x _ (by omega) (fun j => ?_)
        rw [ih (k + 1) _ j (by omega)]
        rfl
    rw [bk_X12_leaves_33, show ((2 : Nat), vi 0) = (2, vi (b2i false)) from rfl, show ((3 : Nat), vi 0) = (3, vi (nI 0)) from rfl, rb_X12_leaves_35 _ _ _ _ hs]
    simp (disch := omega) only [hw, hn, nI_clamp, nI_leI, nI_ltI, nI_eq, nI_add, pk_mul, vp_in_nI, nI_1, true_and, and_true, true_implies, implies_true, not_true_eq_false, not_false_eq_true, false_implies, psh, nn_some, forall_const]
    refine ite2 (fun z => ?_) (fun z => ?_)
    · have z : ns = 0 := by omega
      rw [bk_X12_leaves_73]
      unfold lvL
      rw [z]
      exact propext (and_iff_right (Or.inl rfl))
    · rw [rb_X12_leaves_42 _ _ _ _ hs]
      simp (disch := omega) only [hw, b2i_0, lt120, nI_clamp, nI_leI, nI_ltI, nI_eq, nI_add, pk_mul, vp_in_nI, nI_1, true_and, and_true, true_implies, implies_true, not_true_eq_false, not_false_eq_true, false_implies, psh, nn_some, forall_const]
      refine ff_step (S 0 false _ (by omega) (fun j => ?_))
      rw [L (ns - 1) 1 _ j (by omega)]
      unfold lvL
      obtain ⟨n, rfl⟩ : ∃ n, ns = n + 1 := ⟨ns - 1, by omega⟩
      rfl
  apply propext
  constructor
  · rintro ⟨A, B⟩
    by_cases c : aI h (a + 19) s < 2 ∨ 2 + Int32.ofNat 10 ≤ aI h (a + 19) s
    · have A := A c
      rw [e135] at A
      have ne : ∀ x : Int32, ¬ (x < 2 ∨ 2 + Int32.ofNat 10 ≤ x) → ¬ aI h (a + 19) s = x := fun x hx z => hx (by rw [z] at c; exact c)
      rw [eS, if_neg, if_neg (ne 4 (by decide)), if_neg (ne 6 (by decide)), if_neg (ne 9 (by decide)), if_neg (ne 11 (by decide))]
      · exact A
      · rintro (z | z | z)
        · exact ne 2 (by decide) z
        · exact ne 7 (by decide) z
        · exact ne 8 (by decide) z
    · have : aI h (a + 19) s = 2 ∨ aI h (a + 19) s = 3 ∨ aI h (a + 19) s = 4 ∨ aI h (a + 19) s = 5 ∨ aI h (a + 19) s = 6 ∨ aI h (a + 19) s = 7 ∨ aI h (a + 19) s = 8 ∨ aI h (a + 19) s = 9 ∨ aI h (a + 19) s = 10 ∨ aI h (a + 19) s = 11 := by
        have l1 : (2 : Int32) ≤ aI h (a + 19) s := Int32.not_lt.mp (fun z => c (Or.inl z))
        have l2 : aI h (a + 19) s < 12 := Int32.not_le.mp (fun z => c (Or.inr z))
        exact sw_2_11 _ l1 l2
      rcases this with e | e | e | e | e | e | e | e | e | e
      · have B := B 0 (by omega) e; change wp (d + 2) K_X12_leaves 7 [] _ h Q at B; rw [e7] at B; rw [eS, e]; exact B
      · have B := B 1 (by omega) e; change wp (d + 2) K_X12_leaves 135 [] _ h Q at B; rw [e135] at B; rw [eS, e]; exact B
      · have B := B 2 (by omega) e; change wp (d + 2) K_X12_leaves 9 [] _ h Q at B; rw [e9] at B; rw [eS, e]; exact B
      · have B := B 3 (by omega) e; change wp (d + 2) K_X12_leaves 135 [] _ h Q at B; rw [e135] at B; rw [eS, e]; exact B
      · have B := B 4 (by omega) e; change wp (d + 2) K_X12_leaves 33 [] _ h Q at B; rw [e33] at B; rw [eS, e]; exact B
      · have B := B 5 (by omega) e; change wp (d + 2) K_X12_leaves 7 [] _ h Q at B; rw [e7] at B; rw [eS, e]; exact B
      · have B := B 6 (by omega) e; change wp (d + 2) K_X12_leaves 7 [] _ h Q at B; rw [e7] at B; rw [eS, e]; exact B
      · have B := B 7 (by omega) e; change wp (d + 2) K_X12_leaves 75 [] _ h Q at B; rw [e75] at B; rw [eS, e]; exact B
      · have B := B 8 (by omega) e; change wp (d + 2) K_X12_leaves 135 [] _ h Q at B; rw [e135] at B; rw [eS, e]; exact B
      · have B := B 9 (by omega) e; change wp (d + 2) K_X12_leaves 128 [] _ h Q at B; rw [e128] at B; rw [eS, e]; exact B
  · intro A
    refine ⟨fun c => ?_, fun j hj e => ?_⟩
    · rw [e135]
      have ne : ∀ x : Int32, ¬ (x < 2 ∨ 2 + Int32.ofNat 10 ≤ x) → ¬ aI h (a + 19) s = x := fun x hx z => hx (by rw [z] at c; exact c)
      rw [eS, if_neg, if_neg (ne 4 (by decide)), if_neg (ne 6 (by decide)), if_neg (ne 9 (by decide)), if_neg (ne 11 (by decide))] at A
      · exact A
      · rintro (z | z | z)
        · exact ne 2 (by decide) z
        · exact ne 7 (by decide) z
        · exact ne 8 (by decide) z
    · have : j = 0 ∨ j = 1 ∨ j = 2 ∨ j = 3 ∨ j = 4 ∨ j = 5 ∨ j = 6 ∨ j = 7 ∨ j = 8 ∨ j = 9 := by omega
      rcases this with z | z | z | z | z | z | z | z | z | z <;> subst z
      · change wp (d + 2) K_X12_leaves 7 [] _ h Q; rw [e7]; rw [eS, show aI h (a + 19) s = 2 from e] at A; exact A
      · change wp (d + 2) K_X12_leaves 135 [] _ h Q; rw [e135]; rw [eS, show aI h (a + 19) s = 3 from e] at A; exact A
      · change wp (d + 2) K_X12_leaves 9 [] _ h Q; rw [e9]; rw [eS, show aI h (a + 19) s = 4 from e] at A; exact A
      · change wp (d + 2) K_X12_leaves 135 [] _ h Q; rw [e135]; rw [eS, show aI h (a + 19) s = 5 from e] at A; exact A
      · change wp (d + 2) K_X12_leaves 33 [] _ h Q; rw [e33]; rw [eS, show aI h (a + 19) s = 6 from e] at A; exact A
      · change wp (d + 2) K_X12_leaves 7 [] _ h Q; rw [e7]; rw [eS, show aI h (a + 19) s = 7 from e] at A; exact A
      · change wp (d + 2) K_X12_leaves 7 [] _ h Q; rw [e7]; rw [eS, show aI h (a + 19) s = 8 from e] at A; exact A
      · change wp (d + 2) K_X12_leaves 75 [] _ h Q; rw [e75]; rw [eS, show aI h (a + 19) s = 9 from e] at A; exact A
      · change wp (d + 2) K_X12_leaves 135 [] _ h Q; rw [e135]; rw [eS, show aI h (a + 19) s = 10 from e] at A; exact A
      · change wp (d + 2) K_X12_leaves 128 [] _ h Q; rw [e128]; rw [eS, show aI h (a + 19) s = 11 from e] at A; exact A
end
