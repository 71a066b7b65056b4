/-! The reference: feed and find -/
def fdX (x1 x2 x3 x4 x5 : Int32) (k : Nat) : Int32 := if k < 4 then x1 else if k < 8 then x2 else if k < 12 then x3 else if k < 16 then x4 else x5
def fdB (x1 x2 x3 x4 x5 : Int32) (k : Nat) : Int32 := (fdX x1 x2 x3 x4 x5 k >>> (nI (24 - 8 * (k % 4)) &&& 31)) &&& 255
def fdF (r : RV) (n : Nat) (x1 x2 x3 x4 x5 : Int32) : RV := fup (fun k r => tI r 1 (n + k) (fdB x1 x2 x3 x4 x5 k)) 20 0 r
def fndS (r : RV) (w nk nm n : Nat) : Int32 := if 0 < n ∧ n ≤ 8 ∧ lwE (ai r 1) n 0 = n ∧ isKw (lwW (ai r 1) n 0 0) = false then (match kN r w nk (lwW (ai r 1) n 0 0) (nI 2001) with
    | some k => nI (100 + k)
    | none => match mN r w nm (lwW (ai r 1) n 0 0) with
      | some m => nI (200 + m)
      | none => -1) else -1
section
variable {d : Nat} {h : AH} {a w nk nm ns nb : Nat} {r : RV} {Q : Option V → AH → Prop}
theorem a_feed (R : RW r h a) {n : Nat} (hn : gi r 1401 = nI n) (hn2 : n ≤ 2000) (x1 x2 x3 x4 x5 : Int32) (H1 : 2000 < n + 20 → Q (some (vi (-3))) h) (H2 : n + 20 ≤ 2000 → ∀ h', RW (sI (fdF r n x1 x2 x3 x4 x5) 1401 (nI (n + 20))) h' a → Q (some (vi (nI (n + 20)))) h') : wp d K_X12_feed 0 [] [(0, vr (some a)), (1, vi x1), (2, vi x2), (3, vi x3), (4, vi x4), (5, vi x5)] h Q := by
  rw [rb_X12_feed_0 _ _ _ _ _ _ R.1, R.gi, hn, show (20 : Int32) = nI 20 from rfl, nI_add, show (2000 : Int32) = nI 2000 from rfl]
  simp (disch := omega) only [nI_clamp, nI_leI, nI_ltI, nI_eq, nI_add, pk_mul, vp_in_nI, nI_1, true_and, and_true, true_implies, implies_true, not_true_eq_false, not_false_eq_true, false_implies, psh, nn_some, forall_const]
  refine ⟨fun z => ?_, fun z => ?_⟩
  · have H2 := H2 z
    rw [bk_X12_feed_8]
    have L : ∀ m k (r : RV) (h : AH), k + m = 20 → RW r h a → gi r 1401 = nI n → (∀ h', RW (sI (fup (fun k r => tI r 1 (n + k) (fdB x1 x2 x3 x4 x5 k)) m k r) 1401 (nI (n + 20))) h' a → Q (some (vi (nI (n + 20)))) h') → wp d K_X12_feed 10 [] [(0, vr (some a)), (1, vi x1), (2, vi x2), (3, vi x3), (4, vi x4), (5, vi x5), (6, vi (nI k))] h Q := by
      intro m
      induction m with
      | zero =>
        intro k r h e R g H
        rw [bk_X12_feed_10, show (20 : Int32) = nI 20 from rfl]
        simp (disch := omega) only [nI_clamp, nI_leI, nI_ltI, nI_eq, nI_add, pk_mul, vp_in_nI, nI_1, true_and, and_true, true_implies, implies_true, not_true_eq_false, not_false_eq_true, false_implies, psh, nn_some, forall_const, show 20 ≤ k by omega]
        rw [rb_X12_feed_55 _ _ _ _ _ _ _ R.1, fFI_same, R.gi, g, show (20 : Int32) = nI 20 from rfl, nI_add]
        exact H _ (R.FI 1401 _)
      | succ m ih =>
        intro k r h e R g H
        rw [bk_X12_feed_10, show (20 : Int32) = nI 20 from rfl]
        simp (disch := omega) only [nI_clamp, nI_leI, nI_ltI, nI_eq, nI_add, pk_mul, vp_in_nI, nI_1, true_and, and_true, true_implies, implies_true, not_true_eq_false, not_false_eq_true, false_implies, psh, nn_some, forall_const, show ¬ 20 ≤ k by omega]
        have go : ∀ v, v = fdX x1 x2 x3 x4 x5 k → wp d K_X12_feed 34 [vi v] [(0, vr (some a)), (1, vi x1), (2, vi x2), (3, vi x3), (4, vi x4), (5, vi x5), (6, vi (nI k))] h Q := fun v ev => by
          rw [rb_X12_feed_34 _ _ _ _ _ _ _ _ R.1, R.gi, g, lt4, pk_rem (by omega) (by omega) (by omega), show (8 : Int32) = nI 8 from rfl, show (24 : Int32) = nI 24 from rfl, pk_mul, pk_sub (by omega)]
          simp (disch := omega) only [nI_clamp, nI_leI, nI_ltI, nI_eq, nI_add, pk_mul, vp_in_nI, nI_1, true_and, and_true, true_implies, implies_true, not_true_eq_false, not_false_eq_true, false_implies, psh, nn_some, forall_const]
          refine ⟨by decide, ?_⟩
          refine wp_cut 7 ?_
          refine ih (k + 1) _ _ (by omega) (R.AI 1 (n + k) _) g ?_
          have e2 : fup (fun k r => tI r 1 (n + k) (fdB x1 x2 x3 x4 x5 k)) m (k + 1) (tI r 1 (n + k) ((v >>> (nI (24 - 8 * (k % 4)) &&& 31)) &&& 255)) = fup (fun k r => tI r 1 (n + k) (fdB x1 x2 x3 x4 x5 k)) (m + 1) k r := by
            rw [ev]; rfl
          rw [e2]
          exact H
        rw [bk_X12_feed_13, lt4]
        simp (disch := omega) only [nI_clamp, nI_leI, nI_ltI, nI_eq, nI_add, pk_mul, vp_in_nI, nI_1, true_and, and_true, true_implies, implies_true, not_true_eq_false, not_false_eq_true, false_implies, psh, nn_some, forall_const]
        refine ⟨fun c => ?_, fun c => ?_⟩
        · rw [bk_X12_feed_18, show (8 : Int32) = nI 8 from rfl]
          simp (disch := omega) only [nI_clamp, nI_leI, nI_ltI, nI_eq, nI_add, pk_mul, vp_in_nI, nI_1, true_and, and_true, true_implies, implies_true, not_true_eq_false, not_false_eq_true, false_implies, psh, nn_some, forall_const]
          refine ⟨fun c2 => ?_, fun c2 => ?_⟩
          · rw [bk_X12_feed_23, lt12]
            simp (disch := omega) only [nI_clamp, nI_leI, nI_ltI, nI_eq, nI_add, pk_mul, vp_in_nI, nI_1, true_and, and_true, true_implies, implies_true, not_true_eq_false, not_false_eq_true, false_implies, psh, nn_some, forall_const]
            refine ⟨fun c3 => ?_, fun c3 => ?_⟩
            · rw [bk_X12_feed_28, lt16]
              simp (disch := omega) only [nI_clamp, nI_leI, nI_ltI, nI_eq, nI_add, pk_mul, vp_in_nI, nI_1, true_and, and_true, true_implies, implies_true, not_true_eq_false, not_false_eq_true, false_implies, psh, nn_some, forall_const]
              refine ⟨fun c4 => ?_, fun c4 => ?_⟩
              · rw [bk_X12_feed_33]
                exact go x5 (by unfold fdX; rw [if_neg (by omega), if_neg (by omega), if_neg (by omega), if_neg (by omega)])
              · rw [bk_X12_feed_31]
                exact go x4 (by unfold fdX; rw [if_neg (by omega), if_neg (by omega), if_neg (by omega), if_pos (by omega)])
            · rw [bk_X12_feed_26]
              exact go x3 (by unfold fdX; rw [if_neg (by omega), if_neg (by omega), if_pos (by omega)])
          · rw [bk_X12_feed_21]
            exact go x2 (by unfold fdX; rw [if_neg (by omega), if_pos (by omega)])
        · rw [bk_X12_feed_16]
          exact go x1 (by unfold fdX; rw [if_pos (by omega)])
    exact L 20 0 r h (by omega) R hn H2
  · rw [bk_X12_feed_6]
    exact H1 (by omega)
theorem a_find (T : BQ h a w nk nm ns nb) {n : Nat} (hn : fI h 1401 a = nI n) (hn2 : n ≤ 2000) : wp (d + 1) K_X12_find 0 [] [(0, vr (some a))] h Q = Q (some (vi (fndS (view h a) w nk nm n))) (setFI h 1401 a 0) := by
  have K := T.1.1; have hs := K.1; have hw := K.2.1; have hw2 := K.2.2.1; have hk := K.2.2.2.1; have hk16 := K.2.2.2.2.1
  have hm := T.1.2.1; have hm12 := T.1.2.2.1
  have e47 : ∀ x x3 x4 (h : AH), wp (d + 1) K_X12_find 47 [] [(0, vr (some a)), (1, vl x), (3, vi x3), (4, vi x4)] h Q = Q (some (vi (-1))) h := fun x x3 x4 h => by rw [bk_X12_find_47]
  -- behind the loop
  have B : ∀ (b : Bool) x k, wp (d + 1) K_X12_find 39 [] [(0, vr (some a)), (1, vl x), (3, vi (b2i b)), (4, vi k)] h Q = Q (some (vi (if b = true ∧ isKw x = false then (match kN (view h a) w nk x (nI 2001) with
      | some k => nI (100 + k)
      | none => match mN (view h a) w nm x with
        | some m => nI (200 + m)
        | none => -1) else -1))) (setFI h 1401 a 0) := by
    intro b x k
    rw [rb_X12_find_39 _ _ _ _ hs, e47]
    simp only [b2i_0, bk_X12_find_44]
    have T2 : BQ (setFI h 1401 a 0) a w nk nm ns nb := T
    rw [e_isKeyword]
    simp only [psh, bk_X12_find_46, b2i_0]
    rw [e47, rb_X12_find_49 _ _ _ _ T2.1.1.1, show (2001 : Int32) = nI 2001 from rfl, q_kindOf T2.1.1]
    simp only [psh]
    rw [rb_X12_find_53 _ _ _ _ _ T2.1.1.1, t_methodOf T2.1]
    simp only [psh, bk_X12_find_57, bk_X12_find_65, bk_X12_find_61, bk_X12_find_72, bk_X12_find_68, bk_X12_find_73]
    have ek : kN (view (setFI h 1401 a 0) a) w nk x (nI 2001) = kN (view h a) w nk x (nI 2001) := rfl
    have em : mN (view (setFI h 1401 a 0) a) w nm x = mN (view h a) w nm x := rfl
    rw [ek, em]
    cases b with
    | false => simp
    | true =>
      cases isKw x with
      | true => simp
      | false =>
        cases e1 : kN (view h a) w nk x (nI 2001) with
        | some j =>
          have := kN_lt e1
          have n1 : ¬ nI j = -1 := nI_ne_m1 (by omega)
          simp [oI, n1, show (100 : Int32) = nI 100 from rfl, nI_add]
        | none =>
          cases e2 : mN (view h a) w nm x with
          | none => simp [oI]
          | some j =>
            have := mN_lt e2
            have n1 : ¬ nI j = -1 := nI_ne_m1 (by omega)
            simp [oI, n1, show (200 : Int32) = nI 200 from rfl, nI_add]
  have L : ∀ m k x, k + m = n → n ≤ 8 → wp (d + 1) K_X12_find 15 [] [(0, vr (some a)), (1, vl x), (3, vi (b2i true)), (4, vi (nI k))] h Q = Q (some (vi (if lwE (ai (view h a) 1) m k = n ∧ isKw (lwW (ai (view h a) 1) m k x) = false then (match kN (view h a) w nk (lwW (ai (view h a) 1) m k x) (nI 2001) with
      | some k => nI (100 + k)
      | none => match mN (view h a) w nm (lwW (ai (view h a) 1) m k x) with
        | some m => nI (200 + m)
        | none => -1) else -1))) (setFI h 1401 a 0) := by
    intro m
    induction m with
    | zero =>
      intro k x e h8
      rw [rb_X12_find_15 _ _ _ _ hs, hn]
      simp (disch := omega) only [nI_clamp, nI_leI, nI_ltI, nI_eq, nI_add, pk_mul, vp_in_nI, nI_1, true_and, and_true, true_implies, implies_true, not_true_eq_false, not_false_eq_true, false_implies, psh, nn_some, forall_const, show n ≤ k by omega]
      rw [B true]
      have e : k = n := by omega
      subst e
      simp only [lwE, lwW, true_and]
    | succ m ih =>
      intro k x e h8
      rw [rb_X12_find_15 _ _ _ _ hs, hn]
      simp (disch := omega) only [nI_clamp, nI_leI, nI_ltI, nI_eq, nI_add, pk_mul, vp_in_nI, nI_1, true_and, and_true, true_implies, implies_true, not_true_eq_false, not_false_eq_true, false_implies, psh, nn_some, forall_const, show ¬ n ≤ k by omega, bk_X12_find_19, b2i_0]
      rw [rb_X12_find_21 _ _ _ _ hs]
      simp (disch := omega) only [nI_clamp, nI_leI, nI_ltI, nI_eq, nI_add, pk_mul, vp_in_nI, nI_1, true_and, and_true, true_implies, implies_true, not_true_eq_false, not_false_eq_true, false_implies, psh, nn_some, forall_const, Bool.true_eq_false]
      rw [e_isLetter]
      simp only [psh]
      rw [rb_X12_find_26 _ _ _ _ _ hs]
      simp (disch := omega) only [nI_clamp, nI_leI, nI_ltI, nI_eq, nI_add, pk_mul, vp_in_nI, nI_1, true_and, and_true, true_implies, implies_true, not_true_eq_false, not_false_eq_true, false_implies, psh, nn_some, forall_const]
      rw [lwE, lwW]
      have et : ai (view h a) 1 k = aI h (a + 1) k := rfl
      rw [et]
      cases c : isLe (aI h (a + 1) k) with
      | true =>
        simp only [if_true]
        exact ih (k + 1) (wd8 x (aI h (a + 1) k)) (by omega) h8
      | false =>
        have nk' : ¬ k = n := by omega
        simp only [Bool.false_eq_true, if_false, nk', false_and]
        rw [rb_X12_find_15 _ _ _ _ hs, hn]
        simp (disch := omega) only [nI_clamp, nI_leI, nI_ltI, nI_eq, nI_add, pk_mul, vp_in_nI, nI_1, true_and, and_true, true_implies, implies_true, not_true_eq_false, not_false_eq_true, false_implies, psh, nn_some, forall_const, bk_X12_find_19, b2i_0]
        rw [B false]
        refine ite2 (fun _ => ?_) (fun _ => ?_)
        · simp
        · simp
  have le0 : ∀ j, j < 2 ^ 31 → (nI j ≤ 0) = (j = 0) := fun j hj => by
    apply propext
    constructor
    · intro q
      by_cases c : j = 0
      · exact c
      · exact absurd q (nI_nle (by omega) hj)
    · intro q; rw [q]; decide
  rw [rb_X12_find_0 _ hs, hn, le0 n (by omega)]
  unfold fndS
  refine ite2 (fun c => ?_) (fun c => ?_)
  · subst c
    rw [if_neg (by omega), bk_X12_find_11, bk_X12_find_12, rb_X12_find_15 _ _ _ _ hs, hn, le0 0 (by omega)]
    rw [show ((3 : Nat), vi 0) = (3, vi (b2i false)) from rfl, B false]
    simp
  · rw [rb_X12_find_5 _ _ hs, hn, show (8 : Int32) = nI 8 from rfl]
    simp (disch := omega) only [nI_clamp, nI_leI, nI_ltI, nI_eq, nI_add, pk_mul, vp_in_nI, nI_1, true_and, and_true, true_implies, implies_true, not_true_eq_false, not_false_eq_true, false_implies, psh, nn_some, forall_const]
    refine ite2 (fun c2 => ?_) (fun c2 => ?_)
    · rw [if_neg (by omega), bk_X12_find_11, bk_X12_find_12, rb_X12_find_15 _ _ _ _ hs, hn, le0 n (by omega), bk_X12_find_19]
      rw [show ((3 : Nat), vi 0) = (3, vi (b2i false)) from rfl, B false]
      simp [c]
    · rw [bk_X12_find_9, bk_X12_find_12, show ((3 : Nat), vi 1) = (3, vi (b2i true)) from rfl, show ((4 : Nat), vi 0) = (4, vi (nI 0)) from rfl, L n 0 0 (by omega) (by omega)]
      have g1 : 0 < n := by omega
      have g2 : n ≤ 8 := by omega
      simp only [g1, g2, true_and]
end
