/-! What the reference answers when it is asked -/
/-- an index that is given from outside -/
def ixO (x : Int32) (n : Nat) : Option Nat := if x < 0 ∨ nI n ≤ x then none else some (tn x)
theorem ixO_cases (x : Int32) {n : Nat} (hn : n < 2 ^ 31) : (ixO x n = none ∧ (x < 0 ∨ (¬ x < 0 ∧ nI n ≤ x))) ∨ ∃ j, j < n ∧ x = nI j ∧ ixO x n = some j := by
  rcases pk_ix x hn with h | h | ⟨j, hj, e⟩
  · exact Or.inl ⟨by unfold ixO; rw [if_pos (Or.inl h)], Or.inl h⟩
  · by_cases c : x < 0
    · exact Or.inl ⟨by unfold ixO; rw [if_pos (Or.inl c)], Or.inl c⟩
    · exact Or.inl ⟨by unfold ixO; rw [if_pos (Or.inr h)], Or.inr ⟨c, h⟩⟩
  · refine Or.inr ⟨j, hj, e, ?_⟩
    unfold ixO
    rw [if_neg, e, tn_nI (by omega)]
    rw [e]
    rintro (q | q)
    · exact nI_pos (by omega) q
    · exact nI_ge hj hn q
def tolS (r : RV) (w : Nat) (x : Int32) : Int32 := if x = 0 then ai r 2 w else if x = 1 then ai r 8 w else if x = 2 then ai r 18 w else if x = 3 then gi r 1460 else if x = 4 then gi r 1401 else -3
def misS (r : RV) (n : Nat) (x y : Int32) : Int32 := match ixO x n with
  | none => -3
  | some j => if y = 0 then ai r 49 j else if y = 1 then ai r 50 j else if y = 2 then ai r 51 j else -3
def kinS (r : RV) (w nk : Nat) (x y : Int32) : Int32 := match ixO x nk with
  | none => -3
  | some j => if y = 0 then (if j = 0 then -1 else nI (parN r w nk j)) else if y = 1 then b2i (chk r w nk j) else if y = 2 then ai r 4 (w * 16 + j) else -3
def belS (r : RV) (w nk : Nat) (x y : Int32) : Bool := match ixO x nk, ixO y nk with
  | some i, some j => bel r w nk i j
  | _, _ => false
def metS (r : RV) (w nk nm : Nat) (x y : Int32) : Int32 := match ixO x nm with
  | none => -3
  | some j => if y = 0 then ai r 10 (w * 12 + j) else if y = 1 then b2i (decide (¬ ai r 17 (w * 12 + j) = -1)) else if y = 2 then bcS r (oN (ai r 17 (w * 12 + j))) else if y = 3 then thrS r w nk (w * 12 + j) else if y = 4 then b2i (lfB r (oN (ai r 17 (w * 12 + j)))) else if y = 5 then b2i (decide (¬ ai r 13 (w * 12 + j) = 0)) else if y = 6 then oI (abv r w nm (w * 12 + j)) else -3
def staS (r : RV) (w ns : Nat) (x y : Int32) : Int32 := match ixO x ns with
  | none => -3
  | some j => if y = 0 then ai r 19 (w * 120 + j) else if y = 1 then ai r 20 (w * 120 + j) else if y = 2 then ai r 47 (w * 120 + j) else if y = 3 then b2i (decide (¬ ai r 48 (w * 120 + j) = 0)) else if y = 4 then ai r 22 (w * 120 + j) else -3
section
variable {d : Nat} {h : AH} {a w nk nm ns nb : Nat} {Q : Option V → AH → Prop}
theorem a_told (T : BQ h a w nk nm ns nb) (x : Int32) : wp d K_X12_told 0 [] [(0, vr (some a)), (1, vi x)] h Q = Q (some (vi (tolS (view h a) w x))) h := by
  have hs := T.1.1.1; have hw := T.1.1.2.1; have hw2 := T.1.1.2.2.1
  have e : tolS (view h a) w x = if x = 0 then aI h (a + 2) w else if x = 1 then aI h (a + 8) w else if x = 2 then aI h (a + 18) w else if x = 3 then fI h 1460 a else if x = 4 then fI h 1401 a else -3 := rfl
  rw [e, bk_X12_told_0, rb_X12_told_2 _ _ hs, bk_X12_told_8, rb_X12_told_11 _ _ hs, bk_X12_told_17, rb_X12_told_20 _ _ hs, bk_X12_told_26, rb_X12_told_29 _ _ hs, bk_X12_told_32, rb_X12_told_35 _ _ hs]
  simp (disch := omega) only [hw, nI_clamp, nI_leI, nI_ltI, nI_eq, nI_add, pk_mul, vp_in_nI, nI_1, true_and, and_true, true_implies, implies_true, not_true_eq_false, not_false_eq_true, false_implies, psh, nn_some, forall_const, bk_X12_told_39, bk_X12_told_38]
  by_cases c0 : x = 0
  · simp [c0]
  by_cases c1 : x = 1
  · simp [c1]
  by_cases c2 : x = 2
  · simp [c2]
  by_cases c3 : x = 3
  · simp [c3]
  by_cases c4 : x = 4
  · simp [c4]
  simp [c0, c1, c2, c3, c4]
theorem a_mistake (hs : RS h a) {n : Nat} (hn : fI h 1460 a = nI n) (hn4 : n ≤ 4000) (x y : Int32) : wp d K_X12_mistake 0 [] [(0, vr (some a)), (1, vi x), (2, vi y)] h Q = Q (some (vi (misS (view h a) n x y))) h := by
  rw [bk_X12_mistake_0, rb_X12_mistake_2 _ _ _ hs, hn]
  unfold misS
  rcases ixO_cases x (n := n) (by omega) with ⟨e, c⟩ | ⟨j, hj, ex, e⟩
  · rw [e]
    rcases c with c | ⟨c, c2⟩
    · simp [c, bk_X12_mistake_6]
    · have c3 : ¬ x < nI n := Int32.not_lt.mpr c2
      simp [c, c3, bk_X12_mistake_6]
  · rw [e, ex]
    simp (disch := omega) only [nI_pos, nI_clamp, nI_leI, nI_ltI, nI_eq, nI_add, pk_mul, vp_in_nI, nI_1, true_and, and_true, true_implies, implies_true, not_true_eq_false, not_false_eq_true, false_implies, psh, nn_some, forall_const, hj, bk_X12_mistake_8, bk_X12_mistake_15, bk_X12_mistake_23]
    rw [rb_X12_mistake_10 _ _ _ hs, rb_X12_mistake_18 _ _ _ hs, rb_X12_mistake_26 _ _ _ hs]
    simp (disch := omega) only [nI_clamp, nI_leI, nI_ltI, nI_eq, nI_add, pk_mul, vp_in_nI, nI_1, true_and, and_true, true_implies, implies_true, not_true_eq_false, not_false_eq_true, false_implies, psh, nn_some, forall_const, bk_X12_mistake_32, bk_X12_mistake_31]
    show _ = Q (some (vi (if y = 0 then aI h (a + 49) j else if y = 1 then aI h (a + 50) j else if y = 2 then aI h (a + 51) j else -3))) h
    by_cases c0 : y = 0
    · simp [c0]
    by_cases c1 : y = 1
    · simp [c1]
    by_cases c2 : y = 2
    · simp [c2]
    simp [c0, c1, c2]
theorem a_kind (T : BQ h a w nk nm ns nb) (x y : Int32) : wp (d + 4) K_X12_kind 0 [] [(0, vr (some a)), (1, vi x), (2, vi y)] h Q = Q (some (vi (kinS (view h a) w nk x y))) h := by
  have K := T.1.1; have hs := K.1; have hw := K.2.1; have hw2 := K.2.2.1; have hk := K.2.2.2.1; have hn := K.2.2.2.2.1
  rw [bk_X12_kind_0, rb_X12_kind_2 _ _ _ hs, hw]
  simp (disch := omega) only [hk, nI_clamp, nI_leI, nI_ltI, nI_eq, nI_add, pk_mul, vp_in_nI, nI_1, true_and, and_true, true_implies, implies_true, not_true_eq_false, not_false_eq_true, false_implies, psh, nn_some, forall_const]
  unfold kinS
  rcases ixO_cases x (n := nk) (by omega) with ⟨e, c⟩ | ⟨j, hj, ex, e⟩
  · rw [e]
    rcases c with c | ⟨c, c2⟩
    · simp [c, bk_X12_kind_9]
    · have c3 : ¬ x < nI nk := Int32.not_lt.mpr c2
      simp [c, c3, bk_X12_kind_9]
  · rw [e, ex]
    simp (disch := omega) only [nI_pos, nI_clamp, nI_leI, nI_ltI, nI_eq, nI_add, pk_mul, vp_in_nI, nI_1, true_and, and_true, true_implies, implies_true, not_true_eq_false, not_false_eq_true, false_implies, psh, nn_some, forall_const, hj, bk_X12_kind_11, bk_X12_kind_17, bk_X12_kind_28]
    rw [rb_X12_kind_13 _ _ _ hs, rb_X12_kind_20 _ _ _ hs, rb_X12_kind_31 _ _ _ hs, q_parent K j hj, q_isChecked K hj, hw, lt16]
    simp (disch := omega) only [nI_clamp, nI_leI, nI_ltI, nI_eq, nI_add, pk_mul, vp_in_nI, nI_1, true_and, and_true, true_implies, implies_true, not_true_eq_false, not_false_eq_true, false_implies, psh, nn_some, forall_const, bk_X12_kind_16, bk_X12_kind_41, bk_X12_kind_23, bk_X12_kind_42, bk_X12_kind_26, bk_X12_kind_24, b2i_0]
    show _ = Q (some (vi (if y = 0 then (if j = 0 then -1 else nI (parN (view h a) w nk j)) else if y = 1 then b2i (chk (view h a) w nk j) else if y = 2 then aI h (a + 4) (w * 16 + j) else -3))) h
    by_cases c0 : y = 0
    · simp [c0]
    by_cases c1 : y = 1
    · subst c1; cases chk (view h a) w nk j <;> simp [b2i]
    by_cases c2 : y = 2
    · simp [c2]
    simp [c0, c1, c2]
theorem a_below (T : BQ h a w nk nm ns nb) (x y : Int32) : wp (d + 3) K_X12_below 0 [] [(0, vr (some a)), (1, vi x), (2, vi y)] h Q = Q (some (vi (b2i (belS (view h a) w nk x y)))) h := by
  have K := T.1.1; have hs := K.1; have hw := K.2.1; have hw2 := K.2.2.1; have hk := K.2.2.2.1; have hn := K.2.2.2.2.1
  have e25 : wp (d + 3) K_X12_below 25 [] [(0, vr (some a)), (1, vi x), (2, vi y)] h Q = Q (some (vi (b2i false))) h := by
    rw [bk_X12_below_25, bk_X12_below_26]; exact propext (and_iff_right (Or.inl rfl))
  rw [bk_X12_below_0, rb_X12_below_2 _ _ _ hs, bk_X12_below_9, rb_X12_below_11 _ _ _ hs, hw, e25]
  simp (disch := omega) only [hk, nI_clamp, nI_leI, nI_ltI, nI_eq, nI_add, pk_mul, vp_in_nI, nI_1, true_and, and_true, true_implies, implies_true, not_true_eq_false, not_false_eq_true, false_implies, psh, nn_some, forall_const]
  unfold belS
  rcases ixO_cases x (n := nk) (by omega) with ⟨e, c⟩ | ⟨j, hj, ex, e⟩
  · rw [e]
    rcases c with c | ⟨c, c2⟩
    · simp [c]
    · simp [c, c2]
  · rcases ixO_cases y (n := nk) (by omega) with ⟨e', c⟩ | ⟨j', hj', ex', e'⟩
    · rw [e, e', ex]
      simp (disch := omega) only [nI_pos, nI_clamp, nI_leI, nI_ltI, nI_eq, nI_add, pk_mul, vp_in_nI, nI_1, true_and, and_true, true_implies, implies_true, not_true_eq_false, not_false_eq_true, false_implies, psh, nn_some, forall_const, show ¬ nk ≤ j by omega]
      rcases c with c | ⟨c, c2⟩
      · simp [c]
      · simp [c, c2]
    · rw [e, e', ex, ex']
      simp (disch := omega) only [nI_pos, nI_clamp, nI_leI, nI_ltI, nI_eq, nI_add, pk_mul, vp_in_nI, nI_1, true_and, and_true, true_implies, implies_true, not_true_eq_false, not_false_eq_true, false_implies, psh, nn_some, forall_const, show ¬ nk ≤ j by omega, show ¬ nk ≤ j' by omega]
      rw [rb_X12_below_18 _ _ _ hs, q_isBelow K hj (by omega)]
      simp only [psh, bk_X12_below_25, bk_X12_below_26, bk_X12_below_22, bk_X12_below_23, b2i_0]
      cases bel (view h a) w nk j j' <;> simp [b2i]
theorem a_statement (T : BQ h a w nk nm ns nb) (x y : Int32) : wp d K_X12_statement 0 [] [(0, vr (some a)), (1, vi x), (2, vi y)] h Q = Q (some (vi (staS (view h a) w ns x y))) h := by
  have hs := T.1.1.1; have hw := T.1.1.2.1; have hw2 := T.1.1.2.2.1; have hn := T.1.2.2.2.1; have hns := T.1.2.2.2.2.1
  rw [bk_X12_statement_0, rb_X12_statement_2 _ _ _ hs, hw]
  simp (disch := omega) only [hn, nI_clamp, nI_leI, nI_ltI, nI_eq, nI_add, pk_mul, vp_in_nI, nI_1, true_and, and_true, true_implies, implies_true, not_true_eq_false, not_false_eq_true, false_implies, psh, nn_some, forall_const]
  unfold staS
  rcases ixO_cases x (n := ns) (by omega) with ⟨e, c⟩ | ⟨j, hj, ex, e⟩
  · rw [e]
    rcases c with c | ⟨c, c2⟩
    · simp [c, bk_X12_statement_9]
    · have c3 : ¬ x < nI ns := Int32.not_lt.mpr c2
      simp [c, c3, bk_X12_statement_9]
  · rw [e, ex]
    simp (disch := omega) only [nI_pos, nI_clamp, nI_leI, nI_ltI, nI_eq, nI_add, pk_mul, vp_in_nI, nI_1, true_and, and_true, true_implies, implies_true, not_true_eq_false, not_false_eq_true, false_implies, psh, nn_some, forall_const, hj]
    rw [rb_X12_statement_11 _ _ _ hs, hw, lt120]
    simp (disch := omega) only [nI_clamp, nI_leI, nI_ltI, nI_eq, nI_add, pk_mul, vp_in_nI, nI_1, true_and, and_true, true_implies, implies_true, not_true_eq_false, not_false_eq_true, false_implies, psh, nn_some, forall_const, bk_X12_statement_25, bk_X12_statement_33, bk_X12_statement_41, bk_X12_statement_53]
    rw [rb_X12_statement_20 _ _ _ _ hs, rb_X12_statement_28 _ _ _ _ hs, rb_X12_statement_36 _ _ _ _ hs, rb_X12_statement_44 _ _ _ _ hs, rb_X12_statement_56 _ _ _ _ hs]
    simp (disch := omega) only [nI_clamp, nI_leI, nI_ltI, nI_eq, nI_add, pk_mul, vp_in_nI, nI_1, true_and, and_true, true_implies, implies_true, not_true_eq_false, not_false_eq_true, false_implies, psh, nn_some, forall_const, bk_X12_statement_62, bk_X12_statement_61, bk_X12_statement_51, bk_X12_statement_49]
    show _ = Q (some (vi (if y = 0 then aI h (a + 19) (w * 120 + j) else if y = 1 then aI h (a + 20) (w * 120 + j) else if y = 2 then aI h (a + 47) (w * 120 + j) else if y = 3 then b2i (decide (¬ aI h (a + 48) (w * 120 + j) = 0)) else if y = 4 then aI h (a + 22) (w * 120 + j) else -3))) h
    by_cases c0 : y = 0
    · simp [c0]
    by_cases c1 : y = 1
    · simp [c1]
    by_cases c2 : y = 2
    · simp [c2]
    by_cases c3 : y = 3
    · subst c3; by_cases c : aI h (a + 48) (w * 120 + j) = 0 <;> simp [c, b2i]
    by_cases c4 : y = 4
    · simp [c4]
    simp [c0, c1, c2, c3, c4]
theorem a_method (T : BQ h a w nk nm ns nb) (x y : Int32) : wp (d + 2) K_X12_method 0 [] [(0, vr (some a)), (1, vi x), (2, vi y)] h Q = Q (some (vi (metS (view h a) w nk nm x y))) h := by
  have K := T.1.1; have hs := K.1; have hw := K.2.1; have hw2 := K.2.2.1
  have hm := T.1.2.1; have hnm := T.1.2.2.1
  rw [bk_X12_method_0, rb_X12_method_2 _ _ _ hs, hw]
  simp (disch := omega) only [hm, nI_clamp, nI_leI, nI_ltI, nI_eq, nI_add, pk_mul, vp_in_nI, nI_1, true_and, and_true, true_implies, implies_true, not_true_eq_false, not_false_eq_true, false_implies, psh, nn_some, forall_const]
  unfold metS
  rcases ixO_cases x (n := nm) (by omega) with ⟨e, c⟩ | ⟨j, hj, ex, e⟩
  · rw [e]
    rcases c with c | ⟨c, c2⟩
    · simp [c, bk_X12_method_9]
    · have c3 : ¬ x < nI nm := Int32.not_lt.mpr c2
      simp [c, c3, bk_X12_method_9]
  · rw [e, ex]
    simp (disch := omega) only [nI_pos, nI_clamp, nI_leI, nI_ltI, nI_eq, nI_add, pk_mul, vp_in_nI, nI_1, true_and, and_true, true_implies, implies_true, not_true_eq_false, not_false_eq_true, false_implies, psh, nn_some, forall_const, hj]
    rw [rb_X12_method_11 _ _ _ hs, hw, lt12]
    simp (disch := omega) only [nI_clamp, nI_leI, nI_ltI, nI_eq, nI_add, pk_mul, vp_in_nI, nI_1, true_and, and_true, true_implies, implies_true, not_true_eq_false, not_false_eq_true, false_implies, psh, nn_some, forall_const, bk_X12_method_82]
    have R17 := T.2.2.2.2 j hj
    have ob : ∀ b, oN (aI h (a + 17) (w * 12 + j)) = some b → w * 1024 ≤ b ∧ b < w * 1024 + nb := fun b e => (rf_some R17 e).2
    show _ = Q (some (vi (if y = 0 then aI h (a + 10) (w * 12 + j) else if y = 1 then b2i (decide (¬ aI h (a + 17) (w * 12 + j) = -1)) else if y = 2 then bcS (view h a) (oN (aI h (a + 17) (w * 12 + j))) else if y = 3 then thrS (view h a) w nk (w * 12 + j) else if y = 4 then b2i (lfB (view h a) (oN (aI h (a + 17) (w * 12 + j)))) else if y = 5 then b2i (decide (¬ aI h (a + 13) (w * 12 + j) = 0)) else if y = 6 then oI (abv (view h a) w nm (w * 12 + j)) else -3))) h
    have X0 : wp (d + 2) K_X12_method 20 [] [(0, vr (some a)), (1, vi (nI j)), (2, vi y), (3, vi (nI (w * 12 + j)))] h Q = Q (some (vi (aI h (a + 10) (w * 12 + j)))) h := by
      rw [rb_X12_method_20 _ _ _ _ hs]
      simp (disch := omega) only [nI_clamp, nI_leI, nI_ltI, nI_eq, nI_add, pk_mul, vp_in_nI, nI_1, true_and, and_true, true_implies, implies_true, not_true_eq_false, not_false_eq_true, false_implies, psh, nn_some, forall_const]
    have X1 : wp (d + 2) K_X12_method 25 [] [(0, vr (some a)), (1, vi (nI j)), (2, vi y), (3, vi (nI (w * 12 + j)))] h Q = Q (some (vi (b2i (decide (¬ aI h (a + 17) (w * 12 + j) = -1))))) h := by
      rw [rb_X12_method_25 _ _ _ _ hs]
      simp (disch := omega) only [nI_clamp, nI_leI, nI_ltI, nI_eq, nI_add, pk_mul, vp_in_nI, nI_1, true_and, and_true, true_implies, implies_true, not_true_eq_false, not_false_eq_true, false_implies, psh, nn_some, forall_const, bk_X12_method_33, bk_X12_method_31, bk_X12_method_34]
      by_cases c : aI h (a + 17) (w * 12 + j) = -1 <;> simp [c, b2i]
    have X2 : wp (d + 2) K_X12_method 35 [] [(0, vr (some a)), (1, vi (nI j)), (2, vi y), (3, vi (nI (w * 12 + j)))] h Q = Q (some (vi (bcS (view h a) (oN (aI h (a + 17) (w * 12 + j)))))) h := by
      rw [rb_X12_method_35 _ _ _ _ hs]
      simp (disch := omega) only [nI_clamp, nI_leI, nI_ltI, nI_eq, nI_add, pk_mul, vp_in_nI, nI_1, true_and, and_true, true_implies, implies_true, not_true_eq_false, not_false_eq_true, false_implies, psh, nn_some, forall_const]
      rw [rf_oI R17, b_blockCan T ob]
      simp only [psh, bk_X12_method_41]
      rw [← rf_oI R17]
    have X3 : wp (d + 2) K_X12_method 42 [] [(0, vr (some a)), (1, vi (nI j)), (2, vi y), (3, vi (nI (w * 12 + j)))] h Q = Q (some (vi (thrS (view h a) w nk (w * 12 + j)))) h := by
      rw [rb_X12_method_42 _ _ _ _ hs, show vi (nI j) = vi (oI (some j)) from rfl, q_throwsOf K (some j) (fun i e => by cases e; exact ⟨by omega, T.1.2.2.2.2.2.1 j hj⟩)]
      simp only [psh, bk_X12_method_45]
      rfl
    have X4 : wp (d + 2) K_X12_method 46 [] [(0, vr (some a)), (1, vi (nI j)), (2, vi y), (3, vi (nI (w * 12 + j)))] h Q = Q (some (vi (b2i (lfB (view h a) (oN (aI h (a + 17) (w * 12 + j))))))) h := by
      rw [rb_X12_method_46 _ _ _ _ hs]
      simp (disch := omega) only [nI_clamp, nI_leI, nI_ltI, nI_eq, nI_add, pk_mul, vp_in_nI, nI_1, true_and, and_true, true_implies, implies_true, not_true_eq_false, not_false_eq_true, false_implies, psh, nn_some, forall_const]
      rw [rf_oI R17, b_isLeft T ob, ← rf_oI R17]
      simp only [psh, bk_X12_method_52, bk_X12_method_55, bk_X12_method_53, bk_X12_method_56, b2i_0]
      cases lfB (view h a) (oN (aI h (a + 17) (w * 12 + j))) <;> simp [b2i]
    have X5 : wp (d + 2) K_X12_method 57 [] [(0, vr (some a)), (1, vi (nI j)), (2, vi y), (3, vi (nI (w * 12 + j)))] h Q = Q (some (vi (b2i (decide (¬ aI h (a + 13) (w * 12 + j) = 0))))) h := by
      rw [rb_X12_method_57 _ _ _ _ hs]
      simp (disch := omega) only [nI_clamp, nI_leI, nI_ltI, nI_eq, nI_add, pk_mul, vp_in_nI, nI_1, true_and, and_true, true_implies, implies_true, not_true_eq_false, not_false_eq_true, false_implies, psh, nn_some, forall_const, bk_X12_method_64, bk_X12_method_62, bk_X12_method_65]
      by_cases c : aI h (a + 13) (w * 12 + j) = 0 <;> simp [c, b2i]
    have X6 : wp (d + 2) K_X12_method 66 [] [(0, vr (some a)), (1, vi (nI j)), (2, vi y), (3, vi (nI (w * 12 + j)))] h Q = Q (some (vi (oI (abv (view h a) w nm (w * 12 + j))))) h := by
      rw [rb_X12_method_66 _ _ _ _ hs, rb_X12_method_75 _ _ _ _ hs]
      simp (disch := omega) only [nI_clamp, nI_leI, nI_ltI, nI_eq, nI_add, pk_mul, vp_in_nI, nI_1, true_and, and_true, true_implies, implies_true, not_true_eq_false, not_false_eq_true, false_implies, psh, nn_some, forall_const, lg0, bk_X12_method_73, bk_X12_method_81]
      rw [t_methodOf T.1]
      simp only [psh, bk_X12_method_81]
      have ea : abv (view h a) w nm (w * 12 + j) = if aJ h (a + 11) (w * 12 + j) = 0 then none else mN (view h a) w nm (aJ h (a + 11) (w * 12 + j)) := rfl
      rw [ea]
      by_cases c : aJ h (a + 11) (w * 12 + j) = 0 <;> simp [c, oI]
    apply propext
    have sw : y < 0 ∨ 0 + Int32.ofNat 7 ≤ y ∨ ∃ i, i < 7 ∧ y = nI i := by
      rcases pk_ix y (n := 7) (by decide) with h | h | h
      · exact Or.inl h
      · exact Or.inr (Or.inl h)
      · exact Or.inr (Or.inr h)
    have ne : (y < 0 ∨ 0 + Int32.ofNat 7 ≤ y) → ∀ v : Int32, ¬ (v < 0 ∨ 0 + Int32.ofNat 7 ≤ v) → ¬ y = v := fun c v hv z => hv (by rw [z] at c; exact c)
    have big : (y < 0 ∨ 0 + Int32.ofNat 7 ≤ y) → (if y = 0 then aI h (a + 10) (w * 12 + j) else if y = 1 then b2i (decide (¬ aI h (a + 17) (w * 12 + j) = -1)) else if y = 2 then bcS (view h a) (oN (aI h (a + 17) (w * 12 + j))) else if y = 3 then thrS (view h a) w nk (w * 12 + j) else if y = 4 then b2i (lfB (view h a) (oN (aI h (a + 17) (w * 12 + j)))) else if y = 5 then b2i (decide (¬ aI h (a + 13) (w * 12 + j) = 0)) else if y = 6 then oI (abv (view h a) w nm (w * 12 + j)) else -3) = -3 := fun c => by
      rw [if_neg (ne c 0 (by decide)), if_neg (ne c 1 (by decide)), if_neg (ne c 2 (by decide)), if_neg (ne c 3 (by decide)), if_neg (ne c 4 (by decide)), if_neg (ne c 5 (by decide)), if_neg (ne c 6 (by decide))]
    constructor
    · rintro ⟨A, B⟩
      rcases sw with c | c | ⟨i, hi, ei⟩
      · rw [big (Or.inl c)]; exact A (Or.inl c)
      · rw [big (Or.inr c)]; exact A (Or.inr c)
      · have B := B i hi (by rw [ei, Int32.zero_add]; rfl)
        have : i = 0 ∨ i = 1 ∨ i = 2 ∨ i = 3 ∨ i = 4 ∨ i = 5 ∨ i = 6 := by omega
        rcases this with z | z | z | z | z | z | z <;> subst z
        · change wp (d + 2) K_X12_method 20 [] _ h Q at B; rw [X0] at B; rw [ei]; exact B
        · change wp (d + 2) K_X12_method 25 [] _ h Q at B; rw [X1] at B; rw [ei]; exact B
        · change wp (d + 2) K_X12_method 35 [] _ h Q at B; rw [X2] at B; rw [ei]; exact B
        · change wp (d + 2) K_X12_method 42 [] _ h Q at B; rw [X3] at B; rw [ei]; exact B
        · change wp (d + 2) K_X12_method 46 [] _ h Q at B; rw [X4] at B; rw [ei]; exact B
        · change wp (d + 2) K_X12_method 57 [] _ h Q at B; rw [X5] at B; rw [ei]; exact B
        · change wp (d + 2) K_X12_method 66 [] _ h Q at B; rw [X6] at B; rw [ei]; exact B
    · intro A
      refine ⟨fun c => by rw [big c] at A; exact A, fun i hi ei => ?_⟩
      have : i = 0 ∨ i = 1 ∨ i = 2 ∨ i = 3 ∨ i = 4 ∨ i = 5 ∨ i = 6 := by omega
      rcases this with z | z | z | z | z | z | z <;> subst z
      · change wp (d + 2) K_X12_method 20 [] _ h Q; rw [X0]; rw [show y = 0 from ei] at A; exact A
      · change wp (d + 2) K_X12_method 25 [] _ h Q; rw [X1]; rw [show y = 1 from ei] at A; exact A
      · change wp (d + 2) K_X12_method 35 [] _ h Q; rw [X2]; rw [show y = 2 from ei] at A; exact A
      · change wp (d + 2) K_X12_method 42 [] _ h Q; rw [X3]; rw [show y = 3 from ei] at A; exact A
      · change wp (d + 2) K_X12_method 46 [] _ h Q; rw [X4]; rw [show y = 4 from ei] at A; exact A
      · change wp (d + 2) K_X12_method 57 [] _ h Q; rw [X5]; rw [show y = 5 from ei] at A; exact A
      · change wp (d + 2) K_X12_method 66 [] _ h Q; rw [X6]; rw [show y = 6 from ei] at A; exact A
theorem a_steps (hs : RS h a) : wp d K_X12_steps 0 [] [(0, vr (some a))] h Q = Q (some (vi (fI h 1465 a))) h := by rw [rb_X12_steps_0 _ hs]
theorem a_cut (hs : RS h a) {n : Nat} (hn : fI h 1401 a = nI n) (hn2 : n ≤ 2000) (x : Int32) : wp d K_X12_cut 0 [] [(0, vr (some a)), (1, vi x)] h Q = (match ixO x (n + 1) with
    | none => Q (some (vi (-3))) h
    | some j => Q (some (vi (nI (n - j)))) (setFI h 1401 a (nI j))) := by
  rw [bk_X12_cut_0, rb_X12_cut_2 _ _ hs, hn]
  rcases ixO_cases x (n := n + 1) (by omega) with ⟨e, c⟩ | ⟨j, hj, ex, e⟩
  · rw [e]
    rcases c with c | ⟨c, c2⟩
    · simp [c, bk_X12_cut_6]
    · have c3 : ¬ x ≤ nI n := fun q => absurd (Int32.le_trans c2 q) (nI_ge (by omega) (by omega))
      simp [c, c3, bk_X12_cut_6]
  · rw [e, ex]
    simp (disch := omega) only [nI_pos, nI_clamp, nI_leI, nI_ltI, nI_eq, nI_add, pk_mul, vp_in_nI, nI_1, true_and, and_true, true_implies, implies_true, not_true_eq_false, not_false_eq_true, false_implies, psh, nn_some, forall_const, show j ≤ n by omega]
    rw [rb_X12_cut_8 _ _ hs, hn, pk_sub (by omega)]
end
