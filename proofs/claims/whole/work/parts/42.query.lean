/-! Contracts of the reference's questions, as equations: kinds and sets -/
def b2i (b : Bool) : Int32 := if b then 1 else 0
theorem b2i_0 (b : Bool) : (b2i b = 0) = (b = false) := by cases b <;> simp [b2i]
theorem b2i_1 (b : Bool) : (b2i b = 1) = (b = true) := by cases b <;> simp [b2i]
theorem b2i_ok (b : Bool) : (b2i b = 0 ∨ b2i b = 1) = True := by cases b <;> simp [b2i]
theorem lg0 (x y : Int64) : (lg_cmp x y = 0) = (x = y) := by
  unfold lg_cmp
  apply propext
  split
  · rename_i h
    refine ⟨fun z => by simp at z, fun z => ?_⟩
    subst z
    exact absurd h (Int64.lt_irrefl)
  · split
    · rename_i h; exact ⟨fun _ => h, fun _ => rfl⟩
    · rename_i h; exact ⟨fun z => by simp at z, fun z => absurd z h⟩
theorem ite2 {c : Prop} {A B X : Prop} (f : c → (A = X)) (g : ¬ c → (B = X)) : ((c → A) ∧ (¬ c → B)) = X := by
  apply propext
  by_cases z : c
  · rw [← f z]; exact ⟨fun y => y.1 z, fun y => ⟨fun _ => y, fun w => absurd z w⟩⟩
  · rw [← g z]; exact ⟨fun y => y.2 z, fun y => ⟨fun w => absurd w z, fun _ => y⟩⟩
theorem ite3 {c : Prop} {A B X : Prop} (f : c → (B = X)) (g : ¬ c → (A = X)) : ((¬ c → A) ∧ (¬ ¬ c → B)) = X := ite2 g (fun z => f (Classical.not_not.mp z))
theorem lt4 : (4 : Int32) = nI 4 := rfl
theorem lt12 : (12 : Int32) = nI 12 := rfl
theorem lt16 : (16 : Int32) = nI 16 := rfl
theorem lt0 : (0 : Int32) = nI 0 := rfl
theorem lt1 : (1 : Int32) = nI 1 := rfl
theorem lt2 : (2 : Int32) = nI 2 := rfl
theorem lt3 : (3 : Int32) = nI 3 := rfl
def anyN (p : Nat → Bool) (n : Nat) : Bool := fup (fun q b => b || p q) n 0 false
theorem e_has {d : Nat} {h : AH} {Q : Option V → AH → Prop} (s : Int32) (k : Nat) : wp d K_X12_has 0 [] [(0, vi s), (1, vi (nI k))] h Q = Q (some (vi (b2i (hasB s k)))) h := by
  simp only [bk_X12_has_0, bk_X12_has_9, bk_X12_has_7, bk_X12_has_10]
  unfold hasB b2i
  by_cases c : (s >>> (nI k &&& 31)) &&& 1 = 1 <;> simp [c]
theorem e_only {d : Nat} {h : AH} {Q : Option V → AH → Prop} (o : Option Nat) (ho : ∀ k, o = some k → k < 2 ^ 31) : wp d K_X12_only 0 [] [(0, vi (oI o))] h Q = Q (some (vi (onlyO o))) h := by
  simp only [bk_X12_only_0, bk_X12_only_5, bk_X12_only_3, bk_X12_only_8, oI_m1 ho]
  cases o with
  | none => simp [onlyO]
  | some k => simp [onlyO, one, oI]
def kN (r : RV) (w nk : Nat) (x : Int64) (wh : Int32) : Option Nat := ffst (fun k => decide (al r 3 (w * 16 + k) = x ∧ ai r 5 (w * 16 + k) < wh)) nk 0
/-- the parent of a kind but the first -/
def parN (r : RV) (w nk k : Nat) : Nat := if k < 4 then (if k = 2 then 1 else 0) else (kN r w nk (al r 6 (w * 16 + k)) (ai r 7 (w * 16 + k))).getD 1
theorem kN_lt {r : RV} {w nk k : Nat} {x : Int64} {wh : Int32} (e : kN r w nk x wh = some k) : k < nk := by
  have := (ffst_some e).2.1
  omega
theorem parN_lt' {r : RV} {w nk : Nat} (h4 : 4 ≤ nk) (k : Nat) : parN r w nk k < nk := by
  unfold parN
  split
  · split <;> omega
  · cases e : kN r w nk (al r 6 (w * 16 + k)) (ai r 7 (w * 16 + k)) with
    | none => show 1 < nk; omega
    | some j => exact kN_lt e
section KQ
variable {d : Nat} {h : AH} {a w nk : Nat} {Q : Option V → AH → Prop}
theorem kindOf_l (hs : RS h a) (hw : fI h 1402 a = nI w) (hw2 : w < 2) (hk : aI h (a + 2) w = nI nk) (hn : nk ≤ 16) (x : Int64) (wh : Int32) : ∀ m k, k + m = nk → wp d K_X12_kindOf 2 [] [(0, vr (some a)), (1, vl x), (3, vi wh), (4, vi (nI k))] h Q = Q (some (vi (oI (ffst (fun k => decide (al (view h a) 3 (w * 16 + k) = x ∧ ai (view h a) 5 (w * 16 + k) < wh)) m k)))) h := by
  intro m
  induction m with
  | zero =>
    intro k e
    rw [rb_X12_kindOf_2 d _ _ _ hs]
    simp (disch := omega) only [hw, hk, nI_clamp, nI_leI, nI_ltI, nI_eq, nI_add, pk_mul, vp_in_nI, nI_1, true_and, and_true, true_implies, implies_true, not_true_eq_false, not_false_eq_true, false_implies, psh, nn_some, forall_const, bk_X12_kindOf_36]
    simp [show nk ≤ k by omega, ffst, oI]
  | succ m ih =>
    intro k e
    rw [rb_X12_kindOf_2 d _ _ _ hs]
    simp (disch := omega) only [hw, hk, nI_clamp, nI_leI, nI_ltI, nI_eq, nI_add, pk_mul, vp_in_nI, nI_1, true_and, and_true, true_implies, implies_true, not_true_eq_false, not_false_eq_true, false_implies, psh, nn_some, forall_const, show ¬ nk ≤ k by omega]
    rw [rb_X12_kindOf_9 d _ _ _ hs]
    simp (disch := omega) only [hw, lt16, nI_clamp, nI_leI, nI_ltI, nI_eq, nI_add, pk_mul, vp_in_nI, nI_1, true_and, and_true, true_implies, implies_true, not_true_eq_false, not_false_eq_true, false_implies, psh, nn_some, forall_const, lg0]
    have e2 : wp d K_X12_kindOf 34 [] [(0, vr (some a)), (1, vl x), (3, vi wh), (4, vi (nI k))] h Q = Q (some (vi (oI (ffst (fun k => decide (al (view h a) 3 (w * 16 + k) = x ∧ ai (view h a) 5 (w * 16 + k) < wh)) m (k + 1))))) h := by
      rw [bk_X12_kindOf_34, nI_1]
      exact ih (k + 1) (by omega)
    refine ite3 (fun c => ?_) (fun c => ?_)
    · rw [rb_X12_kindOf_21 d _ _ _ hs]
      simp (disch := omega) only [hw, lt16, nI_clamp, nI_leI, nI_ltI, nI_eq, nI_add, pk_mul, vp_in_nI, nI_1, true_and, and_true, true_implies, implies_true, not_true_eq_false, not_false_eq_true, false_implies, psh, nn_some, forall_const]
      refine ite2 (fun c2 => ?_) (fun c2 => ?_)
      · rw [e2, ffst, if_neg]
        exact fun z => absurd (of_decide_eq_true z).2 (Int32.not_lt.mpr c2)
      · rw [bk_X12_kindOf_32, ffst, if_pos]
        · rfl
        · exact decide_eq_true ⟨c, Int32.not_le.mp c2⟩
    · rw [e2, ffst, if_neg]
      exact fun z => c (of_decide_eq_true z).1
theorem e_kindOf (hs : RS h a) (hw : fI h 1402 a = nI w) (hw2 : w < 2) (hk : aI h (a + 2) w = nI nk) (hn : nk ≤ 16) (x : Int64) (wh : Int32) : wp d K_X12_kindOf 0 [] [(0, vr (some a)), (1, vl x), (3, vi wh)] h Q = Q (some (vi (oI (kN (view h a) w nk x wh)))) h := by
  rw [bk_X12_kindOf_0]
  exact kindOf_l hs hw hw2 hk hn x wh nk 0 (by omega)
theorem e_parent (hs : RS h a) (hw : fI h 1402 a = nI w) (hw2 : w < 2) (hk : aI h (a + 2) w = nI nk) (hn : nk ≤ 16) (h4 : 4 ≤ nk) (k : Nat) (hkk : k < nk) : wp (d + 1) K_X12_parent 0 [] [(0, vr (some a)), (1, vi (nI k))] h Q = Q (some (vi (if k = 0 then -1 else nI (parN (view h a) w nk k)))) h := by
  rw [bk_X12_parent_0]
  simp (disch := omega) only [lt4, nI_clamp, nI_leI, nI_ltI, nI_eq, nI_add, pk_mul, vp_in_nI, nI_1, true_and, and_true, true_implies, implies_true, not_true_eq_false, not_false_eq_true, false_implies, psh, nn_some, forall_const]
  refine ite2 (fun c => ?_) (fun c => ?_)
  · rw [rb_X12_parent_14 d _ hs]
    simp (disch := omega) only [hw, lt16, nI_clamp, nI_leI, nI_ltI, nI_eq, nI_add, pk_mul, vp_in_nI, nI_1, true_and, and_true, true_implies, implies_true, not_true_eq_false, not_false_eq_true, false_implies, psh, nn_some, forall_const]
    rw [e_kindOf hs hw hw2 hk hn]
    simp only [psh, bk_X12_parent_34, bk_X12_parent_40, bk_X12_parent_38, bk_X12_parent_41]
    rw [if_neg (by omega : ¬ k = 0), parN, if_neg (by omega : ¬ k < 4)]
    show _ = Q (some (vi (nI ((kN (view h a) w nk (aJ h (a + 6) (w * 16 + k)) (aI h (a + 7) (w * 16 + k))).getD 1)))) h
    cases e : kN (view h a) w nk (aJ h (a + 6) (w * 16 + k)) (aI h (a + 7) (w * 16 + k)) with
    | none => simp [oI]; rfl
    | some j =>
      have := kN_lt e
      simp [oI, nI_ne_m1 (show j < 2 ^ 31 by omega)]
  · have : k = 0 ∨ k = 1 ∨ k = 2 ∨ k = 3 := by omega
    rcases this with e | e | e | e <;> subst e <;> simp [bk_X12_parent_3, bk_X12_parent_7, bk_X12_parent_5, bk_X12_parent_12, bk_X12_parent_10, bk_X12_parent_13, nI, parN] <;> rfl
/-- below, with fuel -/
def blw (par : Nat → Nat) : Nat → Nat → Nat → Bool
  | 0, x, y => decide (x = y)
  | f + 1, x, y => decide (x = y) || (decide (¬ x = 0) && blw par f (par x) y)
/-- x is below y -/
def bel (r : RV) (w nk x y : Nat) : Bool := blw (parN r w nk) x x y
theorem isBelow_l (hs : RS h a) (hw : fI h 1402 a = nI w) (hw2 : w < 2) (hk : aI h (a + 2) w = nI nk) (hn : nk ≤ 16) (h4 : 4 ≤ nk) (hp : ∀ k, 0 < k → k < nk → parN (view h a) w nk k < k) (x y : Nat) (hy : y < 2 ^ 31) : ∀ f k, k ≤ f → k < nk → wp (d + 2) K_X12_isBelow 2 [] [(0, vr (some a)), (1, vi (nI x)), (2, vi (nI y)), (3, vi (nI k))] h Q = Q (some (vi (b2i (blw (parN (view h a) w nk) f k y)))) h := by
  have fin : ∀ k, k < nk → wp (d + 2) K_X12_isBelow 13 [] [(0, vr (some a)), (1, vi (nI x)), (2, vi (nI y)), (3, vi (nI k))] h Q = Q (some (vi (b2i (decide (k = y))))) h := fun k hkk => by
    simp (disch := omega) only [bk_X12_isBelow_13, bk_X12_isBelow_18, bk_X12_isBelow_16, bk_X12_isBelow_19, nI_clamp, nI_leI, nI_ltI, nI_eq, nI_add, pk_mul, vp_in_nI, nI_1, true_and, and_true, true_implies, implies_true, not_true_eq_false, not_false_eq_true, false_implies, psh, nn_some, forall_const]
    by_cases c : k = y <;> simp [c, b2i]
  intro f
  induction f with
  | zero =>
    intro k e hkk
    have e : k = 0 := by omega
    subst e
    rw [bk_X12_isBelow_2]
    simp (disch := omega) only [nI_ne_m1, nI_clamp, nI_leI, nI_ltI, nI_eq, nI_add, pk_mul, vp_in_nI, nI_1, true_and, and_true, true_implies, implies_true, not_true_eq_false, not_false_eq_true, false_implies, psh, nn_some, forall_const, bk_X12_isBelow_5]
    refine ite2 (fun c => ?_) (fun c => ?_)
    · rw [fin 0 hkk]; rfl
    · rw [rb_X12_isBelow_8 (d + 1) _ _ _ hs, e_parent hs hw hw2 hk hn h4 0 hkk]
      simp only [psh, bk_X12_isBelow_11, bk_X12_isBelow_2, if_pos]
      simp only [not_true_eq_false, false_implies, and_true, true_implies, bk_X12_isBelow_13, bk_X12_isBelow_18, bk_X12_isBelow_16, bk_X12_isBelow_19]
      have ny : ¬ (-1 : Int32) = nI y := fun z => nI_ne_m1 hy z.symm
      simp [ny, blw, c, b2i]
  | succ f ih =>
    intro k e hkk
    rw [bk_X12_isBelow_2]
    simp (disch := omega) only [nI_ne_m1, nI_clamp, nI_leI, nI_ltI, nI_eq, nI_add, pk_mul, vp_in_nI, nI_1, true_and, and_true, true_implies, implies_true, not_true_eq_false, not_false_eq_true, false_implies, psh, nn_some, forall_const, bk_X12_isBelow_5]
    refine ite2 (fun c => ?_) (fun c => ?_)
    · rw [fin k hkk, blw]; simp [c]
    · rw [rb_X12_isBelow_8 (d + 1) _ _ _ hs, e_parent hs hw hw2 hk hn h4 k hkk]
      by_cases z : k = 0
      · subst z
        simp only [psh, bk_X12_isBelow_11, bk_X12_isBelow_2, if_pos]
        simp only [not_true_eq_false, false_implies, and_true, true_implies, bk_X12_isBelow_13, bk_X12_isBelow_18, bk_X12_isBelow_16, bk_X12_isBelow_19]
        have ny : ¬ (-1 : Int32) = nI y := fun z => nI_ne_m1 hy z.symm
        simp [ny, blw, c, b2i]
      · have lt := hp k (by omega) hkk
        simp only [psh, bk_X12_isBelow_11, if_neg z]
        rw [ih _ (by omega) (by omega), blw]
        simp [c, z]
theorem e_isBelow (hs : RS h a) (hw : fI h 1402 a = nI w) (hw2 : w < 2) (hk : aI h (a + 2) w = nI nk) (hn : nk ≤ 16) (h4 : 4 ≤ nk) (hp : ∀ k, 0 < k → k < nk → parN (view h a) w nk k < k) (x y : Nat) (hx : x < nk) (hy : y < 2 ^ 31) : wp (d + 2) K_X12_isBelow 0 [] [(0, vr (some a)), (1, vi (nI x)), (2, vi (nI y))] h Q = Q (some (vi (b2i (bel (view h a) w nk x y)))) h := by
  rw [bk_X12_isBelow_0]
  exact isBelow_l hs hw hw2 hk hn h4 hp x y hy x x (Nat.le_refl _) hx
def chk (r : RV) (w nk x : Nat) : Bool := !bel r w nk x 2 && !bel r w nk x 3
theorem e_isChecked (hs : RS h a) (hw : fI h 1402 a = nI w) (hw2 : w < 2) (hk : aI h (a + 2) w = nI nk) (hn : nk ≤ 16) (h4 : 4 ≤ nk) (hp : ∀ k, 0 < k → k < nk → parN (view h a) w nk k < k) (x : Nat) (hx : x < nk) : wp (d + 3) K_X12_isChecked 0 [] [(0, vr (some a)), (1, vi (nI x))] h Q = Q (some (vi (b2i (chk (view h a) w nk x)))) h := by
  rw [rb_X12_isChecked_0 _ _ hs, lt2, e_isBelow hs hw hw2 hk hn h4 hp x 2 hx (by omega)]
  simp only [psh, bk_X12_isChecked_4, b2i_0]
  rw [rb_X12_isChecked_5 _ _ hs, lt3, e_isBelow hs hw hw2 hk hn h4 hp x 3 hx (by omega)]
  simp only [psh, bk_X12_isChecked_12, bk_X12_isChecked_13, bk_X12_isChecked_9, bk_X12_isChecked_10, b2i_0, chk]
  cases bel (view h a) w nk x 2 <;> cases bel (view h a) w nk x 3 <;> simp [b2i]
/-- x is below one of a set -/
def und (r : RV) (w nk x : Nat) (s : Int32) : Bool := anyN (fun q => hasB s q && bel r w nk x q) nk
theorem isUnder_l (hs : RS h a) (hw : fI h 1402 a = nI w) (hw2 : w < 2) (hk : aI h (a + 2) w = nI nk) (hn : nk ≤ 16) (h4 : 4 ≤ nk) (hp : ∀ k, 0 < k → k < nk → parN (view h a) w nk k < k) (x : Nat) (hx : x < nk) (s : Int32) : ∀ m k acc, k + m = nk → wp (d + 3) K_X12_isUnder 4 [] [(0, vr (some a)), (1, vi (nI x)), (2, vi s), (3, vi (b2i acc)), (4, vi (nI k))] h Q = Q (some (vi (b2i (fup (fun q b => b || (hasB s q && bel (view h a) w nk x q)) m k acc)))) h := by
  intro m
  induction m with
  | zero =>
    intro k acc e
    rw [rb_X12_isUnder_4 _ _ _ _ _ hs]
    simp (disch := omega) only [hw, hk, nI_clamp, nI_leI, nI_ltI, nI_eq, nI_add, pk_mul, vp_in_nI, nI_1, true_and, and_true, true_implies, implies_true, not_true_eq_false, not_false_eq_true, false_implies, psh, nn_some, forall_const, bk_X12_isUnder_28, b2i_ok]
    simp [show nk ≤ k by omega, fup]
  | succ m ih =>
    intro k acc e
    rw [rb_X12_isUnder_4 _ _ _ _ _ hs]
    simp (disch := omega) only [hw, hk, nI_clamp, nI_leI, nI_ltI, nI_eq, nI_add, pk_mul, vp_in_nI, nI_1, true_and, and_true, true_implies, implies_true, not_true_eq_false, not_false_eq_true, false_implies, psh, nn_some, forall_const, show ¬ nk ≤ k by omega, bk_X12_isUnder_11, bk_X12_isUnder_22, bk_X12_isUnder_13, bk_X12_isUnder_25, e_has, b2i_0]
    have nx : ∀ b, wp (d + 3) K_X12_isUnder 25 [vi (b2i b)] [(0, vr (some a)), (1, vi (nI x)), (2, vi s), (3, vi (b2i acc)), (4, vi (nI k))] h Q = Q (some (vi (b2i (fup (fun q b => b || (hasB s q && bel (view h a) w nk x q)) m (k + 1) b)))) h := fun b => by
      rw [bk_X12_isUnder_25, nI_1, ih (k + 1) b (by omega)]
    rw [show (1 : Int32) = b2i true from rfl, ih (k + 1) true (by omega)]
    simp only [bk_X12_isUnder_16, b2i_0, bk_X12_isUnder_24]
    rw [show (0 : Int32) = b2i false from rfl, nx false, rb_X12_isUnder_17 _ _ _ _ _ hs, e_isBelow hs hw hw2 hk hn h4 hp x k hx (by omega)]
    simp only [psh, bk_X12_isUnder_21, b2i_0, bk_X12_isUnder_24, bk_X12_isUnder_22]
    rw [show (0 : Int32) = b2i false from rfl, nx false, show (1 : Int32) = b2i true from rfl, nx true, fup]
    cases acc <;> cases hasB s k <;> cases bel (view h a) w nk x k <;> simp
theorem e_isUnder (hs : RS h a) (hw : fI h 1402 a = nI w) (hw2 : w < 2) (hk : aI h (a + 2) w = nI nk) (hn : nk ≤ 16) (h4 : 4 ≤ nk) (hp : ∀ k, 0 < k → k < nk → parN (view h a) w nk k < k) (x : Nat) (hx : x < nk) (s : Int32) : wp (d + 3) K_X12_isUnder 0 [] [(0, vr (some a)), (1, vi (nI x)), (2, vi s)] h Q = Q (some (vi (b2i (und (view h a) w nk x s)))) h := by
  rw [bk_X12_isUnder_0]
  exact isUnder_l hs hw hw2 hk hn h4 hp x hx s nk 0 false (by omega)
end KQ
