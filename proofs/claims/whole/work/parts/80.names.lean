/-! The class's names -/
theorem tg_newO (h : AH) (c n x : Nat) : tg (newO h c n) x = if x = tp h then c + 1 else tg h x := rfl
theorem ln_newO (h : AH) (c n : Nat) : ln (newO h c n) = ln h := rfl
theorem tp_newO (h : AH) (c n : Nat) : tp (newO h c n) = tp h + 1 := rfl
theorem rc_newO (h : AH) (c n : Nat) : rc (newO h c n) = rc h - 1 := rfl
theorem rs_newO (h : AH) (c n : Nat) : rs (newO h c n) = rs h - n := rfl
theorem aI_newO (h : AH) (c n : Nat) : aI (newO h c n) = aI h := rfl
theorem aJ_newO (h : AH) (c n : Nat) : aJ (newO h c n) = aJ h := rfl
theorem aP_newO (h : AH) (c n : Nat) : aP (newO h c n) = aP h := rfl
theorem fI_newO (h : AH) (c n f x : Nat) : fI (newO h c n) f x = if x = tp h ∧ f / 100 % 100 = c then 0 else fI h f x := rfl
theorem fJ_newO (h : AH) (c n f x : Nat) : fJ (newO h c n) f x = if x = tp h ∧ f / 100 % 100 = c then 0 else fJ h f x := rfl
theorem fP_newO (h : AH) (c n f x : Nat) : fP (newO h c n) f x = if x = tp h ∧ f / 100 % 100 = c then none else fP h f x := rfl
theorem tg_newA (h : AH) (t n x : Nat) : tg (newA h t n) x = if x = tp h then 100 + t else tg h x := rfl
theorem ln_newA (h : AH) (t n x : Nat) : ln (newA h t n) x = if x = tp h then n else ln h x := rfl
theorem tp_newA (h : AH) (t n : Nat) : tp (newA h t n) = tp h + 1 := rfl
theorem rc_newA (h : AH) (t n : Nat) : rc (newA h t n) = rc h - 1 := rfl
theorem rs_newA (h : AH) (t n : Nat) : rs (newA h t n) = rs h - n := rfl
theorem fI_newA (h : AH) (t n : Nat) : fI (newA h t n) = fI h := rfl
theorem fJ_newA (h : AH) (t n : Nat) : fJ (newA h t n) = fJ h := rfl
theorem fP_newA (h : AH) (t n : Nat) : fP (newA h t n) = fP h := rfl
theorem aI_newA (h : AH) (t n x i : Nat) : aI (newA h t n) x i = if x = tp h then 0 else aI h x i := rfl
theorem aJ_newA (h : AH) (t n x i : Nat) : aJ (newA h t n) x i = if x = tp h then 0 else aJ h x i := rfl
theorem aP_newA (h : AH) (t n x i : Nat) : aP (newA h t n) x i = if x = tp h then none else aP h x i := rfl
section
variable {E : Nat → Nat → Prop} {h h' : AH}
theorem FX.toA (a : FX E h h') (t n : Nat) : FX E h (newA h' t n) := a.tr FX.A
theorem FX.toO (a : FX E h h') {c : Nat} (n : Nat) (hc : c < 90) : FX E h (newO h' c n) := a.tr (FX.O hc)
theorem FX.toFI (a : FX E h h') {f x : Nat} (v : Int32) (he : E f x) : FX E h (setFI h' f x v) := a.tr (FX.FI he)
theorem FX.toFJ (a : FX E h h') {f x : Nat} (v : Int64) (he : E f x) : FX E h (setFJ h' f x v) := a.tr (FX.FJ he)
theorem FX.toFP (a : FX E h h') {f x : Nat} (v : Option Nat) (he : E f x) : FX E h (setFP h' f x v) := a.tr (FX.FP he)
theorem FX.toAI (a : FX E h h') {x : Nat} (j : Nat) (v : Int32) (he : E 90001 x) : FX E h (setAI h' x j v) := a.tr (FX.AI he)
theorem FX.toAJ (a : FX E h h') {x : Nat} (j : Nat) (v : Int64) (he : E 90001 x) : FX E h (setAJ h' x j v) := a.tr (FX.AJ he)
end
/-- names at x: n of them, words wd, places pc, meanings mt -/
def ND (h : AH) (x n : Nat) (wd : Nat → Int64) (pc : Nat → Int32) (mt : Nat → Option Nat) : Prop := tg h x = 7 ∧ x + 3 < tp h ∧ (fP h 30600 x = some (x + 1) ∧ tg h (x + 1) = 102 ∧ ln h (x + 1) = 4) ∧ (fP h 30601 x = some (x + 2) ∧ tg h (x + 2) = 101 ∧ ln h (x + 2) = 4) ∧ (fP h 30602 x = some (x + 3) ∧ tg h (x + 3) = 101 ∧ ln h (x + 3) = 4) ∧ fI h 603 x = nI n ∧ n ≤ 4 ∧
  ∀ i, i < n → aJ h (x + 1) i = wd i ∧ aI h (x + 2) i = pc i ∧ aI h (x + 3) i = oI (mt i) ∧ ∀ k, mt i = some k → k < 32
def nsS (mt : Nat → Option Nat) (m : Nat) : Int32 := fup (fun i x => x ||| onlyO (mt i)) m 0 0
/-- how many are known -/
def knC (mt : Nat → Option Nat) : Nat → Nat → Nat → Nat := fun m k c => fup (fun i c => if mt i = none then c else c + 1) m k c
/-- the j-th known one -/
def knV (mt : Nat → Option Nat) (j : Nat) : Nat → Nat → Nat → Option Nat
  | 0, _, _ => none
  | m + 1, k, c => if mt k = none then knV mt j m (k + 1) c else if c + 1 = j then mt k else knV mt j m (k + 1) (c + 1)
theorem oI_neg {o : Option Nat} (ho : ∀ k, o = some k → k < 32) : (oI o < 0) = (o = none) := by
  cases o with
  | none => exact propext ⟨fun _ => rfl, fun _ => by decide⟩
  | some k =>
    have := ho k rfl
    exact propext ⟨fun z => absurd z (nI_pos (by omega)), fun z => by cases z⟩
section
variable {d : Nat} {h : AH} {Q : Option V → AH → Prop} {x n : Nat} {wd : Nat → Int64} {pc : Nat → Int32} {mt : Nat → Option Nat}
theorem ND.fx {E : Nat → Nat → Prop} {h' : AH} (a : ND h x n wd pc mt) (f : FX E h h') (n1 : ∀ g, g = 30600 ∨ g = 30601 ∨ g = 30602 ∨ g = 603 → ¬ E g x) (n2 : ¬ E 90001 (x + 1)) (n3 : ¬ E 90001 (x + 2)) (n4 : ¬ E 90001 (x + 3)) : ND h' x n wd pc mt := by
  obtain ⟨a1, a2, ⟨b1, b2, b3⟩, ⟨c1, c2, c3⟩, ⟨d1, d2, d3⟩, a7, a8, a9⟩ := a
  have l0 : x < tp h := by omega
  have l1 : x + 1 < tp h := by omega
  have l2 : x + 2 < tp h := by omega
  refine ⟨by rw [f.tg l0]; exact a1, Nat.lt_of_lt_of_le a2 f.1, ⟨by rw [f.fP l0 (n1 _ (by simp))]; exact b1, by rw [f.tg l1]; exact b2, by rw [f.ln l1]; exact b3⟩, ⟨by rw [f.fP l0 (n1 _ (by simp))]; exact c1, by rw [f.tg l2]; exact c2, by rw [f.ln l2]; exact c3⟩, ⟨by rw [f.fP l0 (n1 _ (by simp))]; exact d1, by rw [f.tg a2]; exact d2, by rw [f.ln a2]; exact d3⟩, by rw [f.fI l0 (n1 _ (by simp))]; exact a7, a8, fun k hk => ?_⟩
  rw [f.aJ l1 n2, f.aI l2 n3, f.aI a2 n4]
  exact a9 k hk
theorem ND.cg {wd' : Nat → Int64} {pc' : Nat → Int32} {mt' : Nat → Option Nat} (a : ND h x n wd pc mt) (e : ∀ i, i < n → wd i = wd' i ∧ pc i = pc' i ∧ mt i = mt' i) : ND h x n wd' pc' mt' := by
  obtain ⟨a1, a2, b, c, d, a7, a8, a9⟩ := a
  refine ⟨a1, a2, b, c, d, a7, a8, fun i hi => ?_⟩
  obtain ⟨e1, e2, e3⟩ := e i hi
  rw [← e1, ← e2, ← e3]
  exact a9 i hi
theorem n_has (D : ND h x n wd pc mt) {i : Nat} (hi : i < 2 ^ 20) : wp d K_X4_has 0 [] [(0, vr (some x)), (1, vi (nI i))] h Q = Q (some (vi (b2i (decide (i < n))))) h := by
  obtain ⟨a1, a2, b, c, e, a7, a8, a9⟩ := D
  have q1 : ¬ nI i < 0 := nI_pos (by omega)
  have q4 : ∀ m, m < 2 ^ 20 → (nI m ≤ nI i) = (m ≤ i) := fun m hm => propext (nI_leI (by omega) (by omega))
  simp only [bk_X4_has_0, bk_X4_has_11, bk_X4_has_2, bk_X4_has_12, bk_X4_has_6, bk_X4_has_9, a1, a7, q1, lt4, q4 n (by omega), q4 4 (by omega)]
  by_cases z : i < n
  · simp [z, show ¬ n ≤ i by omega, show ¬ 4 ≤ i by omega, b2i]
  · simp [z, show n ≤ i by omega, b2i]
theorem n_meantAt (D : ND h x n wd pc mt) {i : Nat} (hi : i < 2 ^ 20) : wp (d + 1) K_X4_meantAt 0 [] [(0, vr (some x)), (1, vi (nI i))] h Q = Q (some (vi (oI (if i < n then mt i else none)))) h := by
  rw [bk_X4_meantAt_0, n_has D hi]
  obtain ⟨a1, a2, b, c, ⟨e1, e2, e3⟩, a7, a8, a9⟩ := D
  simp only [psh, bk_X4_meantAt_3, bk_X4_meantAt_9, bk_X4_meantAt_4, bk_X4_meantAt_10, b2i_0, a1, e1, nn_some, e2, e3]
  by_cases z : i < n
  · rw [nI_clamp (by omega), (a9 i z).2.2.1]
    simp [z, show vp_in (nI i) 4 from pk_in i 4 (by omega)]
  · simp [z, oI]
theorem n_placeAt (D : ND h x n wd pc mt) {i : Nat} (hi : i < n) : wp (d + 1) K_X4_placeAt 0 [] [(0, vr (some x)), (1, vi (nI i))] h Q = Q (some (vi (pc i))) h := by
  have h4 := D.2.2.2.2.2.2.1
  rw [bk_X4_placeAt_0, n_has D (by omega)]
  obtain ⟨a1, a2, b, ⟨c1, c2, c3⟩, e, a7, a8, a9⟩ := D
  simp only [psh, bk_X4_placeAt_3, bk_X4_placeAt_9, bk_X4_placeAt_4, bk_X4_placeAt_10, b2i_0, a1, c1, nn_some, c2, c3]
  rw [nI_clamp (by omega), (a9 i hi).2.1]
  simp [hi, show vp_in (nI i) 4 from pk_in i 4 (by omega)]
theorem n_asSetAheadOf (D : ND h x n wd pc mt) {e m : Nat} (he : e < 2 ^ 20) (hm : m = min e n) : wp d K_X4_asSetAheadOf 0 [] [(0, vr (some x)), (1, vi (nI e))] h Q = Q (some (vi (nsS mt m))) h := by
  obtain ⟨a1, a2, b, c, ⟨e1, e2, e3⟩, a7, a8, a9⟩ := D
  have L : ∀ q k s, k + q = m → wp d K_X4_asSetAheadOf 4 [] [(0, vr (some x)), (1, vi (nI e)), (2, vi s), (3, vi (nI k))] h Q = Q (some (vi (fup (fun i x => x ||| onlyO (mt i)) q k s))) h := by
    intro q
    induction q with
    | zero =>
      intro k s ek
      rw [bk_X4_asSetAheadOf_4, bk_X4_asSetAheadOf_7, bk_X4_asSetAheadOf_30, a7]
      by_cases z : e ≤ k
      · simp (disch := omega) only [nI_clamp, nI_leI, nI_ltI, nI_eq, nI_add, pk_mul, vp_in_nI, nI_1, true_and, and_true, true_implies, implies_true, not_true_eq_false, not_false_eq_true, false_implies, psh, nn_some, forall_const, z]
        rfl
      · simp (disch := omega) only [nI_clamp, nI_leI, nI_ltI, nI_eq, nI_add, pk_mul, vp_in_nI, nI_1, true_and, and_true, true_implies, implies_true, not_true_eq_false, not_false_eq_true, false_implies, psh, nn_some, forall_const, z, a1, show n ≤ k by omega]
        rfl
    | succ q ih =>
      intro k s ek
      have hb := (a9 k (by omega)).2.2.2
      rw [bk_X4_asSetAheadOf_4, bk_X4_asSetAheadOf_7, bk_X4_asSetAheadOf_11, bk_X4_asSetAheadOf_14, e1, nn_some, e3, a7, lt4]
      simp (disch := omega) only [nI_clamp, nI_leI, nI_ltI, nI_eq, nI_add, pk_mul, vp_in_nI, nI_1, true_and, and_true, true_implies, implies_true, not_true_eq_false, not_false_eq_true, false_implies, psh, nn_some, forall_const, a1, e2, show ¬ e ≤ k by omega, show ¬ n ≤ k by omega, show ¬ 4 ≤ k by omega]
      rw [(a9 k (by omega)).2.2.1, oI_neg hb, bk_X4_asSetAheadOf_28, nI_1, ih (k + 1) s (by omega), bk_X4_asSetAheadOf_19, e1, nn_some, e3, nI_clamp (by omega), (a9 k (by omega)).2.2.1, bk_X4_asSetAheadOf_28, nI_1, ih (k + 1) _ (by omega), fup]
      simp (disch := omega) only [nI_clamp, nI_leI, nI_ltI, nI_eq, nI_add, pk_mul, vp_in_nI, nI_1, true_and, and_true, true_implies, implies_true, not_true_eq_false, not_false_eq_true, false_implies, psh, nn_some, forall_const, a1, e2]
      cases hk : mt k with
      | none => simp [onlyO]
      | some y => simp [onlyO, one, oI, show vp_in (nI k) 4 from pk_in k 4 (by omega)]
  rw [bk_X4_asSetAheadOf_0]
  exact L m 0 0 (by omega)
theorem n_asSet (D : ND h x n wd pc mt) : wp (d + 1) K_X4_asSet 0 [] [(0, vr (some x))] h Q = Q (some (vi (nsS mt n))) h := by
  have a1 := D.1
  have a7 := D.2.2.2.2.2.1
  have a8 := D.2.2.2.2.2.2.1
  rw [bk_X4_asSet_0, a7, n_asSetAheadOf D (m := n) (by omega) (by omega)]
  simp [a1, psh, bk_X4_asSet_4]
theorem n_countKnown (D : ND h x n wd pc mt) : wp (d + 2) K_X4_countKnown 0 [] [(0, vr (some x))] h Q = Q (some (vi (nI (knC mt n 0 0)))) h := by
  have a1 := D.1
  have a8 := D.2.2.2.2.2.2.1
  have a9 := D.2.2.2.2.2.2.2
  have L2 : ∀ q k c, k + q = 4 → n ≤ k → wp (d + 2) K_X4_countKnown 4 [] [(0, vr (some x)), (1, vi (nI c)), (2, vi (nI k))] h Q = Q (some (vi (nI c))) h := by
    intro q
    induction q with
    | zero =>
      intro k c e hk
      rw [bk_X4_countKnown_4, lt4, bk_X4_countKnown_14]
      simp (disch := omega) only [nI_clamp, nI_leI, nI_ltI, nI_eq, nI_add, pk_mul, vp_in_nI, nI_1, true_and, and_true, true_implies, implies_true, not_true_eq_false, not_false_eq_true, false_implies, psh, nn_some, forall_const, show 4 ≤ k by omega]
    | succ q ih =>
      intro k c e hk
      rw [bk_X4_countKnown_4, lt4, bk_X4_countKnown_7, n_meantAt D (by omega), if_neg (by omega)]
      simp (disch := omega) only [nI_clamp, nI_leI, nI_ltI, nI_eq, nI_add, pk_mul, vp_in_nI, nI_1, true_and, and_true, true_implies, implies_true, not_true_eq_false, not_false_eq_true, false_implies, psh, nn_some, forall_const, show ¬ 4 ≤ k by omega, a1, psh, bk_X4_countKnown_10, oI]
      rw [bk_X4_countKnown_12, nI_1, ih (k + 1) c (by omega) (by omega)]
      simp [show ((-1 : Int32) < 0) from by decide]
  have L : ∀ q k c, k + q = n → wp (d + 2) K_X4_countKnown 4 [] [(0, vr (some x)), (1, vi (nI c)), (2, vi (nI k))] h Q = Q (some (vi (nI (knC mt q k c)))) h := by
    intro q
    induction q with
    | zero => intro k c e; exact L2 (4 - k) k c (by omega) (by omega)
    | succ q ih =>
      intro k c e
      rw [bk_X4_countKnown_4, lt4, bk_X4_countKnown_7, n_meantAt D (by omega), if_pos (by omega)]
      simp (disch := omega) only [nI_clamp, nI_leI, nI_ltI, nI_eq, nI_add, pk_mul, vp_in_nI, nI_1, true_and, and_true, true_implies, implies_true, not_true_eq_false, not_false_eq_true, false_implies, psh, nn_some, forall_const, show ¬ 4 ≤ k by omega, a1, psh, bk_X4_countKnown_10]
      rw [oI_neg (a9 k (by omega)).2.2.2, bk_X4_countKnown_12, nI_1, ih (k + 1) c (by omega), bk_X4_countKnown_11, nI_1, bk_X4_countKnown_12, nI_1, ih (k + 1) (c + 1) (by omega)]
      unfold knC
      rw [fup]
      by_cases z : mt k = none
      · simp [z]
      · simp [z]
  rw [bk_X4_countKnown_0]
  exact L n 0 0 (by omega)
theorem n_knownAt (D : ND h x n wd pc mt) {j : Nat} (hj : j < 2 ^ 20) : wp (d + 2) K_X4_knownAt 0 [] [(0, vr (some x)), (1, vi (nI j))] h Q = Q (some (vi (oI (knV mt j n 0 0)))) h := by
  have a1 := D.1
  have a8 := D.2.2.2.2.2.2.1
  have a9 := D.2.2.2.2.2.2.2
  have L2 : ∀ q k c, k + q = 4 → n ≤ k → wp (d + 2) K_X4_knownAt 4 [] [(0, vr (some x)), (1, vi (nI j)), (2, vi (nI c)), (3, vi (nI k))] h Q = Q (some (vi (-1))) h := by
    intro q
    induction q with
    | zero =>
      intro k c e hk
      rw [bk_X4_knownAt_4, lt4, bk_X4_knownAt_21]
      simp (disch := omega) only [nI_clamp, nI_leI, nI_ltI, nI_eq, nI_add, pk_mul, vp_in_nI, nI_1, true_and, and_true, true_implies, implies_true, not_true_eq_false, not_false_eq_true, false_implies, psh, nn_some, forall_const, show 4 ≤ k by omega]
    | succ q ih =>
      intro k c e hk
      rw [bk_X4_knownAt_4, lt4, bk_X4_knownAt_7, n_meantAt D (by omega), if_neg (by omega)]
      simp (disch := omega) only [nI_clamp, nI_leI, nI_ltI, nI_eq, nI_add, pk_mul, vp_in_nI, nI_1, true_and, and_true, true_implies, implies_true, not_true_eq_false, not_false_eq_true, false_implies, psh, nn_some, forall_const, show ¬ 4 ≤ k by omega, a1, psh, bk_X4_knownAt_10, oI]
      rw [bk_X4_knownAt_19, nI_1, ih (k + 1) c (by omega) (by omega)]
      simp [show ((-1 : Int32) < 0) from by decide]
  have L : ∀ q k c, k + q = n → c ≤ k → wp (d + 2) K_X4_knownAt 4 [] [(0, vr (some x)), (1, vi (nI j)), (2, vi (nI c)), (3, vi (nI k))] h Q = Q (some (vi (oI (knV mt j q k c)))) h := by
    intro q
    induction q with
    | zero => intro k c e _; exact L2 (4 - k) k c (by omega) (by omega)
    | succ q ih =>
      intro k c e hc
      rw [bk_X4_knownAt_4, lt4, bk_X4_knownAt_7, n_meantAt D (by omega), if_pos (by omega)]
      simp (disch := omega) only [nI_clamp, nI_leI, nI_ltI, nI_eq, nI_add, pk_mul, vp_in_nI, nI_1, true_and, and_true, true_implies, implies_true, not_true_eq_false, not_false_eq_true, false_implies, psh, nn_some, forall_const, show ¬ 4 ≤ k by omega, a1, psh, bk_X4_knownAt_10]
      rw [oI_neg (a9 k (by omega)).2.2.2, bk_X4_knownAt_19, nI_1, ih (k + 1) c (by omega) (by omega), bk_X4_knownAt_11, nI_1, bk_X4_knownAt_19, nI_1, ih (k + 1) (c + 1) (by omega) (by omega), bk_X4_knownAt_15, n_meantAt D (by omega), if_pos (by omega)]
      simp (disch := omega) only [psh, bk_X4_knownAt_18, nI_clamp, nI_leI, nI_ltI, nI_eq, nI_add, pk_mul, vp_in_nI, nI_1, true_and, and_true, true_implies, implies_true, not_true_eq_false, not_false_eq_true, false_implies, psh, nn_some, forall_const, a1]
      rw [knV]
      by_cases z : mt k = none
      · simp [z]
      · by_cases z2 : c + 1 = j
        · simp [z, z2]
        · simp [z, z2]
  rw [bk_X4_knownAt_0]
  exact L n 0 0 (by omega) (by omega)
def EN (x : Nat) (g y : Nat) : Prop := (y = x ∧ g = 603) ∨ (g = 90001 ∧ (y = x + 1 ∨ y = x + 2 ∨ y = x + 3))
theorem n_add (D : ND h x n wd pc mt) (hn : n < 4) (y : Int64) (p : Int32) (H : ∀ h', ND h' x (n + 1) (fun i => if i = n then y else wd i) (fun i => if i = n then p else pc i) (fun i => if i = n then none else mt i) → FX (EN x) h h' → tp h' = tp h → rc h' = rc h → rs h' = rs h → Q none h') : wp d K_X4_add 0 [] [(0, vr (some x)), (1, vl y), (3, vi p)] h Q := by
  obtain ⟨a1, a2, ⟨b1, b2, b3⟩, ⟨c1, c2, c3⟩, ⟨e1, e2, e3⟩, a7, a8, a9⟩ := D
  rw [bk_X4_add_0, bk_X4_add_3, a7, lt4]
  simp (disch := omega) only [nI_clamp, nI_leI, nI_ltI, nI_eq, nI_add, pk_mul, vp_in_nI, nI_1, true_and, and_true, true_implies, implies_true, not_true_eq_false, not_false_eq_true, false_implies, psh, nn_some, forall_const, a1, show ¬ 4 ≤ n by omega]
  refine ⟨fun z => absurd z (nI_pos (by omega)), fun _ => ?_⟩
  rw [bk_X4_add_7, b1, nn_some, a7]
  simp (disch := omega) only [nI_clamp, nI_leI, nI_ltI, nI_eq, nI_add, pk_mul, vp_in_nI, nI_1, true_and, and_true, true_implies, implies_true, not_true_eq_false, not_false_eq_true, false_implies, psh, nn_some, forall_const, a1, b2, b3]
  simp only [fJ_setFI, fP_setFI, aI_setFI, aJ_setFI, aP_setFI, tg_setFI, ln_setFI, tp_setFI, rc_setFI, rs_setFI, fI_setFJ, fP_setFJ, aI_setFJ, aJ_setFJ, aP_setFJ, tg_setFJ, ln_setFJ, tp_setFJ, rc_setFJ, rs_setFJ, fI_setFP, fJ_setFP, aI_setFP, aJ_setFP, aP_setFP, tg_setFP, ln_setFP, tp_setFP, rc_setFP, rs_setFP, fI_setAI, fJ_setAI, fP_setAI, aJ_setAI, aP_setAI, tg_setAI, ln_setAI, tp_setAI, rc_setAI, rs_setAI, fI_setAJ, fJ_setAJ, fP_setAJ, aI_setAJ, aP_setAJ, tg_setAJ, ln_setAJ, tp_setAJ, rc_setAJ, rs_setAJ, fI_setAP, fJ_setAP, fP_setAP, aI_setAP, aJ_setAP, tg_setAP, ln_setAP, tp_setAP, rc_setAP, rs_setAP, a1, c1, c2, c3, e1, e2, e3, nn_some, a7]
  simp (disch := omega) only [nI_clamp, nI_leI, nI_ltI, nI_eq, nI_add, pk_mul, vp_in_nI, nI_1, true_and, and_true, true_implies, implies_true, not_true_eq_false, not_false_eq_true, false_implies, psh, nn_some, forall_const]
  rw [bk_X4_add_25]
  simp only [fJ_setFI, fP_setFI, aI_setFI, aJ_setFI, aP_setFI, tg_setFI, ln_setFI, tp_setFI, rc_setFI, rs_setFI, fI_setFJ, fP_setFJ, aI_setFJ, aJ_setFJ, aP_setFJ, tg_setFJ, ln_setFJ, tp_setFJ, rc_setFJ, rs_setFJ, fI_setFP, fJ_setFP, aI_setFP, aJ_setFP, aP_setFP, tg_setFP, ln_setFP, tp_setFP, rc_setFP, rs_setFP, fI_setAI, fJ_setAI, fP_setAI, aJ_setAI, aP_setAI, tg_setAI, ln_setAI, tp_setAI, rc_setAI, rs_setAI, fI_setAJ, fJ_setAJ, fP_setAJ, aI_setAJ, aP_setAJ, tg_setAJ, ln_setAJ, tp_setAJ, rc_setAJ, rs_setAJ, fI_setAP, fJ_setAP, fP_setAP, aI_setAP, aJ_setAP, tg_setAP, ln_setAP, tp_setAP, rc_setAP, rs_setAP, a1, a7, bk_X4_add_31, true_and, nI_1]
  refine H _ ⟨a1, a2, ⟨b1, b2, b3⟩, ⟨c1, c2, c3⟩, ⟨e1, e2, e3⟩, by rw [fI_setFI, if_pos ⟨rfl, rfl⟩], by omega, fun i hi => ?_⟩ ?_ rfl rfl rfl
  · simp only [fJ_setFI, fP_setFI, aI_setFI, aJ_setFI, aP_setFI, tg_setFI, ln_setFI, tp_setFI, rc_setFI, rs_setFI, fI_setFJ, fP_setFJ, aI_setFJ, aJ_setFJ, aP_setFJ, tg_setFJ, ln_setFJ, tp_setFJ, rc_setFJ, rs_setFJ, fI_setFP, fJ_setFP, aI_setFP, aJ_setFP, aP_setFP, tg_setFP, ln_setFP, tp_setFP, rc_setFP, rs_setFP, fI_setAI, fJ_setAI, fP_setAI, aJ_setAI, aP_setAI, tg_setAI, ln_setAI, tp_setAI, rc_setAI, rs_setAI, fI_setAJ, fJ_setAJ, fP_setAJ, aI_setAJ, aP_setAJ, tg_setAJ, ln_setAJ, tp_setAJ, rc_setAJ, rs_setAJ, fI_setAP, fJ_setAP, fP_setAP, aI_setAP, aJ_setAP, tg_setAP, ln_setAP, tp_setAP, rc_setAP, rs_setAP, fI_setFI, fJ_setFJ, fP_setFP, aI_setAI, aJ_setAJ, aP_setAP]
    by_cases z : i = n
    · subst z
      simp [oI]
    · simp [z]
      exact a9 i (by omega)
  · exact (((FX.AJ (Or.inr ⟨rfl, Or.inl rfl⟩)).tr (FX.AI (Or.inr ⟨rfl, Or.inr (Or.inl rfl)⟩))).tr (FX.AI (Or.inr ⟨rfl, Or.inr (Or.inr rfl)⟩))).tr (FX.FI (Or.inl ⟨rfl, rfl⟩))
/-- new names -/
theorem n_init (h1 : tg h x = 7) (h2 : tp h = x + 1) (h3 : fI h 603 x = 0) (r1 : 3 ≤ rc h) (r2 : 12 ≤ rs h) (H : ∀ h', ND h' x 0 wd pc mt → FX (fun _ y => y = x) h h' → tp h' = x + 4 → rc h' + 3 = rc h → rs h' + 12 = rs h → Q none h') : wp d K_X4_init 0 [] [(0, vr (some x))] h Q := by
  have t0 : tg (newA h 2 4) x = 7 := by rw [tg_newA, if_neg (by omega)]; exact h1
  have t1 : tg (newA (setFP (newA h 2 4) 30600 x (some (tp h))) 1 4) x = 7 := by
    rw [tg_newA, if_neg (by rw [tp_setFP, tp_newA]; omega)]; exact t0
  have t2 : tg (newA (setFP (newA (setFP (newA h 2 4) 30600 x (some (tp h))) 1 4) 30601 x (some (tp h + 1))) 1 4) x = 7 := by
    rw [tg_newA, if_neg (by rw [tp_setFP, tp_newA, tp_setFP, tp_newA]; omega)]; exact t1
  rw [bk_X4_init_0]
  refine ⟨by decide, by omega, by show 4 ≤ _; omega, ?_⟩
  rw [bk_X4_init_5, nn_some]
  refine ⟨t0, by decide, by show 0 < rc h - 1; omega, by show 4 ≤ rs h - 4; omega, ?_⟩
  rw [bk_X4_init_9, nn_some]
  refine ⟨t1, by decide, by show 0 < rc h - 1 - 1; omega, by show 4 ≤ rs h - 4 - 4; omega, ?_⟩
  rw [bk_X4_init_13, nn_some]
  refine ⟨t2, H _ ?_ ?_ ?_ ?_ ?_⟩
  · have n1 : ¬ x = x + 1 + 1 + 1 := by omega
    have n2 : ¬ x = x + 1 + 1 := by omega
    have n3 : ¬ x = x + 1 := by omega
    have n4 : ¬ x + 1 = x + 1 + 1 + 1 := by omega
    have n5 : ¬ x + 2 = x + 1 := by omega
    unfold ND
    simp only [fJ_setFI, fP_setFI, aI_setFI, aJ_setFI, aP_setFI, tg_setFI, ln_setFI, tp_setFI, rc_setFI, rs_setFI, fI_setFJ, fP_setFJ, aI_setFJ, aJ_setFJ, aP_setFJ, tg_setFJ, ln_setFJ, tp_setFJ, rc_setFJ, rs_setFJ, fI_setFP, fJ_setFP, aI_setFP, aJ_setFP, aP_setFP, tg_setFP, ln_setFP, tp_setFP, rc_setFP, rs_setFP, fI_setAI, fJ_setAI, fP_setAI, aJ_setAI, aP_setAI, tg_setAI, ln_setAI, tp_setAI, rc_setAI, rs_setAI, fI_setAJ, fJ_setAJ, fP_setAJ, aI_setAJ, aP_setAJ, tg_setAJ, ln_setAJ, tp_setAJ, rc_setAJ, rs_setAJ, fI_setAP, fJ_setAP, fP_setAP, aI_setAP, aJ_setAP, tg_setAP, ln_setAP, tp_setAP, rc_setAP, rs_setAP, fI_setFI, fJ_setFJ, fP_setFP, aI_setAI, aJ_setAJ, aP_setAP, tg_newO, ln_newO, tp_newO, rc_newO, rs_newO, aI_newO, aJ_newO, aP_newO, fI_newO, fJ_newO, fP_newO, tg_newA, ln_newA, tp_newA, rc_newA, rs_newA, aI_newA, aJ_newA, aP_newA, fI_newA, fJ_newA, fP_newA, h2]
    simp [h1, h3, n1, n2, n3, n4, n5]
    exact rfl
  · refine FX.toFP ?_ _ rfl
    refine FX.toA ?_ _ _
    refine FX.toFP ?_ _ rfl
    refine FX.toA ?_ _ _
    refine FX.toFP ?_ _ rfl
    refine FX.toA ?_ _ _
    exact FX.rf
  · show tp h + 1 + 1 + 1 = x + 4; omega
  · show rc h - 1 - 1 - 1 + 3 = rc h; omega
  · show rs h - 4 - 4 - 4 + 12 = rs h; omega
end
