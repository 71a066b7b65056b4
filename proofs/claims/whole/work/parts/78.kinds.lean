/-! The class's kinds -/
def belP (par : Nat → Nat) (x y : Nat) : Bool := blw par x x y
def undP (par : Nat → Nat) (nk x : Nat) (s : Int32) : Bool := anyN (fun q => hasB s q && belP par x q) nk
def ckP (par : Nat → Nat) (x : Nat) : Bool := !belP par x 2 && !belP par x 3
/-- the kinds over kind k, itself too -/
def ovm (par : Nat → Nat) (k : Nat) : Int32 := mask (fun y => belP par k y) 16
/-- the class's kinds at K: nk of them, par their parents, wd their words, pc their places -/
def KD (h : AH) (K nk : Nat) (par : Nat → Nat) (wd : Nat → Int64) (pc : Nat → Int32) : Prop := tg h K = 6 ∧ K + 4 < tp h ∧ (fP h 30500 K = some (K + 1) ∧ tg h (K + 1) = 102 ∧ ln h (K + 1) = 16) ∧ (fP h 30501 K = some (K + 2) ∧ tg h (K + 2) = 101 ∧ ln h (K + 2) = 16) ∧ (fP h 30502 K = some (K + 3) ∧ tg h (K + 3) = 101 ∧ ln h (K + 3) = 16) ∧ (fP h 30503 K = some (K + 4) ∧ tg h (K + 4) = 101 ∧ ln h (K + 4) = 16) ∧ fI h 505 K = nI nk ∧ nk ≤ 16 ∧
  (∀ k, k < nk → aJ h (K + 1) k = wd k ∧ aI h (K + 2) k = (if k = 0 then -1 else nI (par k)) ∧ aI h (K + 3) k = pc k ∧ aI h (K + 4) k = ovm par k) ∧ fI h 504 K = mask (ckP par) nk ∧ ∀ k, 0 < k → k < nk → par k < k
theorem hasB_def (s : Int32) (k : Nat) : (((s >>> (nI k &&& 31)) &&& 1) = 1) = (hasB s k = true) := by
  unfold hasB
  rw [decide_eq_true_eq]
theorem one_def (k : Nat) : (1 : Int32) <<< (nI k &&& 31) = one k := rfl
theorem and_zero {s t : Int32} : (s &&& t = 0) ↔ ∀ k, k < 32 → ¬ (hasB s k = true ∧ hasB t k = true) := by
  constructor
  · intro e k hk
    have := hasB_and s t hk
    rw [e, hasB_zero hk] at this
    rintro ⟨h1, h2⟩
    rw [h1, h2] at this
    cases this
  · intro H
    apply hasB_ext
    intro k hk
    rw [hasB_and s t hk, hasB_zero hk]
    have := H k hk
    cases h1 : hasB s k <;> cases h2 : hasB t k <;> simp_all
theorem blw_le {par : Nat → Nat} {nk : Nat} (hp : ∀ k, 0 < k → k < nk → par k < k) : ∀ f x y, x < nk → blw par f x y = true → y ≤ x := by
  intro f
  induction f with
  | zero => intro x y _ h; have := of_decide_eq_true h; omega
  | succ f ih =>
    intro x y hx h
    rw [blw, Bool.or_eq_true, Bool.and_eq_true] at h
    rcases h with h | ⟨h1, h2⟩
    · have := of_decide_eq_true h; omega
    · have h1 := of_decide_eq_true h1
      have p := hp x (by omega) hx
      have := ih (par x) y (by omega) h2
      omega
theorem anyN_iff {p : Nat → Bool} : ∀ n, anyN p n = true ↔ ∃ q, q < n ∧ p q = true := by
  have L : ∀ m k b, fup (fun q b => b || p q) m k b = true ↔ b = true ∨ ∃ q, k ≤ q ∧ q < k + m ∧ p q = true := by
    intro m
    induction m with
    | zero => intro k b; exact ⟨Or.inl, fun h => h.elim id (fun ⟨q, h1, h2, _⟩ => by omega)⟩
    | succ m ih =>
      intro k b
      rw [fup, ih (k + 1), Bool.or_eq_true]
      constructor
      · rintro ((h | h) | ⟨q, h1, h2, h3⟩)
        · exact Or.inl h
        · exact Or.inr ⟨k, Nat.le_refl _, by omega, h⟩
        · exact Or.inr ⟨q, by omega, by omega, h3⟩
      · rintro (h | ⟨q, h1, h2, h3⟩)
        · exact Or.inl (Or.inl h)
        · by_cases c : q = k
          · subst c; exact Or.inl (Or.inr h3)
          · exact Or.inr ⟨q, by omega, by omega, h3⟩
  intro n
  rw [anyN, L n 0 false]
  constructor
  · rintro (h | ⟨q, _, h2, h3⟩)
    · cases h
    · exact ⟨q, by omega, h3⟩
  · rintro ⟨q, h2, h3⟩
    exact Or.inr ⟨q, by omega, by omega, h3⟩
theorem hasB_ovm {par : Nat → Nat} {k y : Nat} (hy : y < 32) : hasB (ovm par k) y = (decide (y < 16) && belP par k y) := hasB_mask _ 16 (by omega) y hy
theorem ovm_und {par : Nat → Nat} {nk k : Nat} (hn : nk ≤ 16) (hp : ∀ k, 0 < k → k < nk → par k < k) (hk : k < nk) (s : Int32) : (ovm par k &&& s = 0) = (undP par nk k s = false) := by
  apply propext
  rw [and_zero, Bool.eq_false_iff, ne_eq, undP, anyN_iff]
  constructor
  · rintro H ⟨q, h1, h2⟩
    rw [Bool.and_eq_true] at h2
    refine H q (by omega) ⟨?_, h2.1⟩
    rw [hasB_ovm (by omega), h2.2, decide_eq_true (by omega)]
    rfl
  · intro H q hq h2
    rw [hasB_ovm hq, Bool.and_eq_true] at h2
    have := blw_le hp k k q hk h2.1.2
    exact H ⟨q, by omega, by rw [h2.2, h2.1.2]; rfl⟩
theorem hasB_nz (s : Int32) (k : Nat) : (¬ hasB s k = true) = (hasB s k = false) := by rw [Bool.not_eq_true]
section
variable {d : Nat} {h : AH} {Q : Option V → AH → Prop} {K nk : Nat} {par : Nat → Nat} {wd : Nat → Int64} {pc : Nat → Int32}
theorem KD.fx {E : Nat → Nat → Prop} {h' : AH} (a : KD h K nk par wd pc) (x : FX E h h') (n1 : ∀ g, ¬ E g K) (n2 : ¬ E 90001 (K + 1)) (n3 : ¬ E 90001 (K + 2)) (n4 : ¬ E 90001 (K + 3)) (n5 : ¬ E 90001 (K + 4)) : KD h' K nk par wd pc := by
  obtain ⟨a1, a2, ⟨b1, b2, b3⟩, ⟨c1, c2, c3⟩, ⟨d1, d2, d3⟩, ⟨e1, e2, e3⟩, a7, a8, a9, a10, a11⟩ := a
  have l0 : K < tp h := by omega
  have l1 : K + 1 < tp h := by omega
  have l2 : K + 2 < tp h := by omega
  have l3 : K + 3 < tp h := by omega
  refine ⟨by rw [x.tg l0]; exact a1, Nat.lt_of_lt_of_le a2 x.1, ⟨by rw [x.fP l0 (n1 _)]; exact b1, by rw [x.tg l1]; exact b2, by rw [x.ln l1]; exact b3⟩, ⟨by rw [x.fP l0 (n1 _)]; exact c1, by rw [x.tg l2]; exact c2, by rw [x.ln l2]; exact c3⟩, ⟨by rw [x.fP l0 (n1 _)]; exact d1, by rw [x.tg l3]; exact d2, by rw [x.ln l3]; exact d3⟩, ⟨by rw [x.fP l0 (n1 _)]; exact e1, by rw [x.tg a2]; exact e2, by rw [x.ln a2]; exact e3⟩, by rw [x.fI l0 (n1 _)]; exact a7, a8, fun k hk => ?_, by rw [x.fI l0 (n1 _)]; exact a10, a11⟩
  rw [x.aJ l1 n2, x.aI l2 n3, x.aI l3 n4, x.aI a2 n5]
  exact a9 k hk
theorem k_has (D : KD h K nk par wd pc) (x : Int32) : wp d K_X3_has 0 [] [(0, vr (some K)), (1, vi x)] h Q = Q (some (vi (b2i (decide (¬ ixO x nk = none))))) h := by
  obtain ⟨a1, a2, b, c, e, f, a7, a8, a9, a10, a11⟩ := D
  simp only [bk_X3_has_0, bk_X3_has_11, bk_X3_has_2, bk_X3_has_12, bk_X3_has_6, bk_X3_has_9, a1, a7]
  rcases ixO_cases x (n := nk) (by omega) with ⟨z, q⟩ | ⟨j, hj, ex, z⟩
  · rcases q with q | ⟨q, q2⟩
    · simp [z, q, b2i]
    · simp [z, q, q2, b2i]
  · have q1 : ¬ nI j < 0 := nI_pos (by omega)
    have q2 : ¬ nI nk ≤ nI j := nI_ge hj (by omega)
    have q3 : ¬ (16 : Int32) ≤ nI j := nI_ge (b := 16) (by omega) (by omega)
    rw [ex] at z ⊢
    simp [z, q1, q2, q3, b2i]
theorem k_named (D : KD h K nk par wd pc) (x : Int64) : wp d K_X3_named 0 [] [(0, vr (some K)), (1, vl x)] h Q = Q (some (vi (oI (ffst (fun k => decide (wd k = x)) nk 0)))) h := by
  obtain ⟨a1, a2, ⟨b1, b2, b3⟩, c, e, f, a7, a8, a9, a10, a11⟩ := D
  have L : ∀ m k, k + m = nk → wp d K_X3_named 2 [] [(0, vr (some K)), (1, vl x), (3, vi (nI k))] h Q = Q (some (vi (oI (ffst (fun k => decide (wd k = x)) m k)))) h := by
    intro m
    induction m with
    | zero =>
      intro k e
      rw [bk_X3_named_2, a7]
      simp (disch := omega) only [nI_clamp, nI_leI, nI_ltI, nI_eq, nI_add, pk_mul, vp_in_nI, nI_1, true_and, and_true, true_implies, implies_true, not_true_eq_false, not_false_eq_true, false_implies, psh, nn_some, forall_const, a1, show nk ≤ k by omega, bk_X3_named_20]
      rfl
    | succ m ih =>
      intro k e
      rw [bk_X3_named_2, a7, bk_X3_named_6, lt16]
      simp (disch := omega) only [nI_clamp, nI_leI, nI_ltI, nI_eq, nI_add, pk_mul, vp_in_nI, nI_1, true_and, and_true, true_implies, implies_true, not_true_eq_false, not_false_eq_true, false_implies, psh, nn_some, forall_const, a1, show ¬ nk ≤ k by omega, show ¬ 16 ≤ k by omega]
      rw [bk_X3_named_9, b1, nn_some, b3]
      simp (disch := omega) only [nI_clamp, nI_leI, nI_ltI, nI_eq, nI_add, pk_mul, vp_in_nI, nI_1, true_and, and_true, true_implies, implies_true, not_true_eq_false, not_false_eq_true, false_implies, psh, nn_some, forall_const, a1, b2, lg0]
      rw [(a9 k (by omega)).1, bk_X3_named_18, nI_1, ih (k + 1) (by omega), bk_X3_named_16, ffst]
      by_cases z : wd k = x
      · simp [z, oI]
      · simp [z]
  rw [bk_X3_named_0]
  exact L nk 0 (by omega)
theorem k_overOf (D : KD h K nk par wd pc) (x : Int32) : wp d K_X3_overOf 0 [] [(0, vr (some K)), (1, vi x)] h Q = Q (some (vi (match ixO x nk with | none => 0 | some k => ovm par k))) h := by
  obtain ⟨a1, a2, b, c, e, ⟨f1, f2, f3⟩, a7, a8, a9, a10, a11⟩ := D
  rw [bk_X3_overOf_0, bk_X3_overOf_2, bk_X3_overOf_6, bk_X3_overOf_9, f1, nn_some, f3, a7]
  simp only [bk_X3_overOf_14, bk_X3_overOf_15, a1, f2]
  rcases ixO_cases x (n := nk) (by omega) with ⟨z, q⟩ | ⟨j, hj, ex, z⟩
  · rcases q with q | ⟨q, q2⟩
    · simp [z, q]
    · simp [z, q, q2]
  · have q1 : ¬ nI j < 0 := nI_pos (by omega)
    have q2 : ¬ nI nk ≤ nI j := nI_ge hj (by omega)
    have q3 : ¬ (16 : Int32) ≤ nI j := nI_ge (b := 16) (by omega) (by omega)
    have q4 : vp_in (nI j) 16 := pk_in j 16 (by omega)
    rw [ex] at z ⊢
    rw [nI_clamp (by omega), (a9 j hj).2.2.2]
    simp [z, q1, q2, q3, q4]
theorem k_overN (D : KD h K nk par wd pc) {k : Nat} (hk : k < nk) : wp d K_X3_overOf 0 [] [(0, vr (some K)), (1, vi (nI k))] h Q = Q (some (vi (ovm par k))) h := by
  have h16 := D.2.2.2.2.2.2.2.1
  rw [k_overOf D]
  have : ixO (nI k) nk = some k := by
    rcases ixO_cases (nI k) (n := nk) (by omega) with ⟨-, q⟩ | ⟨j, hj, ex, z⟩
    · rcases q with q | ⟨-, q⟩
      · exact absurd q (nI_pos (by omega))
      · exact absurd q (nI_ge hk (by omega))
    · have := congrArg tn ex
      rw [tn_nI (by omega), tn_nI (by omega)] at this
      rw [z, this]
  rw [this]
theorem k_isUnder (D : KD h K nk par wd pc) (x y : Int32) : wp (d + 1) K_X3_isUnder 0 [] [(0, vr (some K)), (1, vi x), (2, vi y)] h Q = Q (some (vi (b2i (match ixO x nk, ixO y nk with | some i, some j => belP par i j | _, _ => false)))) h := by
  have h16 := D.2.2.2.2.2.2.2.1
  have a1 := D.1
  have e15 : wp (d + 1) K_X3_isUnder 15 [] [(0, vr (some K)), (1, vi x), (2, vi y)] h Q = Q (some (vi (b2i false))) h := by
    rw [bk_X3_isUnder_15, bk_X3_isUnder_16]; exact propext (and_iff_right (Or.inl rfl))
  rw [bk_X3_isUnder_0, k_has D]
  simp only [psh, bk_X3_isUnder_3, bk_X3_isUnder_4, b2i_0, a1]
  rw [k_overOf D, e15]
  simp only [psh, bk_X3_isUnder_7]
  rw [e15, bk_X3_isUnder_13, bk_X3_isUnder_16]
  rcases ixO_cases y (n := nk) (by omega) with ⟨z, -⟩ | ⟨j, hj, ey, z⟩
  · rw [z]
    cases ixO x nk <;> simp
  · rw [z, ey, hasB_def]
    rcases ixO_cases x (n := nk) (by omega) with ⟨z2, -⟩ | ⟨i, hi, ex, z2⟩
    · rw [z2]
      have : hasB 0 j = false := hasB_zero (by omega)
      simp [this]
    · rw [z2]
      have e : hasB (ovm par i) j = belP par i j := by rw [hasB_ovm (by omega), decide_eq_true (by omega), Bool.true_and]
      cases hb : belP par i j <;> simp [e, hb, b2i]
end
