/-! The class's kinds: sets -/
section
variable {par : Nat → Nat} {nk : Nat}
theorem blw_fuel (hp : ∀ k, 0 < k → k < nk → par k < k) : ∀ f x y, x < nk → x ≤ f → blw par f x y = blw par x x y := by
  intro f
  induction f with
  | zero => intro x y _ h; have : x = 0 := by omega
            subst this; rfl
  | succ f ih =>
    intro x y hx hf
    cases x with
    | zero => simp [blw]
    | succ x =>
      have p := hp (x + 1) (by omega) hx
      rw [blw, blw, ih _ y (by omega) (by omega)]
      by_cases c : f = x
      · subst c; rw [ih _ y (by omega) (by omega)]
      · have hx' : x < f := by omega
        have e : ∀ g z, par (x + 1) ≤ g → g ≤ f → blw par g (par (x + 1)) z = blw par (par (x + 1)) (par (x + 1)) z := by
          intro g z h1 h2
          have := ih (par (x + 1)) z (by omega) (by omega)
          clear ih
          revert h1 h2
          exact fun h1 h2 => by
            have L : ∀ g x z, x < nk → x ≤ g → blw par g x z = blw par x x z := by
              intro g
              induction g using Nat.strongRecOn with
              | ind g ih =>
                intro x z hx hg
                cases g with
                | zero => have : x = 0 := by omega
                          subst this; rfl
                | succ g =>
                  cases x with
                  | zero => simp [blw]
                  | succ x =>
                    have p := hp (x + 1) (by omega) hx
                    rw [blw, blw, ih g (by omega) _ z (by omega) (by omega)]
                    by_cases c : g = x
                    · subst c; rw [ih g (by omega) _ z (by omega) (by omega)]
                    · rw [ih x (by omega) _ z (by omega) (by omega)]
            exact L g _ z (by omega) h1
        rw [e x y (by omega) (by omega)]
theorem belP_iff (hp : ∀ k, 0 < k → k < nk → par k < k) {x y : Nat} (hx : x < nk) : belP par x y = true ↔ x = y ∨ (¬ x = 0 ∧ belP par (par x) y = true) := by
  unfold belP
  cases x with
  | zero => simp [blw]
  | succ x =>
    have p := hp (x + 1) (by omega) hx
    rw [blw, Bool.or_eq_true, Bool.and_eq_true, decide_eq_true_eq, decide_eq_true_eq, blw_fuel hp x _ y (by omega) (by omega)]
theorem belP_rf (x : Nat) : belP par x x = true := by
  unfold belP
  cases x with
  | zero => rfl
  | succ x => rw [blw, decide_eq_true rfl]; rfl
theorem belP_le (hp : ∀ k, 0 < k → k < nk → par k < k) {x y : Nat} (hx : x < nk) (h : belP par x y = true) : y ≤ x := blw_le hp x x y hx h
theorem belP_tr (hp : ∀ k, 0 < k → k < nk → par k < k) : ∀ x y z, x < nk → belP par x y = true → belP par y z = true → belP par x z = true := by
  intro x
  induction x using Nat.strongRecOn with
  | ind x ih =>
    intro y z hx h1 h2
    rcases (belP_iff hp hx).mp h1 with e | ⟨n0, h3⟩
    · subst e; exact h2
    · have p := hp x (by omega) hx
      exact (belP_iff hp hx).mpr (Or.inr ⟨n0, ih (par x) p y z (by omega) h3 h2⟩)
theorem belP_tot (hp : ∀ k, 0 < k → k < nk → par k < k) : ∀ x y z, x < nk → belP par x y = true → belP par x z = true → belP par y z = true ∨ belP par z y = true := by
  intro x
  induction x using Nat.strongRecOn with
  | ind x ih =>
    intro y z hx h1 h2
    rcases (belP_iff hp hx).mp h1 with e | ⟨n0, h3⟩
    · subst e; exact Or.inl h2
    · rcases (belP_iff hp hx).mp h2 with e | ⟨_, h4⟩
      · subst e; exact Or.inr h1
      · exact ih (par x) (hp x (by omega) hx) y z (by have := hp x (by omega) hx; omega) h3 h4
theorem belP_0 (hp : ∀ k, 0 < k → k < nk → par k < k) : ∀ x, x < nk → belP par x 0 = true := by
  intro x
  induction x using Nat.strongRecOn with
  | ind x ih =>
    intro hx
    by_cases c : x = 0
    · subst c; exact belP_rf 0
    · exact (belP_iff hp hx).mpr (Or.inr ⟨c, ih _ (hp x (by omega) hx) (by have := hp x (by omega) hx; omega)⟩)
def cmn (par : Nat → Nat) (nk : Nat) (t : Int32) (k : Nat) : Prop := ∀ q, q < nk → hasB t q = true → belP par q k = true
def ovPF (par : Nat → Nat) (nk : Nat) (t : Int32) (k best : Nat) : Nat := if fup (fun q b => b && (!hasB t q || belP par q k)) nk 0 (belP par k best) then k else best
def ovP (par : Nat → Nat) (nk : Nat) (t : Int32) : Nat := fup (ovPF par nk t) (nk - 1) 1 0
theorem all_iff {p : Nat → Bool} : ∀ m k b, fup (fun q b => b && p q) m k b = true ↔ b = true ∧ ∀ q, k ≤ q → q < k + m → p q = true := by
  intro m
  induction m with
  | zero => intro k b; exact ⟨fun h => ⟨h, fun q h1 h2 => by omega⟩, fun h => h.1⟩
  | succ m ih =>
    intro k b
    rw [fup, ih (k + 1), Bool.and_eq_true]
    constructor
    · rintro ⟨⟨h1, h2⟩, h3⟩
      refine ⟨h1, fun q q1 q2 => ?_⟩
      by_cases c : q = k
      · subst c; exact h2
      · exact h3 q (by omega) (by omega)
    · rintro ⟨h1, h2⟩
      exact ⟨⟨h1, h2 k (by omega) (by omega)⟩, fun q q1 q2 => h2 q (by omega) (by omega)⟩
theorem ovP_is (hp : ∀ k, 0 < k → k < nk → par k < k) {t : Int32} {q0 : Nat} (h0 : q0 < nk) (ht : hasB t q0 = true) : ovP par nk t < nk ∧ cmn par nk t (ovP par nk t) ∧ ∀ k, k < nk → cmn par nk t k → belP par (ovP par nk t) k = true := by
  have L : ∀ m k b, k + m = nk → b < k → cmn par nk t b → (∀ j, j < k → cmn par nk t j → belP par b j = true) → fup (ovPF par nk t) m k b < nk ∧ cmn par nk t (fup (ovPF par nk t) m k b) ∧ ∀ j, j < nk → cmn par nk t j → belP par (fup (ovPF par nk t) m k b) j = true := by
    intro m
    induction m with
    | zero =>
      intro k b e hb c H
      exact ⟨by show b < nk; omega, c, fun j hj cj => H j (by omega) cj⟩
    | succ m ih =>
      intro k b e hb c H
      rw [fup]
      have key : fup (fun q b => b && (!hasB t q || belP par q k)) nk 0 (belP par k b) = true ↔ belP par k b = true ∧ cmn par nk t k := by
        rw [all_iff nk 0]
        constructor
        · rintro ⟨h1, h2⟩
          refine ⟨h1, fun q hq hh => ?_⟩
          have := h2 q (by omega) (by omega)
          rw [hh] at this
          exact this
        · rintro ⟨h1, h2⟩
          refine ⟨h1, fun q _ hq => ?_⟩
          cases hh : hasB t q
          · rfl
          · rw [h2 q (by omega) hh]; rfl
      unfold ovPF
      by_cases z : cmn par nk t k
      · have kb : belP par k b = true := by
          rcases belP_tot hp q0 k b h0 (z q0 h0 ht) (c q0 h0 ht) with y | y
          · exact y
          · have := belP_le hp (by omega) y
            omega
        rw [if_pos (key.mpr ⟨kb, z⟩)]
        refine ih (k + 1) k (by omega) (by omega) z (fun j hj cj => ?_)
        by_cases c2 : j = k
        · subst c2; exact belP_rf j
        · exact belP_tr hp k b j (by omega) kb (H j (by omega) cj)
      · rw [if_neg (fun y => z (key.mp y).2)]
        refine ih (k + 1) b (by omega) (by omega) c (fun j hj cj => ?_)
        by_cases c2 : j = k
        · subst c2; exact absurd cj z
        · exact H j (by omega) cj
  unfold ovP
  have e0 : ∀ j, j < 1 → cmn par nk t j → belP par 0 j = true := by
    intro j hj _
    have e : j = 0 := by omega
    rw [e]; exact belP_rf 0
  exact L (nk - 1) 1 0 (by omega) (by omega) (fun q hq _ => belP_0 hp q hq) e0
end
section
variable {d : Nat} {h : AH} {Q : Option V → AH → Prop} {K nk : Nat} {par : Nat → Nat} {wd : Nat → Int64} {pc : Nat → Int32}
theorem ixO_nI {k n : Nat} (hk : k < n) (hn : n < 2 ^ 31) : ixO (nI k) n = some k := by
  rcases ixO_cases (nI k) hn with ⟨-, q⟩ | ⟨j, hj, ex, z⟩
  · rcases q with q | ⟨-, q⟩
    · exact absurd q (nI_pos (by omega))
    · exact absurd q (nI_ge hk (by omega))
  · have := congrArg tn ex
    rw [tn_nI (by omega), tn_nI (by omega)] at this
    rw [z, this]
theorem k_isUnderN (D : KD h K nk par wd pc) {x y : Nat} (hx : x < nk) (hy : y < nk) : wp (d + 1) K_X3_isUnder 0 [] [(0, vr (some K)), (1, vi (nI x)), (2, vi (nI y))] h Q = Q (some (vi (b2i (belP par x y)))) h := by
  have h16 := D.2.2.2.2.2.2.2.1
  rw [k_isUnder D, ixO_nI hx (by omega), ixO_nI hy (by omega)]
theorem k_isUnderOneOf (D : KD h K nk par wd pc) {k : Nat} (hk : k < nk) (s : Int32) : wp (d + 1) K_X3_isUnderOneOf 0 [] [(0, vr (some K)), (1, vi (nI k)), (2, vi s)] h Q = Q (some (vi (b2i (undP par nk k s)))) h := by
  have h16 := D.2.2.2.2.2.2.2.1
  have a1 := D.1
  have hp := D.2.2.2.2.2.2.2.2.2.2
  rw [bk_X3_isUnderOneOf_0, k_overN D hk]
  simp only [psh, bk_X3_isUnderOneOf_3, bk_X3_isUnderOneOf_8, bk_X3_isUnderOneOf_6, bk_X3_isUnderOneOf_9, a1, ovm_und h16 hp hk]
  cases undP par nk k s <;> simp [b2i]
theorem k_isChecked (D : KD h K nk par wd pc) (x : Int32) : wp (d + 1) K_X3_isChecked 0 [] [(0, vr (some K)), (1, vi x)] h Q = Q (some (vi (b2i (match ixO x nk with | none => false | some k => ckP par k)))) h := by
  have h16 := D.2.2.2.2.2.2.2.1
  have a1 := D.1
  have a10 := D.2.2.2.2.2.2.2.2.2.1
  rw [bk_X3_isChecked_0, k_has D]
  simp only [psh, bk_X3_isChecked_3, bk_X3_isChecked_14, bk_X3_isChecked_4, bk_X3_isChecked_15, bk_X3_isChecked_12, b2i_0, a1, a10]
  rcases ixO_cases x (n := nk) (by omega) with ⟨z, -⟩ | ⟨j, hj, ey, z⟩
  · rw [z]; simp [b2i]
  · rw [z, ey, hasB_def]
    have e : hasB (mask (ckP par) nk) j = ckP par j := by rw [hasB_mask _ nk (by omega) j (by omega), decide_eq_true hj, Bool.true_and]
    cases hb : ckP par j <;> simp [e, hb, b2i]
theorem k_checkedOf (D : KD h K nk par wd pc) (s : Int32) : wp d K_X3_checkedOf 0 [] [(0, vr (some K)), (1, vi s)] h Q = Q (some (vi (mask (fun k => hasB s k && ckP par k) nk))) h := by
  have h16 := D.2.2.2.2.2.2.2.1
  have a1 := D.1
  have a10 := D.2.2.2.2.2.2.2.2.2.1
  rw [bk_X3_checkedOf_0, a10]
  have e : s &&& mask (ckP par) nk = mask (fun k => hasB s k && ckP par k) nk := by
    apply hasB_ext
    intro k hk
    rw [hasB_and _ _ hk, hasB_mask _ nk (by omega) k hk, hasB_mask _ nk (by omega) k hk]
    cases decide (k < nk) <;> cases hasB s k <;> simp
  rw [e]
  exact propext (and_iff_right a1)
theorem k_notUnder (D : KD h K nk par wd pc) (s t : Int32) : wp (d + 1) K_X3_notUnder 0 [] [(0, vr (some K)), (1, vi s), (2, vi t)] h Q = Q (some (vi (mask (fun k => hasB s k && !undP par nk k t) nk))) h := by
  have h16 := D.2.2.2.2.2.2.2.1
  have a1 := D.1
  have a7 := D.2.2.2.2.2.2.1
  have hp := D.2.2.2.2.2.2.2.2.2.2
  have L : ∀ m k x, k + m = nk → wp (d + 1) K_X3_notUnder 4 [] [(0, vr (some K)), (1, vi s), (2, vi t), (3, vi x), (4, vi (nI k))] h Q = Q (some (vi (fup (fun k x => if hasB s k && !undP par nk k t then x ||| one k else x) m k x))) h := by
    intro m
    induction m with
    | zero =>
      intro k x e
      rw [bk_X3_notUnder_4, a7]
      simp (disch := omega) only [nI_clamp, nI_leI, nI_ltI, nI_eq, nI_add, pk_mul, vp_in_nI, nI_1, true_and, and_true, true_implies, implies_true, not_true_eq_false, not_false_eq_true, false_implies, psh, nn_some, forall_const, a1, show nk ≤ k by omega, bk_X3_notUnder_29]
      rfl
    | succ m ih =>
      intro k x e
      rw [bk_X3_notUnder_4, a7]
      simp (disch := omega) only [nI_clamp, nI_leI, nI_ltI, nI_eq, nI_add, pk_mul, vp_in_nI, nI_1, true_and, and_true, true_implies, implies_true, not_true_eq_false, not_false_eq_true, false_implies, psh, nn_some, forall_const, a1, show ¬ nk ≤ k by omega, bk_X3_notUnder_8, hasB_def]
      rw [bk_X3_notUnder_27, nI_1, ih (k + 1) x (by omega), bk_X3_notUnder_15, k_overN D (by omega)]
      simp only [psh, bk_X3_notUnder_18, ovm_und h16 hp (show k < nk by omega), a1]
      rw [bk_X3_notUnder_27, nI_1, ih (k + 1) x (by omega), bk_X3_notUnder_21, bk_X3_notUnder_27, nI_1, one_def, ih (k + 1) _ (by omega), fup]
      cases hasB s k <;> cases undP par nk k t <;> simp
  rw [bk_X3_notUnder_0]
  exact L nk 0 0 (by omega)
theorem k_isNear (D : KD h K nk par wd pc) {x : Nat} (hx : x < nk) (s : Int32) : wp (d + 2) K_X3_isNear 0 [] [(0, vr (some K)), (1, vi (nI x)), (2, vi s)] h Q = Q (some (vi (b2i (anyN (fun q => hasB s q && (belP par x q || belP par q x)) nk)))) h := by
  have h16 := D.2.2.2.2.2.2.2.1
  have a1 := D.1
  have a7 := D.2.2.2.2.2.2.1
  have L : ∀ m k, k + m = nk → wp (d + 2) K_X3_isNear 2 [] [(0, vr (some K)), (1, vi (nI x)), (2, vi s), (3, vi (nI k))] h Q = Q (some (vi (b2i (fup (fun q b => b || (hasB s q && (belP par x q || belP par q x))) m k false)))) h := by
    have T : ∀ m k, fup (fun q b => b || (hasB s q && (belP par x q || belP par q x))) m k true = true := by
      intro m
      induction m with
      | zero => intro k; rfl
      | succ m ih => intro k; exact ih (k + 1)
    intro m
    induction m with
    | zero =>
      intro k e
      rw [bk_X3_isNear_2, a7]
      simp (disch := omega) only [nI_clamp, nI_leI, nI_ltI, nI_eq, nI_add, pk_mul, vp_in_nI, nI_1, true_and, and_true, true_implies, implies_true, not_true_eq_false, not_false_eq_true, false_implies, psh, nn_some, forall_const, a1, show nk ≤ k by omega, bk_X3_isNear_27]
      exact propext ⟨fun q => q.2, fun q => ⟨Or.inl trivial, q⟩⟩
    | succ m ih =>
      intro k e
      rw [bk_X3_isNear_2, a7]
      simp (disch := omega) only [nI_clamp, nI_leI, nI_ltI, nI_eq, nI_add, pk_mul, vp_in_nI, nI_1, true_and, and_true, true_implies, implies_true, not_true_eq_false, not_false_eq_true, false_implies, psh, nn_some, forall_const, a1, show ¬ nk ≤ k by omega, bk_X3_isNear_6, hasB_def]
      rw [bk_X3_isNear_25, nI_1, ih (k + 1) (by omega), bk_X3_isNear_13, k_isUnderN D hx (by omega)]
      simp only [psh, bk_X3_isNear_17, b2i_0, bk_X3_isNear_23, bk_X3_isNear_18, a1]
      rw [k_isUnderN D (by omega) hx]
      simp only [psh, bk_X3_isNear_22, b2i_0, bk_X3_isNear_23]
      rw [bk_X3_isNear_25, nI_1, ih (k + 1) (by omega), fup]
      cases hasB s k <;> cases belP par x k <;> cases belP par k x <;> simp [T, b2i]
  rw [bk_X3_isNear_0]
  exact L nk 0 (by omega)
theorem k_lowerOf (D : KD h K nk par wd pc) {x y : Nat} (hx : x < nk) (hy : y < nk) : wp (d + 1) K_X3_lowerOf 0 [] [(0, vr (some K)), (1, vi (nI x)), (2, vi (nI y))] h Q = Q (some (vi (if belP par x y then one x else if belP par y x then one y else 0))) h := by
  have h16 := D.2.2.2.2.2.2.2.1
  have a1 := D.1
  have e1 : hasB (ovm par x) y = belP par x y := by rw [hasB_ovm (by omega), decide_eq_true (by omega), Bool.true_and]
  have e2 : hasB (ovm par y) x = belP par y x := by rw [hasB_ovm (by omega), decide_eq_true (by omega), Bool.true_and]
  rw [bk_X3_lowerOf_0, k_overN D hx]
  simp only [psh, bk_X3_lowerOf_3, hasB_def, bk_X3_lowerOf_9, bk_X3_lowerOf_13, a1, e1, one_def]
  rw [k_overN D hy]
  simp only [psh, bk_X3_lowerOf_16, hasB_def, bk_X3_lowerOf_26, bk_X3_lowerOf_22, bk_X3_lowerOf_27, e2, one_def]
  cases belP par x y <;> cases belP par y x <;> simp
theorem ovm_inj (hp : ∀ k, 0 < k → k < nk → par k < k) (h16 : nk ≤ 16) {x y : Nat} (hx : x < nk) (hy : y < nk) (e : ovm par x = ovm par y) : x = y := by
  have e1 : ∀ z, z < 16 → belP par x z = belP par y z := fun z hz => by
    have this : hasB (ovm par x) z = hasB (ovm par y) z := by rw [e]
    rw [hasB_ovm (by omega), hasB_ovm (by omega), decide_eq_true hz, Bool.true_and, Bool.true_and] at this
    exact this
  have l1 := belP_le hp hx ((e1 y (by omega)).trans (belP_rf y))
  have l2 := belP_le hp hy ((e1 x (by omega)).symm.trans (belP_rf x))
  omega
theorem k_lowest (D : KD h K nk par wd pc) {t : Int32} {q0 : Nat} (h0 : q0 < nk) (ht : hasB t q0 = true) : wp (d + 1) K_X3_lowestOverAll 0 [] [(0, vr (some K)), (1, vi t)] h Q = Q (some (vi (one (ovP par nk t)))) h := by
  have h16 := D.2.2.2.2.2.2.2.1
  have a1 := D.1
  have a7 := D.2.2.2.2.2.2.1
  have hp := D.2.2.2.2.2.2.2.2.2.2
  obtain ⟨o1, o2, o3⟩ := ovP_is hp h0 ht
  -- the second loop
  have L2 : ∀ m k, k + m = nk → k ≤ ovP par nk t → wp (d + 1) K_X3_lowestOverAll 25 [] [(0, vr (some K)), (1, vi t), (2, vi (ovm par (ovP par nk t))), (3, vi (nI k))] h Q = Q (some (vi (one (ovP par nk t)))) h := by
    intro m
    induction m with
    | zero => intro k e hk; omega
    | succ m ih =>
      intro k e hk
      rw [bk_X3_lowestOverAll_25, a7]
      simp (disch := omega) only [nI_clamp, nI_leI, nI_ltI, nI_eq, nI_add, pk_mul, vp_in_nI, nI_1, true_and, and_true, true_implies, implies_true, not_true_eq_false, not_false_eq_true, false_implies, psh, nn_some, forall_const, a1, show ¬ nk ≤ k by omega, bk_X3_lowestOverAll_29]
      rw [k_overN D (by omega)]
      simp only [psh, bk_X3_lowestOverAll_32, bk_X3_lowestOverAll_34, one_def]
      by_cases c : k = ovP par nk t
      · rw [← c]; simp
      · have ne : ¬ ovm par k = ovm par (ovP par nk t) := fun z => c (ovm_inj hp h16 (by omega) o1 z)
        rw [bk_X3_lowestOverAll_38, nI_1, ih (k + 1) (by omega) (by omega)]
        simp [ne]
  -- the first loop
  have L1 : ∀ m k x, k + m = nk → (∀ y, y < 32 → (hasB x y = true ↔ ∀ q, q < k → hasB t q = true → hasB (ovm par q) y = true)) → wp (d + 1) K_X3_lowestOverAll 4 [] [(0, vr (some K)), (1, vi t), (2, vi x), (3, vi (nI k))] h Q = Q (some (vi (one (ovP par nk t)))) h := by
    intro m
    induction m with
    | zero =>
      intro k x e I
      rw [bk_X3_lowestOverAll_4, a7]
      simp (disch := omega) only [nI_clamp, nI_leI, nI_ltI, nI_eq, nI_add, pk_mul, vp_in_nI, nI_1, true_and, and_true, true_implies, implies_true, not_true_eq_false, not_false_eq_true, false_implies, psh, nn_some, forall_const, a1, show nk ≤ k by omega, bk_X3_lowestOverAll_23]
      have ex : x = ovm par (ovP par nk t) := by
        apply hasB_ext
        intro y hy
        have i1 := I y hy
        have : hasB x y = true ↔ hasB (ovm par (ovP par nk t)) y = true := by
          rw [i1, hasB_ovm hy, Bool.and_eq_true, decide_eq_true_eq]
          constructor
          · intro H
            have h1 := H q0 (by omega) ht
            rw [hasB_ovm hy, Bool.and_eq_true, decide_eq_true_eq] at h1
            have y2 := belP_le hp h0 h1.2
            refine ⟨h1.1, o3 y (by omega) (fun q hq hh => ?_)⟩
            have h2 := H q (by omega) hh
            rw [hasB_ovm hy, Bool.and_eq_true] at h2
            exact h2.2
          · rintro ⟨y16, h1⟩ q hq hh
            rw [hasB_ovm hy, decide_eq_true y16, Bool.true_and]
            exact belP_tr hp q _ y (by omega) (o2 q (by omega) hh) h1
        cases h1 : hasB x y <;> cases h2 : hasB (ovm par (ovP par nk t)) y <;> simp_all
      rw [ex, show vi 0 = vi (nI 0) from rfl, L2 nk 0 (by omega) (by omega)]
    | succ m ih =>
      intro k x e I
      rw [bk_X3_lowestOverAll_4, a7]
      simp (disch := omega) only [nI_clamp, nI_leI, nI_ltI, nI_eq, nI_add, pk_mul, vp_in_nI, nI_1, true_and, and_true, true_implies, implies_true, not_true_eq_false, not_false_eq_true, false_implies, psh, nn_some, forall_const, a1, show ¬ nk ≤ k by omega, bk_X3_lowestOverAll_8, hasB_def, bk_X3_lowestOverAll_15]
      rw [k_overN D (by omega)]
      simp only [psh, bk_X3_lowestOverAll_19]
      by_cases c : hasB t k = true
      · simp only [c, not_true_eq_false, false_implies, true_and, not_false_eq_true, true_implies]
        rw [bk_X3_lowestOverAll_21, nI_1]
        refine ih (k + 1) (x &&& ovm par k) (by omega) (fun y hy => ?_)
        rw [hasB_and _ _ hy, Bool.and_eq_true, I y hy]
        constructor
        · rintro ⟨h1, h2⟩ q hq hh
          by_cases z : q = k
          · subst z; exact h2
          · exact h1 q (by omega) hh
        · intro H
          exact ⟨fun q hq hh => H q (by omega) hh, H k (by omega) c⟩
      · have c' : hasB t k = false := Bool.eq_false_iff.mpr c
        simp only [c', Bool.false_eq_true, not_true_eq_false, false_implies, and_true, not_false_eq_true, true_implies]
        rw [bk_X3_lowestOverAll_21, nI_1]
        refine ih (k + 1) x (by omega) (fun y hy => ?_)
        rw [I y hy]
        constructor
        · intro H q hq hh
          by_cases z : q = k
          · subst z; exact absurd hh c
          · exact H q (by omega) hh
        · intro H q hq hh
          exact H q (by omega) hh
  rw [bk_X3_lowestOverAll_0]
  refine L1 nk 0 (-1) (by omega) (fun y hy => ⟨fun _ q hq _ => by omega, fun _ => ?_⟩)
  have : ∀ y, y < 32 → hasB (-1) y = true := by decide +kernel
  exact this y hy
end
