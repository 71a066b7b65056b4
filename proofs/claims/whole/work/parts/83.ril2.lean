/-! The same, for a new statement, a new block, a block's end, names -/
theorem ai_rsA {r : RV} {q : Nat} (h : q < 18 ∨ (33 ≤ q ∧ q ≤ 43) ∨ 46 ≤ q ∨ q = 19 ∨ q = 24 ∨ q = 25 ∨ q = 30 ∨ q = 31) : ai (rsA r) q = ai r q := by
  unfold rsA rsL
  rw [ai_ne (by omega)]
  split
  · rw [ai_ne (by omega)]
    unfold rsA3 rsA2 rsA1
    rw [ai_ne (by omega), ai_ne (by omega), ai_ne (by omega), ai_ne (by omega), ai_ne (by omega), ai_tL, ai_ne (by omega), ai_ne (by omega), ai_ne (by omega), ai_ne (by omega), ai_ne (by omega)]
  · rw [ai_ne (by omega)]
    unfold rsA3 rsA2 rsA1
    rw [ai_ne (by omega), ai_ne (by omega), ai_ne (by omega), ai_ne (by omega), ai_ne (by omega), ai_tL, ai_ne (by omega), ai_ne (by omega), ai_ne (by omega), ai_ne (by omega), ai_ne (by omega)]
/-- what a new statement has -/
def rsX (r : RV) : RV := rsA3 (rsA2 (rsA1 r (rsN r)) (rsN r)) (rsN r)
theorem rsA_X (r : RV) {q : Nat} (h : ¬ q = 23) (h2 : ¬ q = 44) (h3 : ¬ q = 45) : ai (rsA r) q = ai (rsX r) q := by
  unfold rsA rsL rsX
  rw [ai_ne h3]
  split
  · rw [ai_ne h2]
  · rw [ai_ne h]
theorem rsX_18 (r : RV) : ai (rsX r) 18 = ai (tI r 18 (wN r) (ai r 18 (wN r) + 1)) 18 := by
  unfold rsX rsA3 rsA2 rsA1
  rw [ai_ne (by decide), ai_ne (by decide), ai_ne (by decide), ai_ne (by decide), ai_ne (by decide), ai_tL, ai_ne (by decide), ai_ne (by decide), ai_ne (by decide), ai_ne (by decide)]
theorem rsX_45 (r : RV) : ai (rsX r) 45 = ai r 45 := by
  unfold rsX rsA3 rsA2 rsA1
  rw [ai_ne (by decide), ai_ne (by decide), ai_ne (by decide), ai_ne (by decide), ai_ne (by decide), ai_tL, ai_ne (by decide), ai_ne (by decide), ai_ne (by decide), ai_ne (by decide), ai_ne (by decide)]
theorem rsX_44 (r : RV) : ai (rsX r) 44 = ai r 44 := by
  unfold rsX rsA3 rsA2 rsA1
  rw [ai_ne (by decide), ai_ne (by decide), ai_ne (by decide), ai_ne (by decide), ai_ne (by decide), ai_tL, ai_ne (by decide), ai_ne (by decide), ai_ne (by decide), ai_ne (by decide), ai_ne (by decide)]
theorem rsX_23 (r : RV) (j : Nat) : ai (rsX r) 23 j = if j = rsN r then -1 else ai r 23 j := by
  unfold rsX rsA3 rsA2 rsA1
  rw [ai_ne (by decide), ai_ne (by decide), ai_ne (by decide), ai_ne (by decide), ai_ne (by decide), ai_tL, ai_tI]
  simp only [true_and]
  split
  · rfl
  · rw [ai_ne (by decide), ai_ne (by decide), ai_ne (by decide), ai_ne (by decide)]
theorem rsX_n {r : RV} {q j : Nat} (h : ¬ j = rsN r) (h2 : ¬ q = 18) : ai (rsX r) q j = ai r q j := by
  have n : ∀ (x : RV) p v, ai (tI x p (rsN r) v) q j = ai x q j := fun x p v => by rw [ai_tI, if_neg (fun z => h z.2)]
  unfold rsX rsA3 rsA2 rsA1
  rw [n, n, n, n, n, ai_tL, n, n, n, n, ai_ne h2]
/-- the values of the new statement -/
theorem rsX_v (r : RV) : ai (rsX r) 20 (rsN r) = gi r 1449 ∧ ai (rsX r) 21 (rsN r) = ai r 46 (dN r - 1) ∧ ai (rsX r) 22 (rsN r) = ai r 8 (wN r) - 1 ∧ ai (rsX r) 26 (rsN r) = -1 ∧ ai (rsX r) 27 (rsN r) = -1 ∧ ai (rsX r) 28 (rsN r) = -1 ∧ ai (rsX r) 29 (rsN r) = nI 0 ∧ ai (rsX r) 32 (rsN r) = nI 0 := by
  unfold rsX rsA3 rsA2 rsA1
  refine ⟨?_, ?_, ?_, ?_, ?_, ?_, ?_, ?_⟩
  · rw [ai_ne (by decide), ai_ne (by decide), ai_ne (by decide), ai_ne (by decide), ai_ne (by decide), ai_tL, ai_ne (by decide), ai_ne (by decide), ai_ne (by decide), ai_tI, if_pos ⟨rfl, rfl⟩] <;> rfl
  · rw [ai_ne (by decide), ai_ne (by decide), ai_ne (by decide), ai_ne (by decide), ai_ne (by decide), ai_tL, ai_ne (by decide), ai_ne (by decide), ai_tI, if_pos ⟨rfl, rfl⟩] <;> rfl
  · rw [ai_ne (by decide), ai_ne (by decide), ai_ne (by decide), ai_ne (by decide), ai_ne (by decide), ai_tL, ai_ne (by decide), ai_tI, if_pos ⟨rfl, rfl⟩]
    have : ai (tI (tI (tI r 18 (wN r) (ai r 18 (wN r) + 1)) 20 (rsN r) (gi r 1449)) 21 (rsN r) (ai r 46 (tn (gi r 1455) - 1))) 8 = ai r 8 := by
      rw [ai_ne (by decide), ai_ne (by decide), ai_ne (by decide)]
    rw [this]; rfl
  · rw [ai_ne (by decide), ai_ne (by decide), ai_ne (by decide), ai_ne (by decide), ai_tI, if_pos ⟨rfl, rfl⟩]
  · rw [ai_ne (by decide), ai_ne (by decide), ai_ne (by decide), ai_tI, if_pos ⟨rfl, rfl⟩]
  · rw [ai_ne (by decide), ai_ne (by decide), ai_tI, if_pos ⟨rfl, rfl⟩]
  · rw [ai_ne (by decide), ai_tI, if_pos ⟨rfl, rfl⟩] <;> rfl
  · rw [ai_tI, if_pos ⟨rfl, rfl⟩] <;> rfl
theorem rsA_45 (r : RV) (j : Nat) : ai (rsA r) 45 j = if j = rsB r then nI (rsN r) else ai r 45 j := by
  unfold rsA rsL
  rw [ai_tI]
  simp only [true_and]
  split
  · rfl
  · show ai (if ai (rsX r) 45 (rsB r) = -1 then tI (rsX r) 44 (rsB r) (nI (rsN r)) else tI (rsX r) 23 (tn (ai (rsX r) 45 (rsB r))) (nI (rsN r))) 45 j = _
    split
    · rw [ai_ne (by decide), rsX_45]
    · rw [ai_ne (by decide), rsX_45]
theorem rsA_44 (r : RV) (j : Nat) : ai (rsA r) 44 j = if j = rsB r ∧ ai r 45 (rsB r) = -1 then nI (rsN r) else ai r 44 j := by
  unfold rsA rsL
  rw [ai_ne (by decide)]
  show ai (if ai (rsX r) 45 (rsB r) = -1 then tI (rsX r) 44 (rsB r) (nI (rsN r)) else tI (rsX r) 23 (tn (ai (rsX r) 45 (rsB r))) (nI (rsN r))) 44 j = _
  rw [rsX_45]
  by_cases z : ai r 45 (rsB r) = -1
  · rw [if_pos z, ai_tI]
    by_cases y : j = rsB r
    · rw [if_pos ⟨rfl, y⟩, if_pos ⟨y, z⟩]
    · rw [if_neg (fun x => y x.2), if_neg (fun x => y x.1), rsX_44]
  · rw [if_neg z, ai_ne (by decide), if_neg (fun x => z x.2), rsX_44]
theorem rsA_23 (r : RV) (j : Nat) : ai (rsA r) 23 j = if ¬ ai r 45 (rsB r) = -1 ∧ j = tn (ai r 45 (rsB r)) then nI (rsN r) else if j = rsN r then -1 else ai r 23 j := by
  unfold rsA rsL
  rw [ai_ne (by decide)]
  show ai (if ai (rsX r) 45 (rsB r) = -1 then tI (rsX r) 44 (rsB r) (nI (rsN r)) else tI (rsX r) 23 (tn (ai (rsX r) 45 (rsB r))) (nI (rsN r))) 23 j = _
  rw [rsX_45]
  by_cases z : ai r 45 (rsB r) = -1
  · rw [if_pos z, ai_ne (by decide), if_neg (fun x => x.1 z), rsX_23]
  · rw [if_neg z, ai_tI]
    by_cases y : j = tn (ai r 45 (rsB r))
    · rw [if_pos ⟨rfl, y⟩, if_pos ⟨z, y⟩]
    · rw [if_neg (fun x => y x.2), if_neg (fun x => y x.2), rsX_23]
theorem al_rsA (r : RV) (q j : Nat) : al (rsA r) q j = if q = 24 ∧ j = rsN r then 0 else al r q j := by
  have e : ∀ x : RV, al (rsL x (rsN r) (rsB r)) = al x := fun x => by unfold rsL; split <;> rfl
  unfold rsA
  rw [e]
  rfl
theorem rsN_A (r : RV) (h : cnt (ai r 18 (wN r)) 119) : rsN (rsA r) = rsN r + 1 ∧ ai (rsA r) 18 (wN r) = nI (nsC r + 1) := by
  have h2 := h.2
  have e : ai (rsA r) 18 (wN r) = nI (nsC r + 1) := by
    rw [rsA_X r (by decide) (by decide) (by decide), rsX_18, ai_tI, if_pos ⟨rfl, rfl⟩, h.1, lt1, nI_add]
    rfl
  refine ⟨?_, e⟩
  have w : wN (rsA r) = wN r := by unfold wN; rw [gi_rsA]
  unfold rsN
  rw [w, e, tn_nI (by unfold nsC; omega)]
  unfold nsC
  omega
theorem MD_rsA {r0 r : RV} {k c n : Nat} (M : MD r0 k c n r) (hd : 0 < k) (h : ¬ ai r 18 (wN r) = 120) : MD r0 k c (n + 1) (rsA r) ∧ (∀ j, j < k → ¬ ai (rsA r) 41 (obN (rsA r) j) = nI (rsN r)) := by
  have A := M.1
  have w2 := A.w2
  have cs := A.s
  have c18 : cnt (ai r 18 (wN r)) 119 := by
    refine ⟨cs.1, ?_⟩
    rcases Nat.lt_or_ge (nsC r) 120 with z | z
    · exact Nat.le_of_lt_succ z
    · exact absurd (by rw [cs.1, show nsC r = 120 by omega]; rfl) h
  have c19 : nsC r ≤ 119 := c18.2
  obtain ⟨n1, n2⟩ := rsN_A r c18
  have e46 : ai (rsA r) 46 = ai r 46 := ai_rsA (by omega)
  have e41 : ai (rsA r) 41 = ai r 41 := ai_rsA (by omega)
  have R : RIL (rsA r) := by
    refine RIL_of A (RT_gi A.1 (gi_rsA r) (gl_rsA r)) (by rw [gi_rsA]) (by rw [gi_rsA]) (by unfold qN; rw [gi_rsA]; exact Nat.le_refl _) (by rw [ai_rsA (by omega)]) (by rw [ai_rsA (by omega)]; exact A.2.2.2.2.1) (by rw [ai_rsA (by omega)]; exact A.2.2.2.2.2.1) ?_ ?_ (fun j _ => by rw [e46]) (fun b _ => by rw [e41, ai_rsA (by omega)]; exact ⟨rfl, rfl⟩) (fun s hs => by rw [rsA_X r (by decide) (by decide) (by decide), rsX_n (by omega) (by decide)]) (fun b hb => ?_) (fun s hs z => ?_) (fun j s hj z hs e => ?_)
    · rw [n2]; exact ⟨by rw [tn_nI (by omega)], by rw [tn_nI (by omega)]; omega⟩
    · rw [n2, tn_nI (by omega)]; omega
    · rw [rsA_45]
      by_cases y : b = rsB r
      · rw [if_pos y]
        exact Or.inr ⟨rsN r, rfl, by unfold rsN; omega, by omega, fun _ => by rw [rsA_X r (by decide) (by decide) (by decide), (rsX_v r).2.1, y]; exact (A.o (j := dN r - 1) (by rw [M.2.2.2.2.2.1]; omega)).1⟩
      · rw [if_neg y]; exact Or.inl rfl
    · rw [rsA_X r (by decide) (by decide) (by decide), rsX_n (by omega) (by decide)]; exact z
    · rw [rsA_X r (by decide) (by decide) (by decide), rsX_n (by omega) (by decide)]
  refine ⟨M.of R (gi_rsA r) (ai_rsA (by omega)) e46 (by rw [n1, M.2.2.2.2.2.2.2.1]), fun j hj => ?_⟩
  have eo : obN (rsA r) j = obN r j := by unfold obN; rw [e46]
  rw [eo, e41]
  have hk : j < dN r := by rw [M.2.2.2.2.2.1]; exact hj
  obtain ⟨-, -, -, o4, -⟩ := A.o hk
  have ls : rsN r < 2 ^ 31 := by
    have : rsN r = wN r * 120 + nsC r := rfl
    omega
  rcases o4 with ⟨-, o4⟩ | ⟨-, s, e, l1, l2, -⟩
  · rw [o4]; exact fun z => nI_ne_m1 ls z.symm
  · rw [e]
    intro z
    have := congrArg tn z
    rw [tn_nI (by omega), tn_nI ls] at this
    omega
/-- names of a statement that no open block belongs to -/
theorem MD_t29 {r0 r : RV} {k c s n : Nat} (M : MD r0 k c n r) (h : ∀ j, j < k → ¬ ai r 41 (obN r j) = nI s) (v : Int32) : MD r0 k c n (tI r 29 s v) ∧ ∀ j, j < k → ¬ ai (tI r 29 s v) 41 (obN (tI r 29 s v) j) = nI s := by
  have A := M.1
  have e : ∀ q, ¬ q = 29 → ai (tI r 29 s v) q = ai r q := fun q hq => ai_ne hq
  refine ⟨M.of ?_ rfl (e 39 (by decide)) (e 46 (by decide)) (by rw [← M.2.2.2.2.2.2.2.1]; unfold rsN; rw [e 18 (by decide)]; rfl), fun j hj => ?_⟩
  · refine RIL_of A A.1 rfl rfl (Nat.le_refl _) (by rw [e 39 (by decide)]) (by rw [e 2 (by decide)]; exact A.2.2.2.2.1) (by rw [e 8 (by decide)]; exact A.2.2.2.2.2.1) (by rw [e 18 (by decide)]; exact A.2.2.2.2.2.2.1) (by rw [e 18 (by decide)]; exact Nat.le_refl _) (fun j _ => by rw [e 46 (by decide)]) (fun b _ => by rw [e 40 (by decide), e 41 (by decide)]; exact ⟨rfl, rfl⟩) (fun s _ => by rw [e 21 (by decide)]) (fun b _ => by rw [e 45 (by decide)]; exact Or.inl rfl) (fun s _ z => by rw [e 32 (by decide)]; exact z) (fun j s' hj z hs' e' => ?_)
    rw [ai_tI, if_neg]
    rintro ⟨-, y⟩
    rw [M.2.2.2.2.2.1] at hj
    rw [y] at e'
    exact h j hj e'
  · have eo : obN (tI r 29 s v) j = obN r j := by unfold obN; rw [e 46 (by decide)]
    rw [eo, e 41 (by decide)]; exact h j hj
/-- names follow: a picture P of the states that the loop's pieces keep -/
theorem MD_nl {r0 : RV} {k n qc qw qa i : Nat} {sep : Int32} (hne : ¬ qc = qa) (hs : ¬ sep = -1) (P : Nat → RV → Prop) (hM : ∀ c r, P c r → MD r0 k c n r) (hA : ∀ c r, P c r → ¬ gi r 1451 = -1 → P (c + 1) (advF r)) (hN : ∀ c r, P c r → okN r = true → P (c + 1) (namF r)) (hL : ∀ c r j v, P c r → P c (tL r qw j v)) (hQ : ∀ c r j v, P c r → P c (tI r qa j v)) (hC : ∀ c r v, P c r → P c (tI r qc i v)) :
    ∀ f r c, P c r → ¬ gi r 1451 = -1 → cnt (ai r qc i) 4 → ((nlF qc qw qa i sep f r).2 = false → 5 ≤ f + tn (ai r qc i) → ¬ gi (nlF qc qw qa i sep f r).1 1452 = -1) ∧ ((nlF qc qw qa i sep f r).2 = true → P (c + 2 * (tn (ai (nlF qc qw qa i sep f r).1 qc i) - tn (ai r qc i))) (nlF qc qw qa i sep f r).1 ∧ cnt (ai (nlF qc qw qa i sep f r).1 qc i) 4 ∧ tn (ai r qc i) < tn (ai (nlF qc qw qa i sep f r).1 qc i) ∧ ¬ gi (nlF qc qw qa i sep f r).1 1451 = sep) := by
  intro f
  induction f with
  | zero =>
    intro r c p hr hc
    have := hc.2
    exact ⟨fun _ z => by omega, fun z => absurd z Bool.false_ne_true⟩
  | succ f ih =>
    intro r c p hr hc
    have hc2 := hc.2
    have pA := hA c r p hr
    rw [nlF]
    by_cases z4 : ai r qc i = 4
    · rw [if_pos z4]
      exact ⟨fun _ _ => (hM _ _ pA).fai, fun z => absurd z Bool.false_ne_true⟩
    rw [if_neg z4]
    have hlt : tn (ai r qc i) < 4 := by
      rcases Nat.lt_or_ge (tn (ai r qc i)) 4 with y | y
      · exact y
      · exact absurd (by rw [hc.1, show tn (ai r qc i) = 4 by omega]; rfl) z4
    by_cases zn : okN (advF r) = false
    · rw [if_pos zn]
      exact ⟨fun _ _ => (hM _ _ pA).fai, fun z => absurd z Bool.false_ne_true⟩
    rw [if_neg zn]
    have pN := hN _ _ pA (by cases h : okN (advF r) <;> simp_all)
    have e0 : ai (namF (advF r)) qc i = ai r qc i := by rw [ai_nam, ai_adv]
    have pS : P (c + 2) (nlS qc qw qa i (namF (advF r))) := hC _ _ _ (hQ _ _ _ _ (hL _ _ _ _ pN))
    have eS : ai (nlS qc qw qa i (namF (advF r))) qc i = nI (tn (ai r qc i) + 1) := by rw [aiq_nlS, e0, hc.1, lt1, nI_add, tn_nI (by omega)]
    have eg : gi (nlS qc qw qa i (namF (advF r))) = gi (namF (advF r)) := by unfold nlS; rw [gi_tI, gi_tI, gi_tL]
    by_cases zs : gi (namF (advF r)) 1451 = sep
    · rw [if_pos zs]
      obtain ⟨i1, i2⟩ := ih (nlS qc qw qa i (namF (advF r))) (c + 2) pS (by rw [eg, zs]; exact hs) (by rw [eS]; exact ⟨by rw [tn_nI (by omega)], by rw [tn_nI (by omega)]; omega⟩)
      rw [eS, tn_nI (by omega)] at i1 i2
      refine ⟨fun y l => i1 y (by omega), fun y => ?_⟩
      obtain ⟨j1, j2, j3, j4⟩ := i2 y
      refine ⟨?_, j2, by omega, j4⟩
      rw [show c + 2 * (tn (ai (nlF qc qw qa i sep f (nlS qc qw qa i (namF (advF r)))).1 qc i) - tn (ai r qc i)) = c + 2 + 2 * (tn (ai (nlF qc qw qa i sep f (nlS qc qw qa i (namF (advF r)))).1 qc i) - (tn (ai r qc i) + 1)) by omega]
      exact j1
    · rw [if_neg zs]
      refine ⟨fun y => absurd y.symm Bool.false_ne_true, fun _ => ?_⟩
      show P (c + 2 * (tn (ai (nlS qc qw qa i (namF (advF r))) qc i) - tn (ai r qc i))) (nlS qc qw qa i (namF (advF r))) ∧ cnt (ai (nlS qc qw qa i (namF (advF r))) qc i) 4 ∧ tn (ai r qc i) < tn (ai (nlS qc qw qa i (namF (advF r))) qc i) ∧ ¬ gi (nlS qc qw qa i (namF (advF r))) 1451 = sep
      rw [eS, tn_nI (by omega)]
      refine ⟨?_, ⟨by rw [tn_nI (by omega)], by rw [tn_nI (by omega)]; omega⟩, by omega, by rw [eg]; exact zs⟩
      rw [show c + 2 * (tn (ai r qc i) + 1 - tn (ai r qc i)) = c + 2 by omega]
      exact pS
/-- what an opened block leaves -/
theorem op_ai {r : RV} (h : okO r = true) (what own num : Int32) (q j : Nat) : ai (opF r what own num) q j = if q = 46 ∧ j = dN r then nI (nbN r) else if q = 45 ∧ j = nbN r then -1 else if q = 44 ∧ j = nbN r then -1 else if q = 43 ∧ j = nbN r then gi r 1449 else if q = 42 ∧ j = nbN r then num else if q = 41 ∧ j = nbN r then own else if q = 40 ∧ j = nbN r then what else if q = 39 ∧ j = wN r then ai r 39 (wN r) + 1 else ai r q j := by
  unfold opF
  rw [if_pos h, ai_adv]
  unfold opG
  rw [ai_sI]
  simp only [ai_tI, gi_tI]
  rfl
theorem op_al (r : RV) (what own num : Int32) : al (opF r what own num) = al r := by
  unfold opF
  split
  · rw [al_adv]; rfl
  · rfl
theorem op_gi {r : RV} (h : okO r = true) (what own num : Int32) {f : Nat} (h1 : ¬ f = 1447) (h2 : ¬ f = 1449) (h3 : ¬ f = 1451) (h4 : ¬ f = 1455) : gi (opF r what own num) f = gi r f := by
  unfold opF
  rw [if_pos h, gi_adv _ h1 h2 h3]
  unfold opG
  rw [gi_sI, if_neg h4]
  rfl
theorem op_d {r : RV} (h : okO r = true) (hd : cnt (gi r 1455) 8) (what own num : Int32) : gi (opF r what own num) 1455 = nI (dN r + 1) ∧ dN r + 1 ≤ 8 := by
  have h2 := hd.2
  have h8 : ¬ gi r 1455 = 8 := fun z => by
    unfold okO at h
    rw [z] at h
    simp at h
  refine ⟨?_, ?_⟩
  · unfold opF
    rw [if_pos h, gi_adv _ (by decide) (by decide) (by decide)]
    unfold opG
    rw [gi_sI, if_pos rfl]
    unfold dN
    rw [hd.1, lt1, nI_add, tn_nI (by omega)]
  · rcases Nat.lt_or_ge (dN r) 8 with y | y
    · exact y
    · exact absurd (by rw [hd.1]; show nI (dN r) = 8; rw [show dN r = 8 by unfold dN at y ⊢; omega]; rfl) h8
theorem okO_123 {r : RV} (h : okO r = true) : gi r 1451 = 123 := by
  unfold okO at h
  rw [Bool.and_eq_true] at h
  exact of_decide_eq_true h.1
/-- what may be said of the owner of a new block -/
def OWN (r : RV) (what own : Int32) : Prop := (what = 0 ∧ own = -1 ∧ dN r = 0) ∨ (¬ what = 0 ∧ ∃ s, own = nI s ∧ wN r * 120 ≤ s ∧ s < rsN r ∧ cnt (ai r 32 s) 4 ∧ (what = 8 → ai r 29 s = nI 0) ∧ ∀ j, j < dN r → ¬ ai r 41 (obN r j) = nI s)
theorem RIL_op {r : RV} (A : RIL r) (h : okO r = true) {what own : Int32} (num : Int32) (O : OWN r what own) : RIL (opF r what own num) ∧ qN r < qN (opF r what own num) := by
  obtain ⟨d1, d2⟩ := op_d h A.2.2.2.1 what own num
  have w2 := A.w2
  have hb := A.b
  have hs := A.s.2
  have nbe : nbN r = wN r * 1024 + nbC r := rfl
  have nse : rsN r = wN r * 120 + nsC r := rfl
  have g : ∀ f, ¬ f = 1447 → ¬ f = 1449 → ¬ f = 1451 → ¬ f = 1455 → gi (opF r what own num) f = gi r f := fun f h1 h2 h3 h4 => op_gi h what own num h1 h2 h3 h4
  have ew : wN (opF r what own num) = wN r := by unfold wN; rw [g 1402 (by decide) (by decide) (by decide) (by decide)]
  have eG : opF r what own num = advF (opG r (nbN r) what own num) := by unfold opF; rw [if_pos h]
  have TG : RT (opG r (nbN r) what own num) := A.1
  have eq0 : qN (opG r (nbN r) what own num) = qN r := rfl
  have pq : tn (gi (opG r (nbN r) what own num) 1447) = tn (gi r 1447) := rfl
  have q1 : qN r < qN (opF r what own num) := by
    have := adv_q TG.1
    rw [← eG, pq] at this
    have := A.q.2.2.2 (by rw [okO_123 h]; decide)
    omega
  have T : RT (opF r what own num) := by rw [eG]; exact RT_adv TG.1
  have ed : dN (opF r what own num) = dN r + 1 := by show tn (gi (opF r what own num) 1455) = _; rw [d1, tn_nI (by omega)]
  have e39 : ai (opF r what own num) 39 (wN r) = nI (nbC r + 1) := by
    rw [op_ai h]
    simp only [show ¬ (39 : Nat) = 46 by decide, show ¬ (39 : Nat) = 45 by decide, show ¬ (39 : Nat) = 44 by decide, show ¬ (39 : Nat) = 43 by decide, show ¬ (39 : Nat) = 42 by decide, show ¬ (39 : Nat) = 41 by decide, show ¬ (39 : Nat) = 40 by decide, false_and, if_false, true_and, if_true]
    rw [hb.1, lt1, nI_add]
  have nl : nbC r + 1 ≤ 1004 := by
    have := A.q.2.1
    omega
  have eC : nbC (opF r what own num) = nbC r + 1 := by unfold nbC; rw [ew, e39, tn_nI (by omega)]; rfl
  have eN : nbN (opF r what own num) = nbN r + 1 := by show wN (opF r what own num) * 1024 + nbC (opF r what own num) = _; rw [ew, eC]; omega
  have eq : ∀ q, ¬ (39 ≤ q ∧ q ≤ 46) → ∀ j, ai (opF r what own num) q j = ai r q j := fun q hq j => by
    rw [op_ai h]
    simp only [show ¬ q = 46 by omega, show ¬ q = 45 by omega, show ¬ q = 44 by omega, show ¬ q = 43 by omega, show ¬ q = 42 by omega, show ¬ q = 41 by omega, show ¬ q = 40 by omega, show ¬ q = 39 by omega, false_and, if_false]
  have eb : ∀ q, 40 ≤ q → q ≤ 45 → ∀ b, ¬ b = nbN r → ai (opF r what own num) q b = ai r q b := fun q h1 h2 b hb => by
    rw [op_ai h]
    simp only [show ¬ q = 46 by omega, show ¬ q = 39 by omega, hb, and_false, false_and, if_false]
  have en : ai (opF r what own num) 40 (nbN r) = what ∧ ai (opF r what own num) 41 (nbN r) = own ∧ ai (opF r what own num) 45 (nbN r) = -1 := by
    rw [op_ai h, op_ai h, op_ai h]
    simp
  have e46 : ∀ j, ai (opF r what own num) 46 j = if j = dN r then nI (nbN r) else ai r 46 j := fun j => by
    rw [op_ai h]
    simp
  have er : rsN (opF r what own num) = rsN r := by unfold rsN; rw [ew, eq 18 (by omega)]
  have eo : ∀ j, j < dN r → obN (opF r what own num) j = obN r j := fun j hj => by unfold obN; rw [e46, if_neg (by omega)]
  have en2 : obN (opF r what own num) (dN r) = nbN r := by unfold obN; rw [e46, if_pos rfl, tn_nI (by omega)]
  have lo : ∀ j, j < dN r → ¬ obN r j = nbN r := fun j hj => by have := (A.o hj).2.2.1; omega
  refine ⟨⟨T, ⟨by rw [ew, g 1402 (by decide) (by decide) (by decide) (by decide)]; exact A.w, by rw [ew]; exact w2⟩, ⟨by rw [ew, e39]; exact ⟨by rw [tn_nI (by omega)], by rw [tn_nI (by omega)]; omega⟩, by rw [eC, ed]; omega⟩, by rw [d1]; exact ⟨by rw [tn_nI (by omega)], by rw [tn_nI (by omega)]; omega⟩, by rw [ew, eq 2 (by omega)]; exact A.2.2.2.2.1, by rw [ew, eq 8 (by omega)]; exact A.2.2.2.2.2.1, by rw [ew, eq 18 (by omega)]; exact A.2.2.2.2.2.2.1, fun j hj => ?_, fun i j hi hj => ?_⟩, q1⟩
  · rw [ed] at hj
    by_cases z : j = dN r
    · unfold OBJ
      rw [z, en2, ew, eN, er, en.1, en.2.1, en.2.2]
      refine ⟨by rw [e46, if_pos rfl], by omega, by omega, ?_, Or.inl rfl⟩
      rcases O with ⟨o1, o2, -⟩ | ⟨o1, s, o2, o3, o4, o5, o6, -⟩
      · exact Or.inl ⟨o1, o2⟩
      · exact Or.inr ⟨o1, s, o2, o3, o4, by rw [eq 32 (by omega)]; exact o5, fun y => by rw [eq 29 (by omega)]; exact o6 y⟩
    · have hj : j < dN r := by omega
      obtain ⟨o1, o2, o3, o4, o5⟩ := A.o hj
      unfold OBJ
      rw [eo j hj, ew, eN, er, e46, if_neg z, eb 40 (by omega) (by omega) _ (lo j hj), eb 41 (by omega) (by omega) _ (lo j hj), eb 45 (by omega) (by omega) _ (lo j hj)]
      refine ⟨o1, o2, by omega, ?_, by rw [funext (eq 21 (by omega))]; exact o5⟩
      rcases o4 with o4 | ⟨n0, s, q1, l1, l2, c, m⟩
      · exact Or.inl o4
      · exact Or.inr ⟨n0, s, q1, l1, l2, by rw [eq 32 (by omega)]; exact c, fun y => by rw [eq 29 (by omega)]; exact m y⟩
  · rw [ed] at hj
    have hi2 : i < dN r := by omega
    rw [eo i hi2, eb 41 (by omega) (by omega) _ (lo i hi2)]
    by_cases z : j = dN r
    · rw [z, en2, en.2.1]
      refine ⟨?_, lo i hi2⟩
      rcases O with ⟨o1, o2, o3⟩ | ⟨o1, s, o2, o3, o4, o5, o6, o7⟩
      · omega
      · rw [o2]; exact o7 i hi2
    · have hj : j < dN r := by omega
      rw [eo j hj, eb 41 (by omega) (by omega) _ (lo j hj)]
      exact A.dj hi hj
/-- the innermost block ends -/
theorem RIL_pop {r : RV} (A : RIL r) (h : gi r 1451 = 125) (hd : 0 < dN r) : RIL (clA r) ∧ dN (clA r) + 1 = dN r ∧ qN r < qN (clA r) ∧ ∀ j, j < dN (clA r) → ¬ ai (clA r) 41 (obN (clA r) j) = ai r 41 (rsB r) := by
  have d := A.d
  have e5 : gi (sI r 1455 (gi r 1455 - 1)) 1455 = nI (dN r - 1) := by rw [gi_sI, if_pos rfl, d.1, lt1, pk_sub hd]
  have T0 : RT (sI r 1455 (gi r 1455 - 1)) := A.1
  have eT : RT (clA r) := RT_adv T0.1
  have ea : ai (clA r) = ai r := by unfold clA; rw [ai_adv]; rfl
  have eg : ∀ f, ¬ f = 1447 → ¬ f = 1449 → ¬ f = 1451 → ¬ f = 1455 → gi (clA r) f = gi r f := fun f h1 h2 h3 h4 => by unfold clA; rw [gi_adv _ h1 h2 h3, gi_sI, if_neg h4]
  have ew : wN (clA r) = wN r := by unfold wN; rw [eg 1402 (by decide) (by decide) (by decide) (by decide)]
  have e6 : gi (clA r) 1455 = nI (dN r - 1) := by unfold clA; rw [gi_adv _ (by decide) (by decide) (by decide)]; exact e5
  have ed : dN (clA r) = dN r - 1 := by show tn (gi (clA r) 1455) = _; rw [e6, tn_nI (by omega)]
  have eo : ∀ j, obN (clA r) j = obN r j := fun j => by unfold obN; rw [ea]
  have en : nbN (clA r) = nbN r := by unfold nbN; rw [ew, ea]
  have es : rsN (clA r) = rsN r := by unfold rsN; rw [ew, ea]
  have q1 : qN r < qN (clA r) := by
    have := adv_q T0.1
    have l : tn (gi r 1447) ≤ qN (clA r) := this
    have := A.q.2.2.2 (by rw [h]; decide)
    omega
  refine ⟨⟨eT, ⟨by rw [ew, eg 1402 (by decide) (by decide) (by decide) (by decide)]; exact A.w, by rw [ew]; exact A.w2⟩, ⟨by rw [ew, ea]; exact A.2.2.1.1, ?_⟩, ?_, by rw [ew, ea]; exact A.2.2.2.2.1, by rw [ew, ea]; exact A.2.2.2.2.2.1, by rw [ew, ea]; exact A.2.2.2.2.2.2.1, fun j hj => ?_, fun i j hi hj => ?_⟩, by omega, q1, fun j hj => ?_⟩
  · have : nbC (clA r) = nbC r := by unfold nbC; rw [ew, ea]
    have := A.b.2.2
    omega
  · rw [e6]; exact ⟨by rw [tn_nI (by omega)], by rw [tn_nI (by omega)]; omega⟩
  · have := A.o (j := j) (by omega)
    unfold OBJ at this ⊢
    rw [eo, ew, en, es, ea]
    exact this
  · have := A.dj hi (by omega)
    rw [eo, eo, ea]
    exact this
  · have := A.dj (i := j) (j := dN r - 1) (by omega) (by omega)
    rw [eo, ea]
    exact this.1
