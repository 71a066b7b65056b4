/-! The reading's invariant, kept by each piece of a turn -/
def qN (r : RV) : Nat := tn (gi r 1449)
def dN (r : RV) : Nat := tn (gi r 1455)
def obN (r : RV) (j : Nat) : Nat := tn (ai r 46 j)
def nsC (r : RV) : Nat := tn (ai r 18 (wN r))
def nbC (r : RV) : Nat := tn (ai r 39 (wN r))
/-- the j-th open block -/
def OBJ (r : RV) (j : Nat) : Prop := ai r 46 j = nI (obN r j) ∧ wN r * 1024 ≤ obN r j ∧ obN r j < nbN r ∧
  ((ai r 40 (obN r j) = 0 ∧ ai r 41 (obN r j) = -1) ∨ (¬ ai r 40 (obN r j) = 0 ∧ ∃ s, ai r 41 (obN r j) = nI s ∧ wN r * 120 ≤ s ∧ s < rsN r ∧ cnt (ai r 32 s) 4 ∧ (ai r 40 (obN r j) = 8 → ai r 29 s = nI 0))) ∧
  (ai r 45 (obN r j) = -1 ∨ ∃ e, ai r 45 (obN r j) = nI e ∧ wN r * 120 ≤ e ∧ e < rsN r ∧ ai r 21 e = nI (obN r j))
def RIL (r : RV) : Prop := RT r ∧ (gi r 1402 = nI (wN r) ∧ wN r < 2) ∧ (cnt (ai r 39 (wN r)) 1023 ∧ 2 * nbC r ≤ qN r + dN r) ∧ cnt (gi r 1455) 8 ∧ (cnt (ai r 2 (wN r)) 16 ∧ 4 ≤ tn (ai r 2 (wN r))) ∧ cnt (ai r 8 (wN r)) 12 ∧ cnt (ai r 18 (wN r)) 120 ∧
  (∀ j, j < dN r → OBJ r j) ∧ ∀ i j, i < j → j < dN r → ¬ ai r 41 (obN r i) = ai r 41 (obN r j) ∧ ¬ obN r i = obN r j
theorem RIL.rt {r : RV} (A : RIL r) : RT r := A.1
theorem RIL.w {r : RV} (A : RIL r) : gi r 1402 = nI (wN r) := A.2.1.1
theorem RIL.w2 {r : RV} (A : RIL r) : wN r < 2 := A.2.1.2
theorem RIL.ob {r : RV} (A : RIL r) : OB r := ⟨A.1.1, A.2.1.1, A.2.1.2, A.2.2.1.1, A.2.2.2.1⟩
theorem RIL.q {r : RV} (A : RIL r) : gi r 1449 = nI (qN r) ∧ qN r ≤ 2000 ∧ qN r ≤ tn (gi r 1447) ∧ (¬ gi r 1451 = -1 → qN r < tn (gi r 1447)) := by
  obtain ⟨⟨⟨p, n, hp, hn, h1, h2⟩, ⟨q, e, l, l2, -⟩, -⟩, -⟩ := A
  rw [hp, tn_nI (by omega)] at l l2
  have : qN r = q := by unfold qN; rw [e, tn_nI (by omega)]
  rw [this, hp, tn_nI (by omega)]
  exact ⟨e, by omega, l, l2⟩
theorem RIL.d {r : RV} (A : RIL r) : gi r 1455 = nI (dN r) ∧ dN r ≤ 8 := A.2.2.2.1
theorem RIL.s {r : RV} (A : RIL r) : ai r 18 (wN r) = nI (nsC r) ∧ nsC r ≤ 120 := A.2.2.2.2.2.2.1
theorem RIL.b {r : RV} (A : RIL r) : ai r 39 (wN r) = nI (nbC r) ∧ nbC r ≤ 1023 ∧ 2 * nbC r ≤ qN r + dN r := ⟨A.2.2.1.1.1, A.2.2.1.1.2, A.2.2.1.2⟩
theorem RIL.o {r : RV} (A : RIL r) {j : Nat} (hj : j < dN r) : OBJ r j := A.2.2.2.2.2.2.2.1 j hj
theorem RIL.dj {r : RV} (A : RIL r) {i j : Nat} (h : i < j) (hj : j < dN r) : ¬ ai r 41 (obN r i) = ai r 41 (obN r j) ∧ ¬ obN r i = obN r j := A.2.2.2.2.2.2.2.2 i j h hj
theorem RIL_pre {r : RV} (A : RIL r) : PRE r := by
  have OB' := A.ob
  have w2 := A.w2
  have s2 := A.s.2
  have b2 := A.b.2.1
  have d2 := A.d
  have dz : ¬ gi r 1455 = 0 → 0 < dN r := fun z => by
    rcases Nat.eq_zero_or_pos (dN r) with y | y
    · rw [y] at d2; exact absurd d2.1 z
    · exact y
  refine ⟨OB', A.2.2.2.2.1.1, A.2.2.2.2.2.1, fun z e => ?_, fun z e => ?_⟩
  · have d1 := dz z
    obtain ⟨o1, o2, o3, o4, o5⟩ := A.o (j := dN r - 1) (by omega)
    have o3' : obN r (dN r - 1) < wN r * 1024 + nbC r := o3
    refine ⟨OB', d1, o1, by show obN r (dN r - 1) < 2048; omega, ?_⟩
    rcases o4 with o4 | ⟨n0, s, e1, l1, l2, c, m⟩
    · exact Or.inl o4.1
    · have l2' : s < wN r * 120 + nsC r := l2
      refine Or.inr ?_
      have es : ai r 41 (rsB r) = nI s := e1
      have t : tn (nI s) = s := tn_nI (by omega)
      rw [es, t]
      exact ⟨rfl, by omega, c, m⟩
  · have d1 := dz z
    obtain ⟨o1, o2, o3, o4, o5⟩ := A.o (j := dN r - 1) (by omega)
    have o3' : obN r (dN r - 1) < wN r * 1024 + nbC r := o3
    refine ⟨OB', A.2.2.2.2.2.2.1, d1, o1, by show obN r (dN r - 1) < 2048; omega, ?_⟩
    rcases o5 with o5 | ⟨s, e1, l1, l2, -⟩
    · exact Or.inl o5
    · have l2' : s < wN r * 120 + nsC r := l2
      have es : ai r 45 (rsB r) = nI s := e1
      have t : tn (nI s) = s := tn_nI (by omega)
      refine Or.inr ?_
      rw [es]
      unfold idx
      rw [t]
      exact ⟨rfl, by omega⟩
theorem RIL_of {r r' : RV} (A : RIL r) (T : RT r') (e1 : gi r' 1402 = gi r 1402) (e2 : gi r' 1455 = gi r 1455) (hq : qN r ≤ qN r') (e39 : ai r' 39 (wN r) = ai r 39 (wN r)) (c2 : cnt (ai r' 2 (wN r)) 16 ∧ 4 ≤ tn (ai r' 2 (wN r))) (c8 : cnt (ai r' 8 (wN r)) 12) (c18 : cnt (ai r' 18 (wN r)) 120) (m18 : nsC r ≤ tn (ai r' 18 (wN r)))
    (h46 : ∀ j, j < dN r → ai r' 46 j = ai r 46 j) (hb : ∀ b, b < nbN r → ai r' 40 b = ai r 40 b ∧ ai r' 41 b = ai r 41 b) (h21 : ∀ s, s < rsN r → ai r' 21 s = ai r 21 s) (h45 : ∀ b, b < nbN r → ai r' 45 b = ai r 45 b ∨ ∃ e, ai r' 45 b = nI e ∧ wN r * 120 ≤ e ∧ e < rsN r' ∧ ((∃ j, j < dN r ∧ b = obN r j) → ai r' 21 e = nI b)) (h32 : ∀ s, s < rsN r → cnt (ai r 32 s) 4 → cnt (ai r' 32 s) 4)
    (h29 : ∀ j s, j < dN r → ai r 40 (obN r j) = 8 → s < rsN r → ai r 41 (obN r j) = nI s → ai r' 29 s = ai r 29 s) : RIL r' := by
  have ew : wN r' = wN r := by unfold wN; rw [e1]
  have ed : dN r' = dN r := by unfold dN; rw [e2]
  have eb : nbN r' = nbN r := by unfold nbN; rw [ew, e39]
  have ms : rsN r ≤ rsN r' := by unfold rsN; rw [ew]; exact Nat.add_le_add_left m18 _
  have eo : ∀ j, j < dN r → obN r' j = obN r j := fun j hj => by unfold obN; rw [h46 j hj]
  refine ⟨T, ⟨by rw [ew, e1]; exact A.w, by rw [ew]; exact A.w2⟩, ⟨by rw [ew, e39]; exact A.2.2.1.1, ?_⟩, by rw [e2]; exact A.2.2.2.1, by rw [ew]; exact c2, by rw [ew]; exact c8, by rw [ew]; exact c18, fun j hj => ?_, fun i j hi hj => ?_⟩
  · have : nbC r' = nbC r := by unfold nbC; rw [ew, e39]
    have := A.2.2.1.2
    omega
  · rw [ed] at hj
    obtain ⟨o1, o2, o3, o4, o5⟩ := A.o hj
    unfold OBJ
    rw [eo j hj, h46 j hj, ew, eb, (hb _ o3).1, (hb _ o3).2]
    refine ⟨o1, o2, o3, ?_, ?_⟩
    · rcases o4 with o4 | ⟨n0, s, q1, l1, l2, c, m⟩
      · exact Or.inl o4
      · exact Or.inr ⟨n0, s, q1, l1, Nat.lt_of_lt_of_le l2 ms, h32 s l2 c, fun z => by rw [h29 j s hj z l2 q1]; exact m z⟩
    · rcases h45 _ o3 with z | z
      · rw [z]
        rcases o5 with o5 | ⟨e, q1, l1, l2, l3⟩
        · exact Or.inl o5
        · exact Or.inr ⟨e, q1, l1, Nat.lt_of_lt_of_le l2 ms, by rw [h21 e l2]; exact l3⟩
      · obtain ⟨e, y1, y2, y3, y4⟩ := z
        exact Or.inr ⟨e, y1, y2, y3, y4 ⟨j, hj, rfl⟩⟩
  · rw [ed] at hj
    rw [eo i (by omega), eo j hj, (hb _ (A.o (j := i) (by omega)).2.2.1).2, (hb _ (A.o hj).2.2.1).2]
    exact A.dj hi hj
/-- the arrays of the invariant are the same -/
def KE (r r' : RV) : Prop := ai r' 21 = ai r 21 ∧ ai r' 2 = ai r 2 ∧ ai r' 8 = ai r 8 ∧ ai r' 18 = ai r 18 ∧ ai r' 29 = ai r 29 ∧ ai r' 32 = ai r 32 ∧ ai r' 39 = ai r 39 ∧ ai r' 40 = ai r 40 ∧ ai r' 41 = ai r 41 ∧ ai r' 45 = ai r 45 ∧ ai r' 46 = ai r 46
theorem RIL_ke {r r' : RV} (A : RIL r) (T : RT r') (e1 : gi r' 1402 = gi r 1402) (e2 : gi r' 1455 = gi r 1455) (hq : qN r ≤ qN r') (K : KE r r') : RIL r' := by
  obtain ⟨k21, k2, k8, k18, k29, k32, k39, k40, k41, k45, k46⟩ := K
  refine RIL_of A T e1 e2 hq (by rw [k39]) (by rw [k2]; exact A.2.2.2.2.1) (by rw [k8]; exact A.2.2.2.2.2.1) (by rw [k18]; exact A.2.2.2.2.2.2.1) (by rw [k18]; exact Nat.le_refl _) (fun j _ => by rw [k46]) (fun b _ => by rw [k40, k41]; exact ⟨rfl, rfl⟩) (fun s _ => by rw [k21]) (fun b _ => by rw [k45]; exact Or.inl rfl) (fun s _ z => by rw [k32]; exact z) (fun j s _ _ _ _ => by rw [k29])
/-- a state within the turn that began at r0: k blocks are open, c bytes at least are behind us -/
def MD (r0 : RV) (k c n : Nat) (r : RV) : Prop := RIL r ∧ gi r 1452 = -1 ∧ gi r 1402 = gi r0 1402 ∧ gi r 1448 = gi r0 1448 ∧ ai r 39 = ai r0 39 ∧ dN r = k ∧ ai r 46 = ai r0 46 ∧ rsN r = n ∧ qN r0 + c ≤ qN r
theorem MD.rl {r0 r : RV} {k c n : Nat} (M : MD r0 k c n r) : RIL r := M.1
theorem MD.rt {r0 r : RV} {k c n : Nat} (M : MD r0 k c n r) : RT r := M.1.1
theorem MD.pt {r0 r : RV} {k c n : Nat} (M : MD r0 k c n r) : PT r := M.1.1.1
theorem MD.le {r0 r : RV} {k c c' n : Nat} (M : MD r0 k c n r) (h : c' ≤ c) : MD r0 k c' n r := ⟨M.1, M.2.1, M.2.2.1, M.2.2.2.1, M.2.2.2.2.1, M.2.2.2.2.2.1, M.2.2.2.2.2.2.1, M.2.2.2.2.2.2.2.1, by have := M.2.2.2.2.2.2.2.2; omega⟩
theorem MD.w {r0 r : RV} {k c n : Nat} (M : MD r0 k c n r) : wN r = wN r0 := by unfold wN; rw [M.2.2.1]
theorem MD.nb {r0 r : RV} {k c n : Nat} (M : MD r0 k c n r) : nbN r = nbN r0 := by unfold nbN; rw [M.w, M.2.2.2.2.1]
theorem MD.start {r : RV} (A : RIL r) (h : gi r 1452 = -1) : MD r (dN r) 0 (rsN r) r := ⟨A, h, rfl, rfl, rfl, rfl, rfl, rfl, Nat.le_refl _⟩
theorem MD.ke {r0 r r' : RV} {k c c' n : Nat} (M : MD r0 k c n r) (T : RT r') (e0 : gi r' 1452 = gi r 1452) (e1 : gi r' 1402 = gi r 1402) (e2 : gi r' 1455 = gi r 1455) (e3 : gi r' 1448 = gi r 1448) (hq : qN r ≤ qN r') (hc : qN r0 + c' ≤ qN r') (K : KE r r') : MD r0 k c' n r' := by
  obtain ⟨A, m1, m2, m3, m4, m5, m6, m8, m7⟩ := M
  refine ⟨RIL_ke A T e1 e2 hq K, e0.trans m1, e1.trans m2, e3.trans m3, K.2.2.2.2.2.2.1.trans m4, ?_, K.2.2.2.2.2.2.2.2.2.2.trans m6, ?_, hc⟩
  · unfold dN; rw [e2]; exact m5
  · rw [← m8]; unfold rsN wN; rw [e1, K.2.2.2.1]
theorem adv_q {r : RV} (P : PT r) : tn (gi r 1447) ≤ qN (advF r) := by
  obtain ⟨p, n, hp, hn, h1, h2⟩ := P
  have eF : advF r = tokP r (ai r 1) n (skB (ai r 1) (n - p) p) := by
    unfold advF
    rw [hp, hn, tn_nI (by omega), tn_nI (by omega)]
  have b := skB_le (ai r 1) (n - p) p
  rw [eF, hp, tn_nI (by omega)]
  generalize skB (ai r 1) (n - p) p = q at *
  have e : gi (tokP r (ai r 1) n q) 1449 = nI q := by
    unfold tokP
    split
    · rfl
    · split
      · split <;> rfl
      · rfl
  unfold qN
  rw [e, tn_nI (by omega)]
  exact b.1
theorem RIL.adv_q {r : RV} (A : RIL r) : qN r ≤ qN (advF r) ∧ (¬ gi r 1451 = -1 → qN r < qN (advF r)) := by
  have q := A.q
  have := Jvm.Pilot.CThrowRulesLaw_law_r5179_b2991a.adv_q A.1.1
  exact ⟨by omega, fun z => by have := q.2.2.2 z; omega⟩
theorem KE.rf {r : RV} : KE r r := ⟨rfl, rfl, rfl, rfl, rfl, rfl, rfl, rfl, rfl, rfl, rfl⟩
theorem KE_adv (r : RV) : KE r (advF r) := by unfold KE; rw [ai_adv]; exact KE.rf
theorem MD.adv {r0 r : RV} {k c n : Nat} (M : MD r0 k c n r) (h : ¬ gi r 1451 = -1) : MD r0 k (c + 1) n (advF r) := by
  have := M.1.adv_q
  have l := M.2.2.2.2.2.2.2.2
  have := this.2 h
  exact M.ke (RT_adv M.pt) (gi_adv r) (gi_adv r) (gi_adv r) (gi_adv r) (by omega) (by omega) (KE_adv r)
theorem ne_end {r : RV} (T : RT r) (h : ¬ gl r 21450 = 0) : ¬ gi r 1451 = -1 := fun z => by
  refine h (T.2.2.2.1 ?_)
  rw [z]; decide
theorem okN_ne {r : RV} (h : okN r = true) : ¬ gl r 21450 = 0 := fun z => by
  unfold okN at h; rw [z] at h; exact absurd h (by decide)
theorem MDsI {r0 r : RV} {k c n : Nat} (M : MD r0 k c n r) {f : Nat} (v : Int32) (h1 : ¬ f = 1402) (h2 : ¬ f = 1447) (h3 : ¬ f = 1448) (h4 : ¬ f = 1449) (h5 : ¬ f = 1451) (h6 : ¬ f = 1452) (h7 : ¬ f = 1455) : MD r0 k c n (sI r f v) := by
  have g : ∀ x, ¬ f = x → gi (sI r f v) x = gi r x := fun x hx => by rw [gi_sI, if_neg (fun z => hx z.symm)]
  refine M.ke ?_ (g _ h6) (g _ h1) (g _ h7) (g _ h3) ?_ ?_ KE.rf
  · have := M.rt
    unfold RT PT at this ⊢
    rw [g _ h2, g _ h3, g _ h4, g _ h5]
    exact this
  · unfold qN; rw [g _ h4]; exact Nat.le_refl _
  · have := M.2.2.2.2.2.2.2.2
    unfold qN at this ⊢; rw [g _ h4]; exact this
theorem MDsL {r0 r : RV} {k c n : Nat} (M : MD r0 k c n r) {f : Nat} (v : Int64) (h1 : ¬ f = 21450) : MD r0 k c n (sL r f v) := by
  refine M.ke ?_ rfl rfl rfl rfl (Nat.le_refl _) M.2.2.2.2.2.2.2.2 KE.rf
  have := M.rt
  unfold RT PT at this ⊢
  rw [show gl (sL r f v) 21450 = gl r 21450 by rw [gl_sL, if_neg (fun z => h1 z.symm)]]
  exact this
theorem MD.nam {r0 r : RV} {k c n : Nat} (M : MD r0 k c n r) (h : okN r = true) : MD r0 k (c + 1) n (namF r) := by
  have := M.rt
  exact MD.adv (MDsI (MDsL M (f := 21453) (gl r 21450) (by decide)) (f := 1454) (gi r 1449) (by decide) (by decide) (by decide) (by decide) (by decide) (by decide) (by decide)) (ne_end M.rt (okN_ne h))
theorem MDtL {r0 r : RV} {k c n : Nat} (M : MD r0 k c n r) (q i : Nat) (v : Int64) : MD r0 k c n (tL r q i v) := M.ke M.rt rfl rfl rfl rfl (Nat.le_refl _) M.2.2.2.2.2.2.2.2 KE.rf
/-- arrays that may be written freely -/
def fre (q : Nat) : Bool := !(q == 21 || q == 2 || q == 8 || q == 18 || q == 29 || q == 32 || q == 39 || q == 40 || q == 41 || q == 45 || q == 46)
theorem ai_ne {r : RV} {q i p : Nat} {v : Int32} (h : ¬ p = q) : ai (tI r q i v) p = ai r p := by
  funext j; rw [ai_tI, if_neg (fun z => h z.1)]
theorem KE_tI (r : RV) {q : Nat} (i : Nat) (v : Int32) (h : fre q = true) : KE r (tI r q i v) := by
  have n : ∀ p, (p = 21 ∨ p = 2 ∨ p = 8 ∨ p = 18 ∨ p = 29 ∨ p = 32 ∨ p = 39 ∨ p = 40 ∨ p = 41 ∨ p = 45 ∨ p = 46) → ¬ p = q := by
    rintro p hp rfl
    rcases hp with rfl | rfl | rfl | rfl | rfl | rfl | rfl | rfl | rfl | rfl | rfl <;> exact absurd h (by decide)
  refine ⟨?_, ?_, ?_, ?_, ?_, ?_, ?_, ?_, ?_, ?_, ?_⟩ <;> exact ai_ne (n _ (by decide))
theorem MDtI {r0 r : RV} {k c n : Nat} (M : MD r0 k c n r) {q : Nat} (i : Nat) (v : Int32) (h : fre q = true) : MD r0 k c n (tI r q i v) := M.ke M.rt rfl rfl rfl rfl (Nat.le_refl _) M.2.2.2.2.2.2.2.2 (KE_tI r i v h)
/-- here the text is wrong -/
theorem MD.fai {r0 r : RV} {k c n : Nat} (M : MD r0 k c n r) : ¬ gi (faiF r) 1452 = -1 := by
  have q := M.1.q
  have e : gi (faiF r) 1452 = gi r 1449 := by unfold faiF; rw [gi_sI, if_pos rfl, if_pos M.2.1]
  rw [e, q.1]
  exact nI_ne_m1 (by omega)
theorem MD.tak {r0 r : RV} {k c n : Nat} (M : MD r0 k c n r) {s : Int32} (hs : ¬ s = -1) (h : gi (takF r s) 1452 = -1) : gi r 1451 = s ∧ takF r s = advF r ∧ MD r0 k (c + 1) n (advF r) := by
  unfold takF at h ⊢
  by_cases z : gi r 1451 = s
  · rw [if_pos z]
    exact ⟨z, rfl, M.adv (by rw [z]; exact hs)⟩
  · rw [if_neg z] at h
    exact absurd h M.fai
/-- the half, the blocks' arrays and the open ones are kept; ns may grow -/
theorem MD.of {r0 r r' : RV} {k c n n' : Nat} (M : MD r0 k c n r) (R : RIL r') (eg : gi r' = gi r) (e39 : ai r' 39 = ai r 39) (e46 : ai r' 46 = ai r 46) (en : rsN r' = n') : MD r0 k c n' r' := by
  obtain ⟨A, m1, m2, m3, m4, m5, m6, m8, m7⟩ := M
  refine ⟨R, by rw [eg]; exact m1, by rw [eg]; exact m2, by rw [eg]; exact m3, e39.trans m4, ?_, e46.trans m6, en, ?_⟩
  · unfold dN; rw [eg]; exact m5
  · unfold qN; rw [eg]; exact m7
theorem RT_gi {r r' : RV} (T : RT r) (eg : gi r' = gi r) (el : gl r' = gl r) : RT r' := by
  unfold RT PT at T ⊢
  rw [eg, el]; exact T
