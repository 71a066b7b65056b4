/-! if -/
theorem md_cl {rc : RV} {D : Nat} (A : RIL rc) (ec : gi rc 1452 = -1) (g : gi rc 1451 = 125) (dc : dN rc = D + 1) : MD rc D 1 (rsN rc) (clA rc) := by
  obtain ⟨a1, a2, a3, a4, a5, a6, a7, a8, a9, a10, a11⟩ := cla_v A ec g dc
  have w : gi (clA rc) 1402 = gi rc 1402 := by unfold clA; rw [gi_adv, gi_sI, if_neg (by decide)]
  exact ⟨a1, a2, w, a11.2.1.trans (gi_adv rc), by rw [a3], a9, by rw [a3], a8, a10⟩
theorem own_cl {rc X : RV} {D c s : Nat} {what : Int32} (A : RIL rc) (c125 : gi rc 1451 = 125) (dc : dN rc = D + 1) (o41 : ai rc 41 (rsB rc) = nI s) (M : MD rc D c (rsN rc) X) (e41 : ai X 41 = ai rc 41) (lo : wN rc * 120 ≤ s) (ls : s < rsN rc) (n0 : ¬ what = 0) (n8 : ¬ what = 8) (x32 : cnt (ai X 32 s) 4) : OWN X what (nI s) := by
  obtain ⟨-, p2, -, p4⟩ := RIL_pop A c125 (by omega)
  have a3 : ai (clA rc) = ai rc := by unfold clA; rw [ai_adv]; rfl
  refine Or.inr ⟨n0, s, rfl, by rw [M.w]; exact lo, by rw [M.2.2.2.2.2.2.2.1]; exact ls, x32, fun z => absurd z n8, fun j hj => ?_⟩
  have := p4 j (by rw [M.2.2.2.2.2.1] at hj; omega)
  rw [o41] at this
  unfold obN at this ⊢
  rw [a3] at this
  rw [e41, M.2.2.2.2.2.2.1]
  exact this
theorem rsK_if (X : RV) (s : Nat) : rsK X s (lN (kwN 4)) = opB (tI X 19 s (nI 4)) 26 s 2 := by
  have e : lN (kwN 4) = 26982 := by decide +kernel
  rw [e]; rfl
theorem if_fin {h h4 h' : AH} {U D nm l : Nat} {R r rc rd X1 : RV} {G G' : Nat → Nat → Nat} {bs ks ks4 ks' : List Nat} {fS' : Nat → Nat} {u : Nat → Int64} {p : Nat → Option Nat} {x1 : Nat} {y : Option Nat} (A : RIL r) (hr : rng r) (hD : dN r = D) (D0 : 0 < D) (d1 : ¬ gi r 1451 = 125) (EN : ENR r R) (hc : ∀ c, c ∈ cch R (rsB r) → c / 4 < rsN r) (hnm : nm = nmN r) (hl : l = lmB R (rsB r)) (M : MBO h h4 h' U R G G' r rc bs [] ks4 ks' fS' 0 0) (OD : OPD r X1 D 2) (x19 : ai X1 19 (rsN r) = nI 4) (l1 : rsN r + 1 ≤ rsN rc) (l2 : nbN r ≤ nbN rc) (nbR : nbN rc ≤ nbN R) (htp : tp h < tp h4) (htp2 : tp h4 ≤ tp h') (t9 : tg h' (tp h) = 9) (hU : U + 10 ≤ tp h) (F : FO h' 8 (tp h) (vS0 (nI 4) (gi r 1449) (nI nm - 1) (nI l)) u p) (fp : ∀ f, ¬ f = 30809 → ¬ f = 30810 → p f = none) (p9 : p 30809 = some x1) (p10 : p 30810 = y) (g1 : G' 1 (nbN r) = x1)
    (v27 : (ai R 27 (rsN r) = -1 ∧ y = none ∧ bs = [nbN r]) ∨ (∃ b, ai R 27 (rsN r) = nI b ∧ BK R (rsN r) (nI b) 3 0 ∧ y = some (G' 1 b) ∧ bs = [nbN r, b] ∧ b < nbN rc)) (smb : nbN rc < 2 ^ 31) (v28 : ai R 28 (rsN r) = -1) (v29 : ai R 29 (rsN r) = nI 0) (v32 : ai R 32 (rsN r) = nI 0) (pp : plp (gi r 1449)) (w' : wN rd = wN rc) (ns' : nsC rd = nsC rc) (nb' : nbN rd = nbN rc) (qq : qN rc ≤ qN rd) (c1 : CTK ks4 [] ks) (s1 : ∀ c, c ∈ cch R (rsB r) → fI h4 10304 (G 2 c) = fI h 10304 (G 2 c)) : ∃ G'', DPO h h' U R G G'' r rd (tp h) ks ks' fS' := by
  have d0 : 0 < dN r := by omega
  obtain ⟨v20, v21, v22, ew, lb, FR, rl⟩ := st_vals A hr d0 d1 EN
  have sm := small A
  obtain ⟨q1, q2, q3, q4, q5, q6, q7, q8, q9, q10, q11, q12⟩ := OD
  have v19 : ai R 19 (rsN r) = nI 4 := by
    rw [(FR.2.1 19 _ (by omega) rl).1, (q12 19 (by omega) (by omega)).1]; exact x19
  have v26 : ai R 26 (rsN r) = nI (nbN r) := by rw [(FR.2.1 26 _ (by omega) rl).1]; exact q11
  have nk' : ∀ j, j < 20 → ¬ j = 4 → ¬ ai R 19 (rsN r) = nI j := fun j hj hjk e => by
    rw [v19] at e
    have := congrArg tn e
    rw [tn_nI (by omega), tn_nI (by omega)] at this
    omega
  have n1 : ¬ ai R 19 (rsN r) = 1 := nk' 1 (by omega) (by omega)
  have n2 : ¬ ai R 19 (rsN r) = 2 := nk' 2 (by omega) (by omega)
  have n3 : ¬ ai R 19 (rsN r) = 3 := nk' 3 (by omega) (by omega)
  have n7 : ¬ ai R 19 (rsN r) = 7 := nk' 7 (by omega) (by omega)
  have n9 : ¬ ai R 19 (rsN r) = 9 := nk' 9 (by omega) (by omega)
  have n10 : ¬ ai R 19 (rsN r) = 10 := nk' 10 (by omega) (by omega)
  have noN : ¬ hasN R (rsN r) := by
    rintro (z | z)
    · exact n9 z
    · exact n10 z
  have m0 : mpS R (rsN r) = [] := by
    rw [mpS_n v19 (by omega), if_neg (by omega), if_neg (by omega), if_neg (by omega), if_neg (by omega), if_neg (by omega)]
  have wt : wtS R (rsN r) = 0 := by
    unfold wtS
    rw [v29, v32]; rfl
  have c0 : tn (ai R 32 (rsN r)) = 0 := by rw [v32]; rfl
  have c9 : tn (ai R 29 (rsN r)) = 0 := by rw [v29]; rfl
  have hb1 : nbN r < nbN (stpF r) := by omega
  have f40 : ∀ q, 40 ≤ q → q ≤ 43 → ai R q (nbN r) = ai (stpF r) q (nbN r) := fun q h1 h2 => FR.2.2.1 q _ h1 h2 hb1
  have B26 : BK R (rsN r) (ai R 26 (rsN r)) (rol 4) 0 := Or.inr ⟨nbN r, v26, by rw [ew]; exact Nat.le_add_right _ _, by have := FR.1.2.2.1; omega, by rw [f40 40 (by omega) (by omega), q8]; rfl, by rw [f40 41 (by omega) (by omega), q9], by rw [f40 42 (by omega) (by omega), q10]⟩
  have B27 : BK R (rsN r) (ai R 27 (rsN r)) 3 0 := by
    rcases v27 with ⟨z, -⟩ | ⟨b, z, z2, -⟩
    · exact Or.inl z
    · rw [z]; exact z2
  have kd : kids R (rsN r) = bs := by
    unfold kids
    rw [v26, v28, v32, oN_nI sm.2]
    rcases v27 with ⟨z, -, z3⟩ | ⟨b, z, -, -, z3, z4⟩
    · rw [z, z3]; rfl
    · rw [z, oN_nI (by omega), z3]; rfl
  refine mb_fin (G2 := G') (C1 := []) A hr d0 d1 EN hc M (fun _ _ _ => rfl) l1 l2 htp htp2 ?_ ?_ kd ⟨4, v19, by omega, B26, B27, Or.inl v28, fun i hi => by omega, fun z => absurd rfl z, fun _ => ⟨v28, v32⟩, fun _ => by rw [v26]; exact nI_ne_m1 sm.2, fun z => by omega, fun _ _ => v29⟩ ⟨by rw [v20]; exact pp, fun z => ?_, fun i hi => by omega, fun i hi => by omega⟩ (by rw [v29]; exact ⟨rfl, by decide⟩) (by rw [v32]; exact ⟨rfl, by decide⟩) (fun z => absurd z noN) (fun i hi => by omega) w' ns' nb' (by omega) qq c1 (fun a => by rw [m0]; rfl) s1 n3
  · unfold SFF
    rw [M.1.2]
    have f := fun g hg => F g hg
    refine ⟨⟨hU, t9⟩, ⟨?_, ?_, ?_, ?_⟩, fun y => ?_, ?_, ?_, ?_, ?_, ?_, ?_, ?_⟩
    · rw [(f 800 (by decide)).1, v19]; rfl
    · rw [(f 801 (by decide)).1, v20]; rfl
    · rw [(f 802 (by decide)).1, v22, ← hnm]; rfl
    · rw [(f 803 (by decide)).1, v21, tn_nI lb, ← hl]; rfl
    · rcases y with y | y | y
      · exact absurd y n1
      · exact absurd y n2
      · exact absurd y n3
    · rw [(f 807 (by decide)).1, if_neg (fun y => n2 y.1)]; rfl
    · rw [(f 30808 (by decide)).2.2, if_neg]
      · exact fp _ (by decide) (by decide)
      · rintro (y | y)
        · exact n2 y
        · exact n3 y
    · rw [(f 30809 (by decide)).2.2, v26, oN_nI sm.2, p9, ← g1]; rfl
    · rw [(f 30810 (by decide)).2.2, if_neg n9, p10]
      rcases v27 with ⟨z, z2, -⟩ | ⟨b, z, -, z2, z3, z4⟩
      · rw [z, z2]; rfl
      · rw [z, oN_nI (by omega), z2]; rfl
    · rw [if_neg, (f 30811 (by decide)).2.2]
      · exact fp _ (by decide) (by decide)
      · rintro (y | y)
        · exact n9 y
        · exact n10 y
    · rw [(f 30812 (by decide)).2.2, v32, if_neg (by decide)]; exact fp _ (by decide) (by decide)
    · exact ⟨by rw [(f 10813 (by decide)).1, decide_eq_false n7]; rfl, by rw [(f 814 (by decide)).1]; rfl⟩
  · rw [(F 30804 (by decide)).2.2]; exact fp _ (by decide) (by decide)
  · rcases z with z | z | z
    · exact absurd z n1
    · exact absurd z n2
    · exact absurd z n3
