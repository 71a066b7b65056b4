/-! Statements with one block: call, while, for, block -/
theorem one_fin {h h4 h' h'' : AH} {U D n m : Nat} {R r rc r' X1 : RV} {G G' : Nat → Nat → Nat} {x : Nat} {ks ks4 ks' : List Nat} {fS' : Nat → Nat} {E : Nat → Nat → Prop} {what : Int32} {k nm l : Nat} {v' : Nat → Int32} {u : Nat → Int64} (hk : k = 1 ∨ k = 5 ∨ k = 6 ∨ k = 11) (hrol : what = rol k) (A : RIL r) (hr : rng r) (hD : dN r = D) (D0 : 0 < D) (d1 : ¬ gi r 1451 = 125) (OD : OPD r X1 D what) (x19 : ai X1 19 (rsN r) = nI k) (xq : ∀ q, q = 27 ∨ q = 28 ∨ q = 29 ∨ q = 32 → ai X1 q (rsN r) = ai (rsA r) q (rsN r))
    (g : goL D n (stpF r) rc) (ec : gi rc 1452 = -1) (dc : dN rc = D + 1) (gk : goK D m (stpF r) r') (ok' : gi r' 1452 = -1) (a' : ai r' = ai rc) (w' : wN r' = wN rc) (d' : dN r' = D) (q' : qN rc < qN r') (EN : ENR r R) (EN' : ENR r' R) (hc : ∀ c, c ∈ cch R (rsB r) → c / 4 < rsN r) (hnm : nm = nmN r) (hl : l = lmB R (rsB r)) (BP : BPO h4 h' U R (fun q i => if q = 0 ∧ i = rsN r then tp h else G q i) G' (stpF r) rc (nbN r) x ks4 ks' fS') (cc : cch R (nbN r) = cch R (rsB r))
    (X : FX E h' h'') (nX : ∀ g y, tp h4 ≤ y → y < tp h' → E g y → g = 90003) (htp : tp h < tp h4) (htp2 : tp h4 ≤ tp h') (t9 : tg h'' (tp h) = 9) (hU : U + 10 ≤ tp h) (F : FO h'' 8 (tp h) v' u (up1 (fun _ => none) 30809 (some x))) (hv : ∀ f, ¬ f = 806 → v' f = vS0 (nI k) (gi r 1449) (nI nm - 1) (nI l) f) (nam : k = 1 → u 20805 = conv (al R 24 (rsN r)) ∧ WV (al R 24 (rsN r)) ∧ v' 806 = ai R 25 (rsN r) ∧ plp (ai R 25 (rsN r))) (pp : plp (gi r 1449)) (c1 : CTK ks4 [] ks)
    (s1 : ∀ c, c ∈ cch R (rsB r) → fI h4 10304 (G 2 c) = fI h 10304 (G 2 c)) (s2 : ∀ c, c ∈ cch R (rsB r) → fI h'' 10304 (G 2 c) = fI h' 10304 (G 2 c)) : ∃ G'', DPO h h'' U R G G'' r r' (tp h) ks ks' fS' := by
  have d0 : 0 < dN r := by omega
  obtain ⟨v20, v21, v22, ew, lb, FR, rl⟩ := st_vals A hr d0 d1 EN
  have sm := small A
  obtain ⟨q1, q2, q3, q4, q5, q6, q7, q8, q9, q10, q11, q12⟩ := OD
  obtain ⟨z1, z2, z3, OW, FC⟩ := cls_v hD q2 q4 q5 q6 q7 q8 q9 g ec dc sm.1
  obtain ⟨A', F', -⟩ := frk q2 gk ok' (by omega)
  have CL := (st_cls A hr d0 d1 (by rw [hD]; exact gk) ok' (by omega)).1
  obtain ⟨k1, -⟩ := cls_en EN' A' CL
  have nv := new_vals A
  have tl : ∀ q, q = 27 ∨ q = 28 ∨ q = 29 ∨ q = 32 → ai R q (rsN r) = ai (rsA r) q (rsN r) := fun q hq => by
    rw [k1 q hq, a', OW.1 q hq, (q12 q (by omega) (by omega)).1]; exact xq q hq
  have v19 : ai R 19 (rsN r) = nI k := by
    rw [(FR.2.1 19 _ (by omega) rl).1, (q12 19 (by omega) (by omega)).1]; exact x19
  have v26 : ai R 26 (rsN r) = nI (nbN r) := by rw [(FR.2.1 26 _ (by omega) rl).1]; exact q11
  have v27 : ai R 27 (rsN r) = -1 := by rw [tl 27 (by omega)]; exact (nv 27).2.1 (by omega)
  have v28 : ai R 28 (rsN r) = -1 := by rw [tl 28 (by omega)]; exact (nv 28).2.1 (by omega)
  have v29 : ai R 29 (rsN r) = nI 0 := by rw [tl 29 (by omega)]; exact (nv 29).2.2 (by omega)
  have v32 : ai R 32 (rsN r) = nI 0 := by rw [tl 32 (by omega)]; exact (nv 32).2.2 (by omega)
  have nk' : ∀ j, j < 20 → ¬ j = k → ¬ ai R 19 (rsN r) = nI j := fun j hj hjk e => by
    rw [v19] at e
    have := congrArg tn e
    rw [tn_nI (by omega), tn_nI (by omega)] at this
    omega
  have n2 : ¬ ai R 19 (rsN r) = 2 := nk' 2 (by omega) (by omega)
  have n3 : ¬ ai R 19 (rsN r) = 3 := nk' 3 (by omega) (by omega)
  have n7 : ¬ ai R 19 (rsN r) = 7 := nk' 7 (by omega) (by omega)
  have n9 : ¬ ai R 19 (rsN r) = 9 := nk' 9 (by omega) (by omega)
  have n10 : ¬ ai R 19 (rsN r) = 10 := nk' 10 (by omega) (by omega)
  have i1 : ai R 19 (rsN r) = 1 ∨ ai R 19 (rsN r) = 2 ∨ ai R 19 (rsN r) = 3 → k = 1 := fun y => by
    rcases y with y | y | y
    · by_cases w : k = 1
      · exact w
      · exact absurd y (nk' 1 (by omega) (fun q => w q.symm))
    · exact absurd y n2
    · exact absurd y n3
  have FZc := FZ_en EN' A'
  have nbr : nbN r' = nbN rc := by unfold nbN; rw [w', a']
  have nsr : nsC r' = nsC rc := by unfold nsC; rw [w', a']
  have m0 : mpS R (rsN r) = [] := by
    rw [mpS_n v19 (by omega), if_neg (by omega), if_neg (by omega), if_neg (by omega), if_neg (by omega), if_neg (by omega)]
  have wt : wtS R (rsN r) = 0 := by
    unfold wtS
    rw [v29, v32]; rfl
  have o3 := q3.2.2.1
  have wc : wN rc = wN r := FC.1.1.trans (FR.1.1.symm.trans ew)
  have G0 : G' 0 (rsN r) = tp h := by
    rw [(BP.1.1 (rsN r) (by omega)).1]; simp
  have G1 : G' 1 (nbN r) = x := BP.2.2.2.1.1
  refine one_dpo (G2 := G') (C1 := []) (C2 := []) (k := k) (what := what) A hr d0 d1 EN hc q6 q8 q9 q10 q7 cc BP (fun _ _ _ => rfl) FC.1.2.2.1 (by have := FC.1.2.1; omega) (by rw [← nbr]; exact FZc.1.2.2.1) X nX htp htp2 ?_ ?_ v26 v27 v28 v32 (by rw [v29]; exact ⟨rfl, by decide⟩) (fun _ => v29) v19 (by omega) hrol ⟨by rw [v20]; exact pp, fun y => (nam (i1 y)).2.2.2, fun i hi => ?_, fun i hi => ?_⟩ (fun z => by omega) w' nsr nbr (by rw [wt]; omega) wc c1 CTK.rf (fun a => by rw [m0]; rfl) s1 s2
  · unfold SFF
    rw [G0]
    have f := fun g hg => F g hg
    refine ⟨⟨hU, t9⟩, ⟨?_, ?_, ?_, ?_⟩, fun y => ?_, ?_, ?_, ?_, ?_, ?_, ?_, ?_⟩
    · rw [(f 800 (by decide)).1, v19, hv 800 (by decide)]; rfl
    · rw [(f 801 (by decide)).1, v20, hv 801 (by decide)]; rfl
    · rw [(f 802 (by decide)).1, v22, ← hnm, hv 802 (by decide)]; rfl
    · rw [(f 803 (by decide)).1, v21, tn_nI lb, hv 803 (by decide), ← hl]; rfl
    · obtain ⟨y1, y2, y3, -⟩ := nam (i1 y)
      exact ⟨by rw [(f 20805 (by decide)).2.1]; exact y1, y2, by rw [(f 806 (by decide)).1]; exact y3⟩
    · rw [(f 807 (by decide)).1, if_neg (fun y => n2 y.1), hv 807 (by decide)]; rfl
    · rw [(f 30808 (by decide)).2.2, if_neg]
      · rfl
      · rintro (y | y)
        · exact n2 y
        · exact n3 y
    · rw [(f 30809 (by decide)).2.2, v26, oN_nI sm.2]
      show some x = some (G' 1 (nbN r))
      rw [G1]
    · rw [(f 30810 (by decide)).2.2, if_neg n9, v27]; rfl
    · rw [if_neg, (f 30811 (by decide)).2.2]
      · rfl
      · rintro (y | y)
        · exact n9 y
        · exact n10 y
    · rw [(f 30812 (by decide)).2.2, v32, if_neg (by decide)]; rfl
    · exact ⟨by rw [(f 10813 (by decide)).1, hv 10813 (by decide), decide_eq_false n7]; rfl, by rw [(f 814 (by decide)).1, hv 814 (by decide)]; rfl⟩
  · exact (F 30804 (by decide)).2.2
  · rw [v29] at hi; have : tn (nI 0) = 0 := rfl; omega
  · rw [v32] at hi; have : tn (nI 0) = 0 := rfl; omega
