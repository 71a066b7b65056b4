/-! run -/
theorem n_init2 {d : Nat} {h : AH} {Q : Option V → AH → Prop} {x : Nat} {wd : Nat → Int64} {pc : Nat → Int32} {mt : Nat → Option Nat} (h1 : tg h x = 7) (h2 : tp h = x + 1) (h3 : fI h 603 x = 0) (r1 : 3 ≤ rc h) (r2 : 12 ≤ rs h) (H : ∀ h', ND h' x 0 wd pc mt → FX (fun g y => y = x ∧ g / 100 % 100 = 6) h h' → tp h' = x + 4 → rc h' + 3 = rc h → rs h' + 12 = rs h → Q none h') : wp d K_X4_init 0 [] [(0, vr (some x))] h Q := by
  have t0 : tg (newA h 2 4) x = 7 := by rw [tg_newA, if_neg (by omega)]; exact h1
  have t1 : tg (newA (setFP (newA h 2 4) 30600 x (some (tp h))) 1 4) x = 7 := by
    rw [tg_newA, if_neg (by rw [tp_setFP, tp_newA]; omega)]; exact t0
  have t2 : tg (newA (setFP (newA (setFP (newA h 2 4) 30600 x (some (tp h))) 1 4) 30601 x (some (tp h + 1))) 1 4) x = 7 := by
    rw [tg_newA, if_neg (by rw [tp_setFP, tp_newA, tp_setFP, tp_newA]; omega)]; exact t1
  rw [bk_X4_init_0]
  refine ⟨by decide, by omega, by show 4 ≤ _; omega, ?_⟩
  rw [bk_X4_init_5, nn_some]
  refine ⟨t0, by decide, by show 0 < rc h - 1; omega, by show 4 ≤ rs h - 4; omega, ?_⟩
  rw [bk_X4_init_9, nn_some]
  refine ⟨t1, by decide, by show 0 < rc h - 1 - 1; omega, by show 4 ≤ rs h - 4 - 4; omega, ?_⟩
  rw [bk_X4_init_13, nn_some]
  refine ⟨t2, H _ ?_ ?_ ?_ ?_ ?_⟩
  · have n1 : ¬ x = x + 1 + 1 + 1 := by omega
    have n2 : ¬ x = x + 1 + 1 := by omega
    have n3 : ¬ x = x + 1 := by omega
    have n4 : ¬ x + 1 = x + 1 + 1 + 1 := by omega
    have n5 : ¬ x + 2 = x + 1 := by omega
    unfold ND
    simp only [fJ_setFI, fP_setFI, aI_setFI, aJ_setFI, aP_setFI, tg_setFI, ln_setFI, tp_setFI, rc_setFI, rs_setFI, fI_setFJ, fP_setFJ, aI_setFJ, aJ_setFJ, aP_setFJ, tg_setFJ, ln_setFJ, tp_setFJ, rc_setFJ, rs_setFJ, fI_setFP, fJ_setFP, aI_setFP, aJ_setFP, aP_setFP, tg_setFP, ln_setFP, tp_setFP, rc_setFP, rs_setFP, fI_setAI, fJ_setAI, fP_setAI, aJ_setAI, aP_setAI, tg_setAI, ln_setAI, tp_setAI, rc_setAI, rs_setAI, fI_setAJ, fJ_setAJ, fP_setAJ, aI_setAJ, aP_setAJ, tg_setAJ, ln_setAJ, tp_setAJ, rc_setAJ, rs_setAJ, fI_setAP, fJ_setAP, fP_setAP, aI_setAP, aJ_setAP, tg_setAP, ln_setAP, tp_setAP, rc_setAP, rs_setAP, fI_setFI, fJ_setFJ, fP_setFP, aI_setAI, aJ_setAJ, aP_setAP, tg_newO, ln_newO, tp_newO, rc_newO, rs_newO, aI_newO, aJ_newO, aP_newO, fI_newO, fJ_newO, fP_newO, tg_newA, ln_newA, tp_newA, rc_newA, rs_newA, aI_newA, aJ_newA, aP_newA, fI_newA, fJ_newA, fP_newA, h2]
    simp [h1, h3, n1, n2, n3, n4, n5]
    exact rfl
  · refine FX.toFP ?_ _ ⟨rfl, by decide⟩
    refine FX.toA ?_ _ _
    refine FX.toFP ?_ _ ⟨rfl, by decide⟩
    refine FX.toA ?_ _ _
    refine FX.toFP ?_ _ ⟨rfl, by decide⟩
    refine FX.toA ?_ _ _
    exact FX.rf
  · show tp h + 1 + 1 + 1 = x + 4; omega
  · show rc h - 1 - 1 - 1 + 3 = rc h; omega
  · show rs h - 4 - 4 - 4 + 12 = rs h; omega
theorem p_newN {d : Nat} {h : AH} {Q : Option V → AH → Prop} {T U e0 m : Nat} {r : RV} {D l : Nat} {il : Bool} {so : Option Nat} {nm ns B : Nat} {fW fS : Nat → Nat} {ks : List Nat} {wd : Nat → Int64} {pc : Nat → Int32} (E : ES h T U e0 m r D l il so) (L : LST h U e0 nm fW ns fS ks (B + 1)) (H : ∀ h', ES h' T U e0 m r D l il so → LST h' U e0 nm fW ns fS ks B → NDr h' (tp h) 0 m wd pc → FX (fun _ _ => False) h h' → tp h' = tp h + 4 → Q none h') : 0 < rc h ∧ 4 ≤ rs h ∧ tg (newO h 6 4) (tp h) = 7 ∧ wp d K_X4_init 0 [] [(0, vr (some (tp h)))] (newO h 6 4) Q := by
  have room := L.room
  have t7 : tg (newO h 6 4) (tp h) = 7 := by rw [tg_newO, if_pos rfl]
  refine ⟨by omega, by omega, t7, ?_⟩
  refine n_init2 (wd := wd) (pc := pc) (mt := fun _ => none) t7 (tp_newO h 6 4) ((FO.new h 6 4) 603 (by decide)).1 (by rw [rc_newO]; omega) (by rw [rs_newO]; omega) (fun h' D0 x t1 t2 t3 => ?_)
  rw [rc_newO] at t2
  rw [rs_newO] at t3
  have x0 : FX (fun g y => y = tp h ∧ g / 100 % 100 = 6) h (newO h 6 4) := FX.O (by omega)
  have X : FX (fun _ _ => False) h h' := (x0.tr x).less (fun g y hy z => by omega) (fun y h1 h2 => by omega) (fun y h1 h2 => by omega)
  exact H h' (E.nw X (fun _ _ z => z.elim)) (LST.nw 1 L X (fun _ _ z => z.elim) (by omega) (by omega)) ⟨D0, fun j hj => by omega⟩ X t1
theorem run_fin {h h4 h' h'' : AH} {U D n m N k : Nat} {R r rc r' X1 : RV} {G G' : Nat → Nat → Nat} {x : Nat} {ks ks4 ks' ks'' : List Nat} {fS' : Nat → Nat} {E : Nat → Nat → Prop} {nm l : Nat} (A : RIL r) (hr : rng r) (hD : dN r = D) (D0 : 0 < D) (d1 : ¬ gi r 1451 = 125) (OD : OPD r X1 D 8) (x19 : ai X1 19 (rsN r) = nI 10) (xq : ∀ q, q = 27 ∨ q = 28 ∨ q = 32 → ai X1 q (rsN r) = ai (rsA r) q (rsN r))
    (g : goL D n (stpF r) rc) (ec : gi rc 1452 = -1) (dc : dN rc = D + 1) (gk : goK D m (stpF r) r') (ok' : gi r' 1452 = -1) (a' : ∀ q, ¬ q = 29 → ¬ q = 31 → ai r' q = ai rc q) (w' : wN r' = wN rc) (d' : dN r' = D) (q' : qN rc + 2 * k < qN r') (EN : ENR r R) (EN' : ENR r' R) (hc : ∀ c, c ∈ cch R (rsB r) → c / 4 < rsN r) (hnm : nm = nmN r) (hl : l = lmB R (rsB r)) (BP : BPO h4 h' U R (fun q i => if q = 0 ∧ i = rsN r then tp h else G q i) G' (stpF r) rc (nbN r) x ks4 ks' fS') (cc : cch R (nbN r) = cch R (rsB r))
    (X : FX E h' h'') (nX : ∀ g y, tp h4 ≤ y → y < tp h' → E g y → g = 90003) (htp : tp h < tp h4) (htp2 : tp h4 ≤ tp h') (t9 : tg h'' (tp h) = 9) (hU : U + 10 ≤ tp h) (F : FO h'' 8 (tp h) (vS0 (nI 10) (gi r 1449) (nI nm - 1) (nI l)) (fun _ => 0) (up1 (up1 (fun _ => none) 30809 (some x)) 30811 (some N))) (pp : plp (gi r 1449)) (c1 : CTK ks4 [] ks)
    (s1 : ∀ c, c ∈ cch R (rsB r) → fI h4 10304 (G 2 c) = fI h 10304 (G 2 c)) (s2 : ∀ c, c ∈ cch R (rsB r) → fI h'' 10304 (G 2 c) = fI h' 10304 (G 2 c))
    (v29 : ai R 29 (rsN r) = nI k) (k4 : k ≤ 4) (nd : ND h'' N k (fun i => conv (al R 30 (4 * rsN r + i))) (fun i => ai R 31 (4 * rsN r + i)) (fun i => kN R (wN R) (nkN R) (al R 30 (4 * rsN r + i)) (ai R 31 (4 * rsN r + i)))) (wv : ∀ i, i < k → WV (al R 30 (4 * rsN r + i))) (pls : ∀ i, i < k → plp (ai R 31 (4 * rsN r + i))) (hN : tp h' ≤ N ∧ N + 3 < tp h'') (c2 : CTK ks'' (mpS R (rsN r)) ks') : ∃ G'', DPO h h'' U R G G'' r r' (tp h) ks ks'' fS' := by
  have d0 : 0 < dN r := by omega
  obtain ⟨v20, v21, v22, ew, lb, FR, rl⟩ := st_vals A hr d0 d1 EN
  have sm := small A
  obtain ⟨q1, q2, q3, q4, q5, q6, q7, q8, q9, q10, q11, q12⟩ := OD
  obtain ⟨z1, z2, z3, OW, FC⟩ := cls_v hD q2 q4 q5 q6 q7 q8 q9 g ec dc sm.1
  obtain ⟨A', F', -⟩ := frk q2 gk ok' (by omega)
  have CL := (st_cls A hr d0 d1 (by rw [hD]; exact gk) ok' (by omega)).1
  obtain ⟨k1, -⟩ := cls_en EN' A' CL
  have nv := new_vals A
  have tl : ∀ q, q = 27 ∨ q = 28 ∨ q = 32 → ai R q (rsN r) = ai (rsA r) q (rsN r) := fun q hq => by
    rw [k1 q (by omega), a' q (by omega) (by omega), OW.1 q (by omega), (q12 q (by omega) (by omega)).1]; exact xq q hq
  have v19 : ai R 19 (rsN r) = nI 10 := by
    rw [(FR.2.1 19 _ (by omega) rl).1, (q12 19 (by omega) (by omega)).1]; exact x19
  have v26 : ai R 26 (rsN r) = nI (nbN r) := by rw [(FR.2.1 26 _ (by omega) rl).1]; exact q11
  have v27 : ai R 27 (rsN r) = -1 := by rw [tl 27 (by omega)]; exact (nv 27).2.1 (by omega)
  have v28 : ai R 28 (rsN r) = -1 := by rw [tl 28 (by omega)]; exact (nv 28).2.1 (by omega)
  have v32 : ai R 32 (rsN r) = nI 0 := by rw [tl 32 (by omega)]; exact (nv 32).2.2 (by omega)
  have i10 : ai R 19 (rsN r) = 10 := v19
  have n1 : ¬ ai R 19 (rsN r) = 1 := by rw [i10]; decide
  have n2 : ¬ ai R 19 (rsN r) = 2 := by rw [i10]; decide
  have n3 : ¬ ai R 19 (rsN r) = 3 := by rw [i10]; decide
  have n7 : ¬ ai R 19 (rsN r) = 7 := by rw [i10]; decide
  have n9 : ¬ ai R 19 (rsN r) = 9 := by rw [i10]; decide
  have FZc := FZ_en EN' A'
  have nbr : nbN r' = nbN rc := by unfold nbN; rw [w', a' 39 (by omega) (by omega)]
  have nsr : nsC r' = nsC rc := by unfold nsC; rw [w', a' 18 (by omega) (by omega)]
  have tk : tn (ai R 29 (rsN r)) = k := by rw [v29, tn_nI (by omega)]
  have wt : wtS R (rsN r) = 2 * k := by
    unfold wtS
    rw [tk, v32]; rfl
  have o3 := q3.2.2.1
  have wc : wN rc = wN r := FC.1.1.trans (FR.1.1.symm.trans ew)
  have ge : ∀ q i, ¬ (q = 6 ∧ i = rsN r) → (fun q i => if q = 6 ∧ i = rsN r then N else G' q i) q i = G' q i := fun q i hq => if_neg hq
  have G0 : (fun q i => if q = 6 ∧ i = rsN r then N else G' q i) 0 (rsN r) = tp h := by
    rw [ge 0 _ (fun z => absurd z.1 (by decide)), (BP.1.1 (rsN r) (by omega)).1]; simp
  have G1 : (fun q i => if q = 6 ∧ i = rsN r then N else G' q i) 1 (nbN r) = x := by
    rw [ge 1 _ (fun z => absurd z.1 (by decide))]; exact BP.2.2.2.1.1
  have G6 : (fun q i => if q = 6 ∧ i = rsN r then N else G' q i) 6 (rsN r) = N := if_pos ⟨rfl, rfl⟩
  refine one_dpo (G2 := fun q i => if q = 6 ∧ i = rsN r then N else G' q i) (C1 := []) (C2 := mpS R (rsN r)) (k := 10) (what := 8) A hr d0 d1 EN hc q6 q8 q9 q10 q7 cc BP ge FC.1.2.2.1 (by have := FC.1.2.1; omega) (by rw [← nbr]; exact FZc.1.2.2.1) X nX htp htp2 ?_ ?_ v26 v27 v28 v32 (by rw [v29]; exact ⟨by rw [tn_nI (by omega)], by rw [tn_nI (by omega)]; omega⟩) (fun z => absurd rfl z) v19 (by omega) rfl ⟨by rw [v20]; exact pp, fun y => ?_, fun i hi => pls i (by omega), fun i hi => ?_⟩ (fun _ => by rw [if_pos ⟨rfl, rfl⟩]; exact hN) w' nsr nbr (by rw [wt]; omega) wc c1 c2 (fun a => by simp) s1 s2
  · unfold SFF
    rw [G0, G6]
    have f := fun g hg => F g hg
    refine ⟨⟨hU, t9⟩, ⟨?_, ?_, ?_, ?_⟩, fun y => ?_, ?_, ?_, ?_, ?_, ?_, ?_, ?_⟩
    · rw [(f 800 (by decide)).1, v19]; rfl
    · rw [(f 801 (by decide)).1, v20]; rfl
    · rw [(f 802 (by decide)).1, v22, ← hnm]; rfl
    · rw [(f 803 (by decide)).1, v21, tn_nI lb, ← hl]; rfl
    · rcases y with y | y | y
      · exact absurd y n1
      · exact absurd y n2
      · exact absurd y n3
    · rw [(f 807 (by decide)).1, if_neg (fun y => n2 y.1)]; rfl
    · rw [(f 30808 (by decide)).2.2, if_neg]
      · rfl
      · rintro (y | y)
        · exact n2 y
        · exact n3 y
    · rw [(f 30809 (by decide)).2.2, v26, oN_nI sm.2]
      show some x = some ((fun q i => if q = 6 ∧ i = rsN r then N else G' q i) 1 (nbN r))
      rw [G1]
    · rw [(f 30810 (by decide)).2.2, if_neg n9, v27]; rfl
    · rw [if_pos (Or.inr i10), tk]
      refine ⟨by rw [(f 30811 (by decide)).2.2]; rfl, ?_, wv, fun z => absurd z n9⟩
      exact nd.cg (fun i hi => ⟨rfl, rfl, by rw [if_neg n9]⟩)
    · rw [(f 30812 (by decide)).2.2, v32, if_neg (by decide)]; rfl
    · exact ⟨by rw [(f 10813 (by decide)).1, decide_eq_false n7]; rfl, by rw [(f 814 (by decide)).1]; rfl⟩
  · rw [(F 30804 (by decide)).2.2]; rfl
  · rcases y with y | y | y
    · exact absurd y n1
    · exact absurd y n2
    · exact absurd y n3
  · rw [v32] at hi; have : tn (nI 0) = 0 := rfl; omega
