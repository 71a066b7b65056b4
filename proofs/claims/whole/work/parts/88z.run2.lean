theorem rsK_run (X : RV) (s : Nat) : rsK X s (lN (kwN 10)) = opB (tI X 19 s (nI 10)) 26 s 8 := by
  have e : lN (kwN 10) = 7501166 := by decide +kernel
  rw [e]; rfl
theorem flr_cg {f g : Nat → List Nat} : ∀ m k, (∀ i, k ≤ i → i < k + m → f i = g i) → flr f m k = flr g m k := by
  intro m
  induction m with
  | zero => intro k _; rfl
  | succ m ih =>
    intro k H
    rw [flr, flr, H k (by omega) (by omega), ih (k + 1) (fun i h1 h2 => H i (by omega) (by omega))]
theorem sc_10 {D : Nat} (HB : BLC D) : SC D 10 := by
  intro d h h3 Q T U e0 l il so sc r R nk par wk pk nm fW fS ks B B0 G hd A hr hD D0 d1 hl CH hsc K hs hn E3 L3 hU X3 t9 ⟨htp, ntg⟩ F3 cr hB0 DP H
  obtain ⟨d, rfl⟩ : ∃ j, d = j + 10 := ⟨d - 10, by omega⟩
  have d0 : 0 < dN r := by omega
  have D8 := A.d.2
  have c9 := E3.1.2.2.2.2.2.2.2.2.1
  obtain ⟨tk, k10⟩ := srt_kw hs (by omega)
  obtain ⟨p, g1, g2, g3⟩ := E3.pl
  have pq : gi r 1449 = nI p := by rw [← (E3.2.2.2.2 hr.1).1.2.1]; exact g1
  have cg := cr_ge A cr hB0
  obtain ⟨B, rfl⟩ : ∃ b, B = b + 1 := ⟨B - 1, by omega⟩
  obtain ⟨st, ne, n120⟩ := stp_kw A d0 d1 hs (by omega) hn
  rw [rsK_run] at st
  obtain ⟨M1, ho⟩ := MD_rsA (MD.start A hr.1) d0 n120
  have M2 := M1.adv (by rw [gi_rsA]; exact ne)
  have M3 : MD r (dN r) (0 + 1) (rsN r + 1) (tI (advF (rsA r)) 19 (rsN r) (nI 10)) := MDtI M2 _ _ (by decide)
  have te : TE (advF r) (tI (advF (rsA r)) 19 (rsN r) (nI 10)) := (TE_rsA.adv).tr (TE_tI (by decide))
  have er : gi (advF r) 1452 = -1 := by rw [gi_adv]; exact hr.1
  have nv := new_vals A
  have x19 : ai (tI (advF (rsA r)) 19 (rsN r) (nI 10)) 19 (rsN r) = nI 10 := by rw [ai_tI, if_pos ⟨rfl, rfl⟩]
  have xq : ∀ q, ¬ q = 19 → ai (tI (advF (rsA r)) 19 (rsN r) (nI 10)) q = ai (rsA r) q := fun q hq => by rw [ai_ne hq, ai_adv]
  have ow : OWN (tI (advF (rsA r)) 19 (rsN r) (nI 10)) 8 (nI (rsN r)) := own_of M3 (by decide) (by rw [xq 32 (by decide), (nv 32).2.2 (by omega)]; exact ⟨rfl, by decide⟩) (fun _ => by rw [xq 29 (by decide)]; exact (nv 29).2.2 (by omega)) (xq 41 (by decide)) (xq 46 (by decide)) ho
  have q1 : qN r + 1 ≤ qN (tI (advF (rsA r)) 19 (rsN r) (nI 10)) := M3.2.2.2.2.2.2.2.2
  rw [if_neg (by omega), bk_X5_takeStatement_47]
  refine ⟨c9, p_take E3 (by omega) (fun h4 E4 w4 => ?_)⟩
  rw [decide_eq_true tk, gT_t hr.1] at E4
  simp only [psh]
  refine st_sw (by omega) ?_
  have e : (if (10 : Nat) = 0 then 80 else swAt [68, 68, 68, 52, 57, 57, 72, 80, 63, 76] (10 - 1) 80) = 76 := rfl
  rw [e]
  have L4 := L3.pw w4
  have t94 : tg h4 (tp h) = 9 := by rw [w4.1.tg htp]; exact t9
  have htp4 : tp h < tp h4 := by rw [w4.2.1]; exact htp
  have F4 := F3.fx w4.1 htp (fun f hf => EPW_no (by omega))
  have X4 : FX (ENX T U e0 (tp h)) h h4 := (X3.mono (fun _ _ z => Or.inr z)).tr (w4.1.mono (fun _ _ z => Or.inl z))
  have CH4 : CHN h4 U sc so := CHN.ep CH (w4.ep (e0 := e0) (sc := sc))
  have K4 : KD h4 (U + 1) nk par wk pk := K.ep (w4.ep (e0 := e0) (sc := sc)) (by have := E3.1.2.1; omega) L3.e0 (fun a m => (hsc a m).2)
  have c94 := E4.1.2.2.2.2.2.2.2.2.1
  have X4' : FX (EPn T U e0 (tp h) sc) h h4 := ENX_en X4
  have s4 : ∀ a, a < tp h → fI h4 10304 a = fI h 10304 a := fun a ha => X4.fI (by omega) (ENX_set (by omega))
  have sf4 : ENR r R → ∀ c, c ∈ cch R (rsB r) → SCF h4 R G c := fun EN c m => by
    have P := DP EN
    have hm : G 2 c ∈ sc := by rw [P.2.2.2.1]; exact List.mem_map.mpr ⟨c, m, rfl⟩
    have hm2 := hsc _ hm
    have h33 := X3.1
    exact (P.2.2.2.2.1 c m).1.pw w4 (by omega)
  have E5 := E4.te (TEW.of te (by rw [M3.2.1]; exact er.symm))
  have len := rt_len A.1
  -- a wrong text at the end
  have BAD : ∀ (hE : AH) rw ks' B' ns' fS' n, goK D n (stpF r) rw → ¬ gi rw 1452 = -1 → FX (EPn T U e0 (tp h) sc) h hE → ES hE T U e0 1 rw D l il so → LST hE U e0 nm fW ns' fS' ks' B' → (∀ k, k < nsC r → fS' k = fS k) → B0 + D ≤ B' + 3 * tn (gi r 1448) + 20 → tg hE (tp h) = 9 → tp h < tp hE → wp (d + 10) K_X5_takeStatement 79 [] [(0, vr (some (U + 9))), (1, vi (nI 10)), (2, vr (some (tp h)))] hE Q := by
    intro hE rw ks' B' ns' fS' n gk bad X E L fk crw t htp
    rw [bk_X5_takeStatement_79, bk_X5_takeStatement_80]
    refine ⟨E.1.2.2.2.2.2.2.2.2.1, ?_⟩
    rw [show vi 24 = vi (nI 24) from rfl]
    refine p_take E (by omega) (fun h7 E7 w7 => ?_)
    simp only [psh, bk_X5_takeStatement_83]
    have e6 : ∀ c, gT c rw = rw := fun c => by unfold gT; rw [if_neg bad]
    rw [e6] at E7
    exact H h7 rw ks' B' ns' fS' n gk E7 (EPn_end (X.tr (w7.1.mono (fun _ _ z => Or.inl (EPW_a z))))) (L.pw w7) fk (fun z => absurd z bad) (fun _ => crw) ⟨by rw [w7.1.tg htp]; exact t, by rw [w7.2.1]; exact htp⟩ (fun EN => absurd ((EN.step hr).go (goK_N gk)).right bad)
  rw [bk_X5_takeStatement_76]
  refine ⟨c94, ?_⟩
  rw [bk_X5_takeRun_0]
  refine ⟨c94, st_lambda (d := d + 7) (R := R) (h := h) (h3 := h3) (G := G) (wk := wk) (fS := fS) (what := 8) HB (by omega) A hr hD D0 d1 hl M3 ow (Or.inr rfl) st E5 CH4 K4 L4 (by omega) hB0 (fun a m => (hsc a m).2) DP sf4 ?_ ?_⟩
  · intro h6 h' h1 rc x ks' B' ns' fS' n xm tpm OD g Ac ec c125 dc Xc k4 tp1 E1 L1 ens fk crc tx BP
    have sm := small A
    obtain ⟨a1, a2, a3, a4, a5, a6, a7, a8, a9, a10, a11⟩ := cla_v Ac ec c125 dc
    obtain ⟨q1, q2, q3, q4, q5, q6, q7, q8, q9, q10, q11, q12⟩ := id OD
    obtain ⟨z1, z2, z3, OW, FC⟩ := cls_v hD q2 q4 q5 q6 q7 q8 q9 g ec dc sm.1
    have cl : stpF rc = if gl (clA rc) 21450 = 127991945328499 then (arF (clA rc) (rsN r) 59).1 else takF (clA rc) 59 := by
      rw [close_is c125 (by omega), z2, z3]
      rfl
    have gk : goK D (n + 1) (stpF r) (stpF rc) := goK_tr (m := 1) (goL_K g) ⟨rng_in ec (by omega), RIL_pre Ac, by omega, rfl⟩
    have ln := rt_len a1.1
    rw [a11.2.1, gi_adv, FC.1.2.2.2.2.1, q3.2.1] at ln
    obtain ⟨B', rfl⟩ : ∃ b, B' = b + 6 := ⟨B' - 6, by omega⟩
    have htp6 : tp h6 ≤ tp h' := Xc.1
    have t96 : tg h6 (tp h) = 9 := by rw [xm.tg htp4]; exact t94
    have t9' : tg h' (tp h) = 9 := by rw [Xc.tg (by omega)]; exact t96
    have t91 : tg h1 (tp h) = 9 := by rw [k4.tg (by omega)]; exact t9'
    have F1 := ((F4.fx xm htp4 (fun f hf z => by omega)).fx Xc (by omega) (fun f hf => EPa_no (by omega))).fx k4 (by omega) (fun f hf z => by omega)
    have X06 : FX (EPn T U e0 (tp h) sc) h h' := (X4'.tr (xm.mono (fun g y z => Or.inl (Or.inr (Or.inr (Or.inr ⟨z.1, by omega⟩)))))).tr (EPa_en Xc)
    -- the end, from the state Z of the reference that the class has reached
    have FIN : ∀ (hE : AH) (a Z : RV) (k : Nat) ks2 B2, ES hE T U e0 1 a D l il so → LST hE U e0 nm fW ns' fS' ks2 B2 → FX (fun g y => MK U g y ∨ EPW T U g y ∨ ELs U e0 g y ∨ (y = tp h ∧ g / 100 % 100 = 8) ∨ (tp h' ≤ y ∧ (g / 100 % 100 = 6 ∨ g = 90001))) h' hE → tp h' + 4 ≤ tp hE → tg hE (tp h) = 9 → FO hE 8 (tp h) (vS0 (nI 10) (gi r 1449) (nI nm - 1) (nI l)) (fun _ => 0) (up1 (up1 (fun _ => none) 30809 (some x)) 30811 (some (tp h'))) → TE a Z → gi a 1452 = -1 → gi Z 1452 = -1 → RIL Z → stpF rc = takF Z 59 → wN Z = wN rc → dN Z = D → gi Z 1448 = gi r 1448 → (∀ q, ¬ q = 29 → ¬ q = 31 → ai Z q = ai rc q) → qN rc + 1 + 2 * k ≤ qN Z → B0 ≤ B2 + 1 + 3 * qN Z → (ENR r R → ENR (stpF rc) R → RIL (stpF rc) → stpF rc = advF Z → ai R 29 (rsN r) = ai Z 29 (rsN r) → (∀ q j, q = 30 ∨ q = 31 → j < 4 → ai R q (4 * rsN r + j) = ai Z q (4 * rsN r + j) ∧ al R q (4 * rsN r + j) = al Z q (4 * rsN r + j)) → ai R 29 (rsN r) = nI k ∧ k ≤ 4 ∧ ND hE (tp h') k (fun i => conv (al R 30 (4 * rsN r + i))) (fun i => ai R 31 (4 * rsN r + i)) (fun i => kN R (wN R) (nkN R) (al R 30 (4 * rsN r + i)) (ai R 31 (4 * rsN r + i))) ∧ (∀ i, i < k → WV (al R 30 (4 * rsN r + i))) ∧ (∀ i, i < k → plp (ai R 31 (4 * rsN r + i))) ∧ CTK ks2 (mpS R (rsN r)) ks') → wp (d + 10) K_X5_takeStatement 79 [] [(0, vr (some (U + 9))), (1, vi (nI 10)), (2, vr (some (tp h)))] hE Q := by
      intro hE a Z k ks2 B2 EE LE XE tE tgE FE teE ea eZ AZ cz wZ dZ lZ aZ qZ crE DAT
      rw [bk_X5_takeStatement_79, bk_X5_takeStatement_80]
      refine ⟨EE.1.2.2.2.2.2.2.2.2.1, ?_⟩
      rw [show vi 24 = vi (nI 24) from rfl]
      refine p_take EE (by omega) (fun h7 E7 w7 => ?_)
      simp only [psh, bk_X5_takeStatement_83]
      have L7 := LE.pw w7
      have F7 := FE.fx w7.1 (by omega) (fun f hf => EPW_no (by omega))
      have X7 := XE.tr (w7.1.mono (fun _ _ z => Or.inr (Or.inl z)))
      have t97 : tg h7 (tp h) = 9 := by rw [w7.1.tg (by omega)]; exact tgE
      have tp7 : tp h7 = tp hE := w7.2.1
      have XX : FX (EPn T U e0 (tp h) sc) h h7 := X06.tr (X7.mono (fun g y z => by
        rcases z with z | z | z | z | z
        · exact Or.inl (Or.inr (Or.inr (Or.inr ⟨z.1, by omega⟩)))
        · exact Or.inl (EPW_a z)
        · exact Or.inl (Or.inr (Or.inl z))
        · exact Or.inr ⟨by omega, by omega⟩
        · exact Or.inr ⟨by omega, by omega⟩))
      have RTa := (EE.2.2.2.2 ea).2
      obtain ⟨tw, ok⟩ := tak_tew teE ea eZ RTa (c := 59) (t := 24) (by decide) rfl
      rw [← cz] at tw ok
      have fin : gi (stpF rc) 1452 = -1 → stpF rc = advF Z := fun w => by
        rw [cz]; unfold takF; rw [if_pos (teE.2.2.2.1.trans (ok.mp w))]
      have w2 : wN (advF Z) = wN rc := by unfold wN; rw [gi_adv]; exact wZ
      have d2 : dN (advF Z) = D := by unfold dN; rw [gi_adv]; exact dZ
      have e1 : rsN r = wN r * 120 + nsC r := rfl
      have lz := rt_len AZ.1
      rw [lZ] at lz
      refine H h7 (stpF rc) ks2 B2 ns' fS' (n + 1) gk (E7.te tw) (EPn_end XX) L7 fk (fun w => ?_) (fun w => by omega) ⟨t97, by omega⟩ (fun EN => ?_)
      · have aq := (AZ.adv_q).2 (by rw [teE.2.2.2.1.trans (ok.mp w)]; decide)
        rw [fin w]
        have wF := FC.1.1
        have w3 : wN (stpF r) = wN r := by unfold wN; rw [q3.1]
        have e2 : rsN rc = wN rc * 120 + nsC rc := rfl
        have := FC.1.2.1
        rw [wF, w3] at e2
        have ens2 : nsC (advF Z) = nsC rc := by unfold nsC; rw [w2, ai_adv, aZ 18 (by decide) (by decide)]
        exact ⟨by rw [ens2]; exact ens, by omega, by omega, d2⟩
      · obtain ⟨ENc, G', bp, cc⟩ := BP EN
        have P := DP EN
        have EN' : ENR (stpF rc) R := ENc.step (rng_in ec (by omega))
        have w := EN'.right
        have aq := (AZ.adv_q).2 (by rw [teE.2.2.2.1.trans (ok.mp w)]; decide)
        have fe := fin w
        obtain ⟨A', F', -⟩ := frk q2 gk w (by omega)
        have CL := (st_cls A hr d0 d1 (by rw [hD]; exact gk) w (by rw [fe, d2, hD])).1
        obtain ⟨k1, k2⟩ := cls_en EN' A' CL
        obtain ⟨v29, k44, nd, wv, pls, c2⟩ := DAT EN EN' A' fe (by rw [k1 29 (by omega), fe, ai_adv]) (fun q j hq hj => by
          have := k2 q j hq hj
          rw [fe, ai_adv, al_adv] at this
          exact this)
        refine ⟨EN', run_fin (k := k) (N := tp h') (l := l) (nm := nm) (X1 := tI (advF (rsA r)) 19 (rsN r) (nI 10)) (rc := rc) A hr hD D0 d1 OD x19 (fun q hq => by rw [xq q (by omega)]) g ec dc gk w (fun q hq hq2 => by rw [fe, ai_adv]; exact aZ q hq hq2) (by rw [fe]; exact w2) (by rw [fe]; exact d2) (by rw [fe]; omega) EN EN' (fun c m => (P.2.2.2.2.1 c m).2) P.2.1 P.2.2.2.2.2.1 bp cc X7 (fun g y h1 h2 z => ?_) (by omega) htp6 t97 hU F7 ⟨p, pq, by omega, by omega⟩ CTK.rf (fun c m => ?_) (fun c m => ?_) v29 k44 (nd.fx w7.1 (fun q _ => EPW_no (by omega)) (EPW_no (by omega)) (EPW_no (by omega)) (EPW_no (by omega))) wv pls ⟨Nat.le_refl _, by omega⟩ c2⟩
        · have := E4.1.2.1
          rcases z with z | z | z | z | z
          · omega
          · rcases z with z | z
            · have := z.1; omega
            · omega
          · rcases z with z | z <;> omega
          · omega
          · omega
        · have hm : G 2 c ∈ sc := by rw [P.2.2.2.1]; exact List.mem_map.mpr ⟨c, m, rfl⟩
          have hm2 := hsc _ hm
          rw [xm.fI (by omega) (fun z => by omega)]
          exact s4 _ (by omega)
        · have hm : G 2 c ∈ sc := by rw [P.2.2.2.1]; exact List.mem_map.mpr ⟨c, m, rfl⟩
          have hm2 := hsc _ hm
          refine X7.fI (by omega) (fun z => ?_)
          rcases z with z | z | z | z | z
          · omega
          · exact EPW_no (by omega) z
          · exact ELs_no (by omega) z
          · omega
          · omega
    have E2 := E1.fp (f := 30809) (x := tp h) (some x) hU (by decide)
    have L2 := LST.fp L1 (f := 30809) (x := tp h) (some x) hU (by decide)
    have F2 := F1.sP 30809 (some x)
    have X2 : FX (fun g y => MK U g y ∨ EPW T U g y ∨ ELs U e0 g y ∨ (y = tp h ∧ g / 100 % 100 = 8) ∨ (tp h' ≤ y ∧ (g / 100 % 100 = 6 ∨ g = 90001))) h' (setFP h1 30809 (tp h) (some x)) := (k4.mono (fun _ _ z => Or.inl z)).toFP _ (Or.inr (Or.inr (Or.inr (Or.inl ⟨rfl, by decide⟩))))
    have t92 : tg (setFP h1 30809 (tp h) (some x)) (tp h) = 9 := t91
    have tp2 : tp (setFP h1 30809 (tp h) (some x)) = tp h' := tp1
    simp only [psh, bk_X5_takeRun_3, nn_some]
    generalize setFP h1 30809 (tp h) (some x) = h2 at *
    have x29 : ai (clA rc) 29 (rsN r) = nI 0 := by
      rw [a3, OW.1 29 (by omega), (q12 29 (by omega) (by omega)).1, xq 29 (by decide)]; exact (nv 29).2.2 (by omega)
    have kw16 : lN (kwN 16) = 127991945328499 := by decide +kernel
    have l3 : gi (clA rc) 1448 = gi r 1448 := by rw [a11.2.1, gi_adv, FC.1.2.2.2.2.1, q3.2.1]
    obtain ⟨m1, m2, m3, m4⟩ := p_newN (d := d + 8) (Q := fun v h1 => wp (d + 9) K_X5_takeRun 8 (psh v [vr (some (tp h2)), vr (some (tp h))]) [(0, vr (some (U + 9))), (1, vr (some (tp h)))] h1 (fun v h1 => wp (d + 10) K_X5_takeStatement 79 (psh v []) [(0, vr (some (U + 9))), (1, vi (nI 10)), (2, vr (some (tp h)))] h1 Q)) (wd := fun _ => 0) (pc := fun _ => 0) (B := B' + 5) E2 L2 (fun h5 E6 L6 N6 X6 tp6 => by
      simp only [psh, bk_X5_takeRun_8, nn_some]
      have t96 : tg h5 (tp h) = 9 := by rw [X6.tg (by omega)]; exact t92
      have E7 := E6.fp (f := 30811) (x := tp h) (some (tp h2)) hU (by decide)
      have L7 := LST.fp L6 (f := 30811) (x := tp h) (some (tp h2)) hU (by decide)
      have F7 := (F2.fx X6 (by omega) (fun f hf z => z)).sP 30811 (some (tp h2))
      have X7 : FX (fun g y => MK U g y ∨ EPW T U g y ∨ ELs U e0 g y ∨ (y = tp h ∧ g / 100 % 100 = 8) ∨ (tp h' ≤ y ∧ (g / 100 % 100 = 6 ∨ g = 90001))) h' (setFP h5 30811 (tp h) (some (tp h2))) := (X2.tr (X6.mono (fun _ _ z => z.elim))).toFP _ (Or.inr (Or.inr (Or.inr (Or.inl ⟨rfl, by decide⟩))))
      have N7 : NDr (setFP h5 30811 (tp h) (some (tp h2))) (tp h2) 0 1 (fun _ => 0) (fun _ => 0) := ⟨N6.1.fx (FX.FP (E := fun g y => g = 30811 ∧ y = tp h) ⟨rfl, rfl⟩) (fun q _ z => by omega) (fun z => by omega) (fun z => by omega) (fun z => by omega), fun j hj => by omega⟩
      have t97 : tg (setFP h5 30811 (tp h) (some (tp h2))) (tp h) = 9 := t96
      have tp7 : tp (setFP h5 30811 (tp h) (some (tp h2))) = tp h5 := rfl
      have p7 : fP (setFP h5 30811 (tp h) (some (tp h2))) 30811 (tp h) = some (tp h2) := (F7 30811 (by decide)).2.2.trans (if_pos rfl)
      generalize setFP h5 30811 (tp h) (some (tp h2)) = h7 at *
      rw [tp2] at *
      refine ⟨t96, E7.1.2.2.2.2.2.2.2.2.1, ?_⟩
      rw [show vi 16 = vi (nI 16) from rfl]
      refine p_skip (d := d + 2) E7 (by omega) (fun _ t16 h8 E8 w8 => ?_) (fun n16 => ?_)
      · simp only [psh]
        rw [bk_X5_takeRun_12]
        refine ⟨fun z => absurd z (by decide), fun _ => ?_⟩
        have er8 : gi (advF (clA rc)) 1452 = -1 := by rw [gi_adv]; exact a2
        have L8 := L7.pw w8
        have t98 : tg h8 (tp h) = 9 := by rw [w8.1.tg (by omega)]; exact t97
        have F8 := F7.fx w8.1 (by omega) (fun f hf => EPW_no (by omega))
        have N8 := N7.1.fx w8.1 (fun q _ => EPW_no (by omega)) (EPW_no (by omega)) (EPW_no (by omega)) (EPW_no (by omega))
        have p8 : fP h8 30811 (tp h) = some (tp h') := (F8 30811 (by decide)).2.2.trans (if_pos rfl)
        have tp8 := w8.2.1
        have E8m : ES h8 T U e0 (qN (advF (clA rc))) (advF (clA rc)) D l il so := by
          obtain ⟨y1, y2, y3, ⟨p, y4, y5, y6⟩, y7⟩ := E8
          have y8 := (y7 er8).1.2.1
          have : qN (advF (clA rc)) = p := by unfold qN; rw [← y8, y4, tn_nI (by omega)]
          exact ⟨y1, y2, y3, ⟨p, y4, by omega, y6⟩, y7⟩
        have c98 := E8.1.2.2.2.2.2.2.2.2.1
        have EN5 : ∀ g y, ENN T U (tp h') g y → (MK U g y ∨ EPW T U g y ∨ ELs U e0 g y ∨ (y = tp h ∧ g / 100 % 100 = 8) ∨ (tp h' ≤ y ∧ (g / 100 % 100 = 6 ∨ g = 90001))) := fun g y z => by
          rcases z with z | z
          · exact Or.inr (Or.inl z)
          · unfold Jvm.Pilot.CThrowRulesLaw_law_r5179_b2991a.EN at z
            exact Or.inr (Or.inr (Or.inr (Or.inr (by omega))))
        have s16 : gl (clA rc) 21450 = 127991945328499 := by rw [← kw16]; exact (tk_kw a1.1 (by omega)).mp t16
        have KX : ∀ hE, FX (fun g y => MK U g y ∨ EPW T U g y ∨ ELs U e0 g y ∨ (y = tp h ∧ g / 100 % 100 = 8) ∨ (tp h' ≤ y ∧ (g / 100 % 100 = 6 ∨ g = 90001))) h' hE → KD hE (U + 1) nk par wk pk := fun hE x => by
          have K6 : KD h6 (U + 1) nk par wk pk := K4.fx xm (fun g z => by omega) (fun z => by omega) (fun z => by omega) (fun z => by omega) (fun z => by omega)
          have K' := K6.ep Xc (by have := E3.1.2.1; omega) L3.e0 (fun a m => (hsc a m).2)
          have tT := E3.1.2.1
          have le := L3.e0
          have no : ∀ g y, y ≤ U + 5 → ¬ (y = T) → ¬ g = 90003 → ¬ (MK U g y ∨ EPW T U g y ∨ ELs U e0 g y ∨ (y = tp h ∧ g / 100 % 100 = 8) ∨ (tp h' ≤ y ∧ (g / 100 % 100 = 6 ∨ g = 90001))) := fun g y hy ht h9 z => by
            rcases z with z | z | z | z | z
            · omega
            · rcases z with z | z
              · exact ht z.1
              · omega
            · rcases z with z | z <;> omega
            · omega
            · omega
          refine K'.fx x (fun g z => ?_) (no _ _ (by omega) (by omega) (by omega)) (no _ _ (by omega) (by omega) (by omega)) (no _ _ (by omega) (by omega) (by omega)) (no _ _ (by omega) (by omega) (by omega))
          rcases z with z | z | z | z | z
          · omega
          · rcases z with z | z
            · have := z.1; omega
            · omega
          · rcases z with z | z <;> omega
          · omega
          · omega
        have LX : ∀ h9, NW T U (tp h') h8 h9 → LST h9 U e0 nm fW ns' fS' ks' (B' + 5) := fun h9 w9 => by
          have nn : ∀ g y, ENN T U (tp h') g y → ¬ g = 30101 ∧ ¬ g = 102 ∧ ¬ g = 90003 ∧ ¬ g = 0 := fun g y z => by
            rcases z with z | z
            · refine ⟨fun q => ?_, fun q => ?_, fun q => ?_, fun q => ?_⟩ <;> subst q <;> exact EPW_no (by omega) z
            · unfold Jvm.Pilot.CThrowRulesLaw_law_r5179_b2991a.EN at z
              omega
          exact LST.fx 0 L8 w9.1 (fun L hL => ⟨fun z => (nn _ _ z).1 rfl, fun z => (nn _ _ z).2.1 rfl⟩) (fun e z => (nn _ _ z).2.2.1 rfl) (fun y z => (nn _ _ z).2.2.2 rfl) (by have := w9.2.2.1; omega) (by have := w9.2.2.2; omega)
        rw [bk_X5_takeRun_13, nn_some, p8, show vi 25 = vi (nI 25) from rfl]
        refine ⟨t98, c98, p_names (d := d + 1) (qc := 29) (qw := 30) (qa := 31) (i := rsN r) (sep := 44) (X0 := clA rc) (by decide) rfl (by omega) (by omega) (by decide) (by decide) (by decide) a2 x29 E8m er8 TE.rf ⟨N8, fun j hj => by omega⟩ ?_ ?_⟩
        · intro h9 a9' k wd pc E9 e9 te9 ok9 N9 w9 c9' k0 k44 da
          generalize eZ0 : nlF 29 30 31 (rsN r) 44 5 (clA rc) = ZZ at *
          have cz : stpF rc = takF ZZ.1 59 := by
            rw [cl, if_pos s16]
            unfold arF
            rw [eZ0, if_neg (by rw [ok9]; decide)]
          have o41 : ai rc 41 (rsB rc) = nI (rsN r) := by
            rw [z1, FC.2.2.1 41 _ (by omega) (by omega) (by omega)]; exact q9
          have MZ := ((MD_nl29 (sep := 44) (s := rsN r) (by decide) (MD.start a1 a2) (fun j hj => by rw [← o41]; exact (RIL_pop Ac c125 (by omega)).2.2.2 j hj) (ne_end a1.1 (by rw [s16]; decide)) x29).2 (by rw [eZ0]; exact ok9)).1.1
          rw [eZ0, c9', tn_nI (by omega)] at MZ
          have hi := nl_hi (qc := 29) (qw := 30) (qa := 31) (i := rsN r) (sep := 44) (lo := qN (clA rc)) (by decide) (by decide) (by decide) 5 0 (clA rc) a1.1 x29 rfl (fun j hj => by omega) (Nat.le_refl _) (by rw [eZ0]; exact ok9)
          rw [eZ0, c9', tn_nI (by omega)] at hi
          have kp := (nl_keep (qc := 29) (qw := 30) (qa := 31) (i := rsN r) (sep := 44) (by decide) (by decide) 5 (clA rc)).2.1
          rw [eZ0] at kp
          have X9 := (X7.tr (w8.1.mono (fun _ _ z => Or.inr (Or.inl z)))).tr (w9.1.mono EN5)
          have t99 : tg h9 (tp h) = 9 := by rw [w9.1.tg (by omega)]; exact t98
          have n9 : ∀ g, g / 100 % 100 = 8 → ¬ ENN T U (tp h') g (tp h) := fun g hg z => by
            rcases z with z | z
            · exact EPW_no (by omega) z
            · unfold Jvm.Pilot.CThrowRulesLaw_law_r5179_b2991a.EN at z
              omega
          have p9 : fP h9 30811 (tp h) = some (tp h') := by
            rw [w9.1.fP (by omega) (n9 _ (by decide))]; exact p8
          have F9 := F8.fx w9.1 (by omega) n9
          have tp9 := w9.2.1
          simp only [psh]
          rw [bk_X5_takeRun_18, nn_some, p9]
          have L9 : LST h9 U e0 nm fW ns' fS' ks' ((B' + 5 - k) + k) := by
            rw [show B' + 5 - k + k = B' + 5 by omega]; exact LX h9 w9
          have aq := (a1.adv_q).1
          refine ⟨t99, E9.1.2.2.2.2.2.2.2.2.1, p_know (d := d) (by omega) (by omega) E9 (KX h9 X9) N9 L9 (fun h10 ks10 E10 N10 L10 pm10 x10 tp10 => ?_)⟩
          simp only [psh, bk_X5_takeRun_22]
          have E10' : ES h10 T U e0 1 a9' D l il so := by
            obtain ⟨y1, y2, y3, ⟨p, y4, y5, y6⟩, y7⟩ := E10
            exact ⟨y1, y2, y3, ⟨p, y4, by omega, y6⟩, y7⟩
          have F10 := F9.fx x10 (by omega) (fun f hf z => by
            rcases z with z | z
            · exact ELs_no (by omega) z
            · omega)
          have X10 := X9.tr (x10.mono (E' := fun g y => MK U g y ∨ EPW T U g y ∨ ELs U e0 g y ∨ (y = tp h ∧ g / 100 % 100 = 8) ∨ (tp h' ≤ y ∧ (g / 100 % 100 = 6 ∨ g = 90001))) (fun g y z => by
            rcases z with z | z
            · exact Or.inr (Or.inr (Or.inl z))
            · exact Or.inr (Or.inr (Or.inr (Or.inr ⟨by omega, by omega⟩)))))
          have qZ := MZ.2.2.2.2.2.2.2.2
          refine FIN h10 a9' ZZ.1 k ks10 (B' + 5 - k) E10' L10 X10 (by omega) (by rw [x10.tg (by omega)]; exact t99) F10 te9.sy e9 MZ.2.1 MZ.1 cz (MZ.w.trans a5) (MZ.2.2.2.2.2.1.trans a9) (MZ.2.2.2.1.trans l3) (fun q h1 h2 => by rw [kp q h1 h2, a3]) (by omega) (by omega) (fun EN EN' A' fe r29 r30 => ?_)
          have P := DP EN
          have v29 : ai R 29 (rsN r) = nI k := r29.trans c9'
          obtain ⟨v20, v21, v22, ew, lb, FR, rl⟩ := st_vals A hr d0 d1 EN
          have v19 : ai R 19 (rsN r) = nI 10 := by
            rw [(FR.2.1 19 _ (by omega) rl).1, (q12 19 (by omega) (by omega)).1]; exact x19
          have nkk : nkN (stpF rc) = nkN r := by
            have w' : wN (stpF rc) = wN r := (fk_en EN' A').1.symm.trans ew
            unfold nkN
            rw [w', (goK_lo gk 2 _ (by omega)).1, (lo_turn (ow_turn (RIL_pre A)) (dN_0 d0) (q := 2) (by omega) _).1]
          have qs : qN ZZ.1 ≤ qN (stpF rc) := by rw [fe]; exact (MZ.1.adv_q).1
          have o3 := q3.2.2.1
          have o4 := FC.1.2.2.2.1
          have pt : ∀ i, i < k → ai R 31 (4 * rsN r + i) = pc i ∧ al R 30 (4 * rsN r + i) = al ZZ.1 30 (4 * rsN r + i) ∧ plp (pc i) ∧ ffst (fun k => decide (wk k = wd i)) nk 0 = kN R (wN R) (nkN R) (al R 30 (4 * rsN r + i)) (ai R 31 (4 * rsN r + i)) := fun i hi' => by
            obtain ⟨b1, b2, b3⟩ := da i hi'
            obtain ⟨p', b4, b5, b6⟩ := N9.2 i hi'
            have b7 := (r30 31 i (by omega) (by omega)).1
            have b8 := (r30 30 i (by omega) (by omega)).2
            have b9 := hi i hi'
            rw [← b3, b4, tn_nI (by omega)] at b9
            refine ⟨b7.trans b3.symm, b8, ⟨p', b4, by omega, b6⟩, ?_⟩
            rw [b1, b7, ← b3, b4, b8]
            exact meant_is A P EN' A' ew nkk (by omega) (by omega) b2
          refine ⟨v29, k44, N10.cg (fun i hi' => ?_), fun i hi' => ?_, fun i hi' => ?_, ?_⟩
          · obtain ⟨b1, b2, b3⟩ := da i hi'
            obtain ⟨c1, c2, c3, c4⟩ := pt i hi'
            exact ⟨by rw [b1, c2], c1.symm, c4⟩
          · rw [(pt i hi').2.1]; exact (da i hi').2.1
          · rw [(pt i hi').1]; exact (pt i hi').2.2.1
          · rw [mpS_n v19 (by omega), if_neg (by decide), if_neg (by decide), if_neg (by decide), if_neg (by decide), if_pos rfl, v29, tn_nI (by omega)]
            rw [flr_cg (g := unkL pc (fun j => ffst (fun k => decide (wk k = wd j)) nk 0)) k 0 (fun i _ hi' => by
              obtain ⟨c1, c2, c3, c4⟩ := pt i (by omega)
              show (if kN R (wN R) (nkN R) (al R 30 (4 * rsN r + i)) (ai R 31 (4 * rsN r + i)) = none then [keyN (tn (ai R 31 (4 * rsN r + i))) 1 0] else []) = (if ffst (fun k => decide (wk k = wd i)) nk 0 = none then [keyN (tn (pc i)) 1 0] else [])
              rw [c4, c1])]
            exact CTK.pm pm10
        · intro h9 a9' k wd pc E9 e9 tw9 ok9 N9 w9
          have cz : stpF rc = (nlF 29 30 31 (rsN r) 44 5 (clA rc)).1 := by
            rw [cl, if_pos s16]
            unfold arF
            rw [if_pos ok9]
          rw [← cz] at tw9
          have k44 : k ≤ 4 := N9.1.2.2.2.2.2.2.1
          have X9 := (X7.tr (w8.1.mono (fun _ _ z => Or.inr (Or.inl z)))).tr (w9.1.mono EN5)
          have t99 : tg h9 (tp h) = 9 := by rw [w9.1.tg (by omega)]; exact t98
          have p9 : fP h9 30811 (tp h) = some (tp h') := by
            rw [w9.1.fP (by omega) (fun z => ?_)]; exact p8
            rcases z with z | z
            · exact EPW_no (by omega) z
            · unfold Jvm.Pilot.CThrowRulesLaw_law_r5179_b2991a.EN at z
              omega
          have bad : ¬ gi (stpF rc) 1452 = -1 := by rw [tw9.1]; exact e9
          have tp9 := w9.2.1
          simp only [psh]
          rw [bk_X5_takeRun_18, nn_some, p9]
          have L9 : LST h9 U e0 nm fW ns' fS' ks' ((B' + 5 - k) + k) := by
            rw [show B' + 5 - k + k = B' + 5 by omega]; exact LX h9 w9
          have aq := (a1.adv_q).1
          refine ⟨t99, E9.1.2.2.2.2.2.2.2.2.1, p_know (d := d) (by omega) (by omega) E9 (KX h9 X9) N9 L9 (fun h10 ks10 E10 N10 L10 pm10 x10 tp10 => ?_)⟩
          simp only [psh, bk_X5_takeRun_22]
          have E10' : ES h10 T U e0 1 a9' D l il so := by
            obtain ⟨y1, y2, y3, ⟨p, y4, y5, y6⟩, y7⟩ := E10
            exact ⟨y1, y2, y3, ⟨p, y4, by omega, y6⟩, y7⟩
          refine BAD h10 (stpF rc) ks10 (B' + 5 - k) ns' fS' (n + 1) gk bad ?_ (E10'.te tw9) L10 fk (by omega) (by rw [x10.tg (by omega)]; exact t99) (by omega)
          refine (X06.tr (X9.mono (fun g y z => ?_))).tr (x10.mono (fun g y z => ?_))
          · rcases z with z | z | z | z | z
            · exact Or.inl (Or.inr (Or.inr (Or.inr ⟨z.1, by omega⟩)))
            · exact Or.inl (EPW_a z)
            · exact Or.inl (Or.inr (Or.inl z))
            · exact Or.inr ⟨by omega, by omega⟩
            · exact Or.inr ⟨by omega, by omega⟩
          · rcases z with z | z
            · exact Or.inl (Or.inr (Or.inl z))
            · exact Or.inr ⟨by omega, by omega⟩
      · simp only [psh]
        rw [bk_X5_takeRun_12]
        refine ⟨fun _ => ?_, fun z => absurd rfl z⟩
        simp only [bk_X5_takeRun_22, psh]
        have cz : stpF rc = takF (clA rc) 59 := by
          rw [cl, if_neg (fun z => n16 a2 ((tk_kw a1.1 (by omega)).mpr (by rw [kw16]; exact z)))]
        refine FIN h7 (clA rc) (clA rc) 0 ks' (B' + 5) E7 L7 X7 (by omega) t97 F7 TE.rf a2 a2 a1 cz a5 a9 l3 (fun q _ _ => by rw [a3]) (by omega) (by omega) (fun EN EN' A' fe r29 r30 => ?_)
        have v29 : ai R 29 (rsN r) = nI 0 := r29.trans x29
        have v19 : ai R 19 (rsN r) = nI 10 := by
          obtain ⟨v20, v21, v22, ew, lb, FR, rl⟩ := st_vals A hr d0 d1 EN
          rw [(FR.2.1 19 _ (by omega) rl).1, (q12 19 (by omega) (by omega)).1]; exact x19
        refine ⟨v29, by omega, N7.1.cg (fun i hi => by omega), fun i hi => by omega, fun i hi => by omega, ?_⟩
        rw [mpS_n v19 (by omega), if_neg (by decide), if_neg (by decide), if_neg (by decide), if_neg (by decide), if_pos rfl, v29]
        exact CTK.rf)
    refine ⟨t91, m1, m2, ?_⟩
    simp only [bk_X5_takeRun_6, nn_some]
    exact ⟨m3, m4⟩
  · intro h1 rw x ks' B' ns' fS' n gk bad Xw Ew Lw fk crw tx
    have t91 : tg h1 (tp h) = 9 := by rw [Xw.tg htp4]; exact t94
    have htp1 := Xw.1
    obtain ⟨B', rfl⟩ : ∃ b, B' = b + 1 := ⟨B' - 1, by omega⟩
    simp only [psh, bk_X5_takeRun_3, nn_some]
    have E2 := Ew.fp (f := 30809) (x := tp h) (some x) hU (by decide)
    have L2 := LST.fp Lw (f := 30809) (x := tp h) (some x) hU (by decide)
    have X2 : FX (EPn T U e0 (tp h) sc) h (setFP h1 30809 (tp h) (some x)) := (X4'.tr (EPa_en Xw)).toFP _ (Or.inr ⟨Nat.le_refl _, by decide⟩)
    have t92 : tg (setFP h1 30809 (tp h) (some x)) (tp h) = 9 := t91
    have tp2 : tp (setFP h1 30809 (tp h) (some x)) = tp h1 := rfl
    generalize setFP h1 30809 (tp h) (some x) = h2 at *
    obtain ⟨m1, m2, m3, m4⟩ := p_newN (d := d + 8) (Q := fun v h1 => wp (d + 9) K_X5_takeRun 8 (psh v [vr (some (tp h2)), vr (some (tp h))]) [(0, vr (some (U + 9))), (1, vr (some (tp h)))] h1 (fun v h1 => wp (d + 10) K_X5_takeStatement 79 (psh v []) [(0, vr (some (U + 9))), (1, vi (nI 10)), (2, vr (some (tp h)))] h1 Q)) (wd := fun _ => 0) (pc := fun _ => 0) E2 L2 (fun h5 E6 L6 N6 X6 tp6 => by
      simp only [psh, bk_X5_takeRun_8, nn_some]
      have t96 : tg h5 (tp h) = 9 := by rw [X6.tg (by omega)]; exact t92
      have E7 := E6.fp (f := 30811) (x := tp h) (some (tp h2)) hU (by decide)
      have L7 := LST.fp L6 (f := 30811) (x := tp h) (some (tp h2)) hU (by decide)
      have X7 : FX (EPn T U e0 (tp h) sc) h (setFP h5 30811 (tp h) (some (tp h2))) := (X2.tr (X6.mono (fun _ _ z => z.elim))).toFP _ (Or.inr ⟨Nat.le_refl _, by decide⟩)
      have t97 : tg (setFP h5 30811 (tp h) (some (tp h2))) (tp h) = 9 := t96
      have tp7 : tp (setFP h5 30811 (tp h) (some (tp h2))) = tp h5 := rfl
      generalize setFP h5 30811 (tp h) (some (tp h2)) = h7 at *
      refine ⟨t96, E7.1.2.2.2.2.2.2.2.2.1, ?_⟩
      rw [show vi 16 = vi (nI 16) from rfl]
      refine p_skip (d := d + 2) E7 (by omega) (fun y => absurd y bad) (fun _ => ?_)
      simp only [psh]
      rw [bk_X5_takeRun_12]
      refine ⟨fun _ => ?_, fun z => absurd rfl z⟩
      simp only [bk_X5_takeRun_22, psh]
      exact BAD h7 rw ks' B' ns' fS' n gk bad X7 E7 L7 fk (by omega) t97 (by omega))
    refine ⟨t91, m1, m2, ?_⟩
    simp only [bk_X5_takeRun_6, nn_some]
    exact ⟨m3, m4⟩
