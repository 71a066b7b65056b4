theorem rsK_run (X : RV) (s : Nat) : rsK X s (lN (kwN 10)) = opB (tI X 19 s (nI 10)) 26 s 8 := by
  have e : lN (kwN 10) = 7501166 := by decide +kernel
  rw [e]; rfl
theorem sc_10 {D : Nat} (HB : BLC D) : SC D 10 := by
  intro d h h3 Q T U e0 l il so sc r R nk par wk pk nm fW fS ks B B0 G hd A hr hD D0 d1 hl CH hsc K hs hn E3 L3 hU X3 t9 htp F3 cr hB0 DP H
  obtain ⟨d, rfl⟩ : ∃ j, d = j + 10 := ⟨d - 10, by omega⟩
  have d0 : 0 < dN r := by omega
  have D8 := A.d.2
  have c9 := E3.1.2.2.2.2.2.2.2.2.1
  obtain ⟨tk, k10⟩ := srt_kw hs (by omega)
  obtain ⟨p, g1, g2, g3⟩ := E3.pl
  have pq : gi r 1449 = nI p := by rw [← (E3.2.2.2.2 hr.1).1.2.1]; exact g1
  have cg := cr_ge A cr hB0
  obtain ⟨B, rfl⟩ : ∃ b, B = b + 1 := ⟨B - 1, by omega⟩
  obtain ⟨st, ne, n120⟩ := stp_kw A d0 d1 hs (by omega) hn
  rw [rsK_run] at st
  obtain ⟨M1, ho⟩ := MD_rsA (MD.start A hr.1) d0 n120
  have M2 := M1.adv (by rw [gi_rsA]; exact ne)
  have M3 : MD r (dN r) (0 + 1) (rsN r + 1) (tI (advF (rsA r)) 19 (rsN r) (nI 10)) := MDtI M2 _ _ (by decide)
  have te : TE (advF r) (tI (advF (rsA r)) 19 (rsN r) (nI 10)) := (TE_rsA.adv).tr (TE_tI (by decide))
  have er : gi (advF r) 1452 = -1 := by rw [gi_adv]; exact hr.1
  have nv := new_vals A
  have x19 : ai (tI (advF (rsA r)) 19 (rsN r) (nI 10)) 19 (rsN r) = nI 10 := by rw [ai_tI, if_pos ⟨rfl, rfl⟩]
  have xq : ∀ q, ¬ q = 19 → ai (tI (advF (rsA r)) 19 (rsN r) (nI 10)) q = ai (rsA r) q := fun q hq => by rw [ai_ne hq, ai_adv]
  have ow : OWN (tI (advF (rsA r)) 19 (rsN r) (nI 10)) 8 (nI (rsN r)) := own_of M3 (by decide) (by rw [xq 32 (by decide), (nv 32).2.2 (by omega)]; exact ⟨rfl, by decide⟩) (fun _ => by rw [xq 29 (by decide)]; exact (nv 29).2.2 (by omega)) (xq 41 (by decide)) (xq 46 (by decide)) ho
  have q1 : qN r + 1 ≤ qN (tI (advF (rsA r)) 19 (rsN r) (nI 10)) := M3.2.2.2.2.2.2.2.2
  rw [if_neg (by omega), bk_X5_takeStatement_47]
  refine ⟨c9, p_take E3 (by omega) (fun h4 E4 w4 => ?_)⟩
  rw [decide_eq_true tk, gT_t hr.1] at E4
  simp only [psh]
  refine st_sw (by omega) ?_
  have e : (if (10 : Nat) = 0 then 80 else swAt [68, 68, 68, 52, 57, 57, 72, 80, 63, 76] (10 - 1) 80) = 76 := rfl
  rw [e]
  have L4 := L3.pw w4
  have t94 : tg h4 (tp h) = 9 := by rw [w4.1.tg htp]; exact t9
  have htp4 : tp h < tp h4 := by rw [w4.2.1]; exact htp
  have F4 := F3.fx w4.1 htp (fun f hf => EPW_no (by omega))
  have X4 : FX (ENX T U e0 (tp h)) h h4 := (X3.mono (fun _ _ z => Or.inr z)).tr (w4.1.mono (fun _ _ z => Or.inl z))
  have CH4 : CHN h4 U sc so := CHN.ep CH (w4.ep (e0 := e0) (sc := sc))
  have K4 : KD h4 (U + 1) nk par wk pk := K.ep (w4.ep (e0 := e0) (sc := sc)) (by have := E3.1.2.1; omega) L3.e0 (fun a m => (hsc a m).2)
  have c94 := E4.1.2.2.2.2.2.2.2.2.1
  have X4' : FX (EPn T U e0 (tp h) sc) h h4 := ENX_en X4
  have s4 : ∀ a, a < tp h → fI h4 10304 a = fI h 10304 a := fun a ha => X4.fI (by omega) (ENX_set (by omega))
  have sf4 : ENR r R → ∀ c, c ∈ cch R (rsB r) → SCF h4 R G c := fun EN c m => by
    have P := DP EN
    have hm : G 2 c ∈ sc := by rw [P.2.2.2.1]; exact List.mem_map.mpr ⟨c, m, rfl⟩
    have hm2 := hsc _ hm
    have h33 := X3.1
    exact (P.2.2.2.2.1 c m).1.pw w4 (by omega)
  have E5 := E4.te (TEW.of te (by rw [M3.2.1]; exact er.symm))
  have len := rt_len A.1
  -- a wrong text at the end
  have BAD : ∀ (hE : AH) rw ks' B' ns' fS' n, goK D n (stpF r) rw → ¬ gi rw 1452 = -1 → FX (EPn T U e0 (tp h) sc) h hE → ES hE T U e0 1 rw D l il so → LST hE U e0 nm fW ns' fS' ks' B' → (∀ k, k < nsC r → fS' k = fS k) → B0 + D ≤ B' + 3 * tn (gi r 1448) + 20 → tg hE (tp h) = 9 → tp h < tp hE → wp (d + 10) K_X5_takeStatement 79 [] [(0, vr (some (U + 9))), (1, vi (nI 10)), (2, vr (some (tp h)))] hE Q := by
    intro hE rw ks' B' ns' fS' n gk bad X E L fk crw t htp
    rw [bk_X5_takeStatement_79, bk_X5_takeStatement_80]
    refine ⟨E.1.2.2.2.2.2.2.2.2.1, ?_⟩
    rw [show vi 24 = vi (nI 24) from rfl]
    refine p_take E (by omega) (fun h7 E7 w7 => ?_)
    simp only [psh, bk_X5_takeStatement_83]
    have e6 : ∀ c, gT c rw = rw := fun c => by unfold gT; rw [if_neg bad]
    rw [e6] at E7
    exact H h7 rw ks' B' ns' fS' n gk E7 (EPn_end (X.tr (w7.1.mono (fun _ _ z => Or.inl (EPW_a z))))) (L.pw w7) fk (fun z => absurd z bad) (fun _ => crw) ⟨by rw [w7.1.tg htp]; exact t, by rw [w7.2.1]; exact htp⟩ (fun EN => absurd ((EN.step hr).go (goK_N gk)).right bad)
  rw [bk_X5_takeStatement_76]
  refine ⟨c94, ?_⟩
  rw [bk_X5_takeRun_0]
  refine ⟨c94, st_lambda (d := d + 7) (R := R) (h := h) (h3 := h3) (G := G) (wk := wk) (fS := fS) (what := 8) HB (by omega) A hr hD D0 d1 hl M3 ow (Or.inr rfl) st E5 CH4 K4 L4 (by omega) hB0 (fun a m => (hsc a m).2) DP sf4 ?_ ?_⟩
  · sorry
  · intro h1 rw x ks' B' ns' fS' n gk bad Xw Ew Lw fk crw tx
    have t91 : tg h1 (tp h) = 9 := by rw [Xw.tg htp4]; exact t94
    have htp1 := Xw.1
    obtain ⟨B', rfl⟩ : ∃ b, B' = b + 1 := ⟨B' - 1, by omega⟩
    simp only [psh, bk_X5_takeRun_3, nn_some]
    have E2 := Ew.fp (f := 30809) (x := tp h) (some x) hU (by decide)
    have L2 := LST.fp Lw (f := 30809) (x := tp h) (some x) hU (by decide)
    have X2 : FX (EPn T U e0 (tp h) sc) h (setFP h1 30809 (tp h) (some x)) := (X4'.tr (EPa_en Xw)).toFP _ (Or.inr ⟨Nat.le_refl _, by decide⟩)
    have t92 : tg (setFP h1 30809 (tp h) (some x)) (tp h) = 9 := t91
    have tp2 : tp (setFP h1 30809 (tp h) (some x)) = tp h1 := rfl
    generalize setFP h1 30809 (tp h) (some x) = h2 at *
    obtain ⟨m1, m2, m3, m4⟩ := p_newN (d := d + 8) (Q := fun v h1 => wp (d + 9) K_X5_takeRun 8 (psh v [vr (some (tp h2)), vr (some (tp h))]) [(0, vr (some (U + 9))), (1, vr (some (tp h)))] h1 (fun v h1 => wp (d + 10) K_X5_takeStatement 79 (psh v []) [(0, vr (some (U + 9))), (1, vi (nI 10)), (2, vr (some (tp h)))] h1 Q)) (wd := fun _ => 0) (pc := fun _ => 0) E2 L2 (fun h5 E6 L6 N6 X6 tp6 => by
      simp only [psh, bk_X5_takeRun_8, nn_some]
      have t96 : tg h5 (tp h) = 9 := by rw [X6.tg (by omega)]; exact t92
      have E7 := E6.fp (f := 30811) (x := tp h) (some (tp h2)) hU (by decide)
      have L7 := LST.fp L6 (f := 30811) (x := tp h) (some (tp h2)) hU (by decide)
      have X7 : FX (EPn T U e0 (tp h) sc) h (setFP h5 30811 (tp h) (some (tp h2))) := (X2.tr (X6.mono (fun _ _ z => z.elim))).toFP _ (Or.inr ⟨Nat.le_refl _, by decide⟩)
      have t97 : tg (setFP h5 30811 (tp h) (some (tp h2))) (tp h) = 9 := t96
      have tp7 : tp (setFP h5 30811 (tp h) (some (tp h2))) = tp h5 := rfl
      generalize setFP h5 30811 (tp h) (some (tp h2)) = h7 at *
      refine ⟨t96, E7.1.2.2.2.2.2.2.2.2.1, ?_⟩
      rw [show vi 16 = vi (nI 16) from rfl]
      refine p_skip (d := d + 2) E7 (by omega) (fun y => absurd y bad) (fun _ => ?_)
      simp only [psh]
      rw [bk_X5_takeRun_12]
      refine ⟨fun _ => ?_, fun z => absurd rfl z⟩
      simp only [bk_X5_takeRun_22, psh]
      exact BAD h7 rw ks' B' ns' fS' n gk bad X7 E7 L7 fk (by omega) t97 (by omega))
    refine ⟨t91, m1, m2, ?_⟩
    simp only [bk_X5_takeRun_6, nn_some]
    exact ⟨m3, m4⟩
