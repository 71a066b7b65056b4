/-! call -/
theorem rsK_call (X : RV) (s : Nat) : rsK X s (lN (kwN 1)) = if okN X = false then faiF (tI X 19 s (nI 1)) else if gi (rsW (namF (tI X 19 s (nI 1))) s) 1451 = 123 then opB (rsW (namF (tI X 19 s (nI 1))) s) 26 s 1 else takF (rsW (namF (tI X 19 s (nI 1))) s) 59 := by
  have e : lN (kwN 1) = 1667329132 := by decide +kernel
  rw [e, show rsK X s 1667329132 = if okN X = false then faiF (tI X 19 s (nI 1)) else rsK2b (rsW (namF (tI X 19 s (nI 1))) s) s 1667329132 from rfl]
  unfold rsK2b
  by_cases z : okN X = false
  · rw [if_pos z, if_pos z]
  · rw [if_neg z, if_neg z]
    by_cases y : gi (rsW (namF (tI X 19 s (nI 1))) s) 1451 = 123
    · rw [if_pos ⟨rfl, y⟩, if_pos y]
    · rw [if_neg (fun w => y w.2), if_neg y]
theorem up1_none (f : Nat) : up1 (fun _ => (none : Option Nat)) f none = fun _ => none := by
  funext g
  unfold up1
  split <;> rfl
theorem sc_1 {D : Nat} (HB : BLC D) : SC D 1 := by
  intro d h h3 Q T U e0 l il so sc r R nk par wk pk nm fW fS ks B B0 G hd A hr hD D0 d1 hl CH hsc K hs hn E3 L3 hU X3 t9 ⟨htp, ntg⟩ F3 cr hB0 DP H
  obtain ⟨d, rfl⟩ : ∃ j, d = j + 10 := ⟨d - 10, by omega⟩
  have d0 : 0 < dN r := by omega
  have D8 := A.d.2
  have c9 := E3.1.2.2.2.2.2.2.2.2.1
  obtain ⟨tk, k10⟩ := srt_kw hs (by omega)
  obtain ⟨p, g1, g2, g3⟩ := E3.pl
  have pq : gi r 1449 = nI p := by rw [← (E3.2.2.2.2 hr.1).1.2.1]; exact g1
  have cg := cr_ge A cr hB0
  obtain ⟨B, rfl⟩ : ∃ b, B = b + 1 := ⟨B - 1, by omega⟩
  obtain ⟨st, ne, n120⟩ := stp_kw A d0 d1 hs (by omega) hn
  rw [rsK_call] at st
  have er : gi (advF r) 1452 = -1 := by rw [gi_adv]; exact hr.1
  have er2 : gi (advF (advF r)) 1452 = -1 := by rw [gi_adv]; exact er
  have RT1 := RT_adv A.1.1
  have RT2 := RT_adv RT1.1
  have te : TE (advF r) (tI (advF (rsA r)) 19 (rsN r) (nI 1)) := (TE_rsA.adv).tr (TE_tI (by decide))
  have te2 : TE (advF (advF r)) (rsW (namF (tI (advF (rsA r)) 19 (rsN r) (nI 1))) (rsN r)) := (te.adv).tr (TE_nam.tr TE_rsW)
  have okX : okN (advF (rsA r)) = decide (tkn (advF r) = 27) := by
    have e1 : okN (advF (rsA r)) = okN (advF r) := (TE_rsA.adv).okN
    rw [e1]
    cases z : okN (advF r) with
    | true => exact (decide_eq_true ((tk_name RT1).mpr z)).symm
    | false => exact (decide_eq_false (fun w => by rw [(tk_name RT1).mp w] at z; cases z)).symm
  rw [if_neg (by omega), bk_X5_takeStatement_47]
  refine ⟨c9, p_take E3 (by omega) (fun h4 E4 w4 => ?_)⟩
  rw [decide_eq_true tk, gT_t hr.1] at E4
  simp only [psh]
  refine st_sw (by omega) ?_
  have e : (if (1 : Nat) = 0 then 80 else swAt [68, 68, 68, 52, 57, 57, 72, 80, 63, 76] (1 - 1) 80) = 68 := rfl
  rw [e]
  have L4 := L3.pw w4
  have t94 : tg h4 (tp h) = 9 := by rw [w4.1.tg htp]; exact t9
  have htp4 : tp h < tp h4 := by rw [w4.2.1]; exact htp
  have F4 := F3.fx w4.1 htp (fun f hf => EPW_no (by omega))
  have X4 : FX (ENX T U e0 (tp h)) h h4 := (X3.mono (fun _ _ z => Or.inr z)).tr (w4.1.mono (fun _ _ z => Or.inl z))
  have CH4 : CHN h4 U sc so := CHN.ep CH (w4.ep (e0 := e0) (sc := sc))
  have K4 : KD h4 (U + 1) nk par wk pk := K.ep (w4.ep (e0 := e0) (sc := sc)) (by have := E3.1.2.1; omega) L3.e0 (fun a m => (hsc a m).2)
  have c94 := E4.1.2.2.2.2.2.2.2.2.1
  rw [bk_X5_takeStatement_68]
  refine ⟨c94, nm_pre (d := d + 1) E4 L4 hU htp4 t94 F4 (fun h5 y pn E5 L5 X5 tp5 F5 pp p0 pl val => ?_)⟩
  rw [if_pos (show vS0 (nI 1) (gi r 1449) (nI nm - 1) (nI l) 800 = 1 from rfl)]
  have c95 := E5.1.2.2.2.2.2.2.2.2.1
  have t95 : tg h5 (tp h) = 9 := by rw [X5.tg htp4]; exact t94
  have htp5 : tp h < tp h5 := by have := X5.1; omega
  have hpn : gi (advF r) 1449 = nI pn := by rw [← (E4.2.2.2.2 er).1.2.1]; exact pp
  have X5' : FX (EPn T U e0 (tp h) sc) h h5 := (ENX_en X4).tr (ENM_en (Nat.le_refl _) (fun a z => by cases z) X5)
  have s5 : ∀ a, a < tp h → fI h5 10304 a = fI h 10304 a := fun a ha => by
    rw [X5.fI (by omega) (ENM_set (by intro w; cases w))]
    exact X4.fI (by omega) (ENX_set (by omega))
  rw [bk_X5_takeNaming_13, show vi 20 = vi (nI 20) from rfl, p_at E5 (by decide)]
  refine ⟨c95, ?_⟩
  simp only [psh]
  rw [bk_X5_takeNaming_16]
  refine ⟨fun z => ?_, fun z => ?_⟩
  · -- no block
    rw [b2i_0] at z
    simp only [bk_X5_takeNaming_21, psh]
    have st2 : stpF r = if okN (advF (rsA r)) = false then faiF (tI (advF (rsA r)) 19 (rsN r) (nI 1)) else takF (rsW (namF (tI (advF (rsA r)) 19 (rsN r) (nI 1))) (rsN r)) 59 := by
      rw [st]
      by_cases w : okN (advF (rsA r)) = false
      · rw [if_pos w, if_pos w]
      · rw [if_neg w, if_neg w, if_neg]
        intro v
        have nmd : tkn (advF r) = 27 := by
          rw [okX] at w
          exact of_decide_eq_true (Bool.not_eq_false _ ▸ w)
        rw [decide_eq_true nmd, gT_t er, decide_eq_true er2, Bool.true_and] at z
        exact of_decide_eq_false z ((tk_sign RT2 (c := 123) (by decide)).mpr (te2.2.2.2.1.symm.trans v))
    refine sc_ntail (h3 := h3) (nk := nk) (wk := wk) (R := R) (G := G) (ks := ks) (k := 1) (o := none) (by omega) (by omega) A hr hD D0 d1 hs hn st2 E5 L5 hU X5' t95 htp5 (by rw [up1_none]; exact F5) (fun f h1 _ => by unfold up1; rw [if_neg h1]) (by unfold up1; rw [if_pos rfl]) p0 pl hpn val ⟨p, pq, by omega, by omega⟩ (by omega) DP (fun EN nmd EN' A' qq nkk v19 v24 v25 v21 lbn nbR ew => ?_) hsc H
    have i1 : ai R 19 (rsN r) = 1 := v19
    have P := DP EN
    refine ⟨?_, ?_, ?_, fun c m => ?_⟩
    · rw [if_neg (fun w => absurd (i1.symm.trans w.1) (by decide))]; rfl
    · rw [if_neg]
      rintro (w | w)
      · exact absurd (i1.symm.trans w) (by decide)
      · exact absurd (i1.symm.trans w) (by decide)
    · rw [mpS_n v19 (by omega), if_neg (by decide), if_neg (by decide), if_neg (by decide), if_neg (by decide), if_neg (by decide)]; exact CTK.rf
    · rw [stR_one, show decide (ai R 19 (rsN r) = 3) = false from decide_eq_false (by rw [i1]; decide), Bool.false_and, if_neg (by decide)]
      have hm : G 2 c ∈ sc := by rw [P.2.2.2.1]; exact List.mem_map.mpr ⟨c, m, rfl⟩
      have hm2 := hsc _ hm
      exact s5 _ (by omega)
  · -- a block
    rw [b2i_0] at z
    have z := bf z
    have nmd : tkn (advF r) = 27 := by
      by_cases w : tkn (advF r) = 27
      · exact w
      · rw [decide_eq_false w, gT_f er, decide_eq_false (fai_w RT1 er).1] at z; cases z
    rw [decide_eq_true nmd, gT_t er, decide_eq_true er2, Bool.true_and] at z
    have t123 : gi (rsW (namF (tI (advF (rsA r)) 19 (rsN r) (nI 1))) (rsN r)) 1451 = 123 := te2.2.2.2.1.trans ((tk_sign RT2 (c := 123) (by decide)).mp (of_decide_eq_true z))
    rw [okX, decide_eq_true nmd, if_neg (by decide), if_pos t123] at st
    rw [decide_eq_true nmd, gT_t er] at E5
    obtain ⟨M1, ho⟩ := MD_rsA (MD.start A hr.1) d0 n120
    have M2 := M1.adv (by rw [gi_rsA]; exact ne)
    have M3 : MD r (dN r) (0 + 1) (rsN r + 1) (tI (advF (rsA r)) 19 (rsN r) (nI 1)) := MDtI M2 _ _ (by decide)
    have eX3 : okN (tI (advF (rsA r)) 19 (rsN r) (nI 1)) = true := by
      show okN (advF (rsA r)) = true
      rw [okX]; exact decide_eq_true nmd
    have N2 : MD r (dN r) (0 + 1 + 1) (rsN r + 1) (rsW (namF (tI (advF (rsA r)) 19 (rsN r) (nI 1))) (rsN r)) := MDtI (MDtL (M3.nam eX3) _ _ _) _ _ (by decide)
    have nv := new_vals A
    have xq : ∀ q, ¬ q = 19 → ¬ q = 25 → ai (rsW (namF (tI (advF (rsA r)) 19 (rsN r) (nI 1))) (rsN r)) q = ai (rsA r) q := fun q hq hq2 => by
      unfold rsW
      rw [ai_ne hq2, ai_tL, ai_nam, ai_ne hq, ai_adv]
    have x19 : ai (rsW (namF (tI (advF (rsA r)) 19 (rsN r) (nI 1))) (rsN r)) 19 (rsN r) = nI 1 := by
      unfold rsW
      rw [ai_ne (by decide), ai_tL, ai_nam, ai_tI, if_pos ⟨rfl, rfl⟩]
    have x24 : al (rsW (namF (tI (advF (rsA r)) 19 (rsN r) (nI 1))) (rsN r)) 24 (rsN r) = gl (advF r) 21450 := by
      unfold rsW
      rw [al_tI, al_tL, if_pos ⟨rfl, rfl⟩, nam_w]
      exact te.2.2.2.2.1
    have x25 : ai (rsW (namF (tI (advF (rsA r)) 19 (rsN r) (nI 1))) (rsN r)) 25 (rsN r) = nI pn := by
      unfold rsW
      rw [ai_tI, if_pos ⟨rfl, rfl⟩, nam_a]
      exact te.2.2.1.trans hpn
    have ow : OWN (rsW (namF (tI (advF (rsA r)) 19 (rsN r) (nI 1))) (rsN r)) 1 (nI (rsN r)) := own_of N2 (by decide) (by rw [xq 32 (by decide) (by decide), (nv 32).2.2 (by omega)]; exact ⟨rfl, by decide⟩) (fun z => absurd z (by decide)) (xq 41 (by decide) (by decide)) (xq 46 (by decide) (by decide)) ho
    have E6 := E5.te (TEW.of te2 (by rw [N2.2.1]; exact er2.symm))
    generalize rsW (namF (tI (advF (rsA r)) 19 (rsN r) (nI 1))) (rsN r) = X1 at *
    have q1 : qN r + 2 ≤ qN X1 := N2.2.2.2.2.2.2.2.2
    have nE : ∀ g a, ¬ (g = 903 ∨ g = 904 ∨ g = 905 ∨ g = 20906 ∨ g = 702 ∨ g = 100 ∨ g = 102 ∨ g = 30101 ∨ g = 90003) → ¬ g / 100 % 100 = 8 → ¬ ENM T U e0 (tp h) none g a := fun g a h1 h2 z => by
      rcases z with z | z | z | ⟨-, z⟩
      · exact EPW_no (by omega) z
      · exact ELs_no (by omega) z
      · exact h2 z.2
      · cases z
    have CH5 : CHN h5 U sc so := CHN.fx X5 (fun a => ⟨nE _ _ (by decide) (by decide), nE _ _ (by decide) (by decide)⟩) CH4
    have K5 : KD h5 (U + 1) nk par wk pk := K4.fx X5 (fun g z => by
      rcases z with z | z | z | ⟨-, z⟩
      · rcases z with ⟨z1, z2⟩ | ⟨z1, z2⟩
        · have := E4.1.2.1; omega
        · omega
      · have := L4.e0
        rcases z with ⟨z1, z2⟩ | ⟨z1, z2⟩ <;> omega
      · omega
      · cases z) (nE _ _ (by decide) (by decide)) (nE _ _ (by decide) (by decide)) (nE _ _ (by decide) (by decide)) (nE _ _ (by decide) (by decide))
    have sf5 : ENR r R → ∀ c, c ∈ cch R (rsB r) → SCF h5 R G c := fun EN c m => by
      have P := DP EN
      have hm : G 2 c ∈ sc := by rw [P.2.2.2.1]; exact List.mem_map.mpr ⟨c, m, rfl⟩
      have hm2 := hsc _ hm
      have h33 := X3.1
      obtain ⟨y1, y2, y3, y4, y5⟩ := (P.2.2.2.2.1 c m).1.pw w4 (by omega)
      exact ⟨by rw [X5.fJ (by omega) (nE _ _ (by decide) (by decide))]; exact y1, y2, by rw [X5.fI (by omega) (nE _ _ (by decide) (by decide))]; exact y3, by rw [X5.fI (by omega) (nE _ _ (by decide) (by decide))]; exact y4, y5⟩
    rw [bk_X5_takeNaming_17]
    refine ⟨c95, st_lambda (d := d + 7) (R := R) (h := h) (h3 := h3) (G := G) (wk := wk) (fS := fS) (what := 1) HB (by omega) A hr hD D0 d1 hl N2 ow (Or.inl rfl) st E6 CH5 K5 L5 (by omega) hB0 (fun a m => (hsc a m).2) DP sf5 ?_ ?_⟩
    · intro h6 h' h1 rc x ks' B' ns' fS' n xm tpm OD g Ac ec c125 dc Xc k4 tp1 E1 L1 ens fk crc tx BP
      have sm := small A
      obtain ⟨a1, a2, a3, a4, a5, a6, a7, a8, a9, a10, a11⟩ := cla_v Ac ec c125 dc
      obtain ⟨q1, q2, q3, q4, q5, q6, q7, q8, q9, q10, q11, q12⟩ := id OD
      obtain ⟨z1, z2, z3, OW, FC⟩ := cls_v hD q2 q4 q5 q6 q7 q8 q9 g ec dc sm.1
      have cl : stpF rc = takF (clA rc) 59 := by
        rw [close_is c125 (by omega), z2]
        unfold clB
        rw [if_pos rfl]
      have gk : goK D (n + 1) (stpF r) (stpF rc) := goK_tr (m := 1) (goL_K g) ⟨rng_in ec (by omega), RIL_pre Ac, by omega, rfl⟩
      have htp6 : tp h6 ≤ tp h' := Xc.1
      have t96 : tg h6 (tp h) = 9 := by rw [xm.tg htp5]; exact t95
      have t9' : tg h' (tp h) = 9 := by rw [Xc.tg (by omega)]; exact t96
      have t91 : tg h1 (tp h) = 9 := by rw [k4.tg (by omega)]; exact t9'
      have F6 := F5.fx xm htp5 (fun f hf z => by omega)
      have F' := F6.fx Xc (by omega) (fun f hf => EPa_no (by omega))
      have F1 := F'.fx k4 (by omega) (fun f hf z => by omega)
      simp only [psh, bk_X5_takeNaming_20, nn_some]
      refine ⟨t91, ?_⟩
      simp only [psh, bk_X5_takeNaming_21]
      rw [bk_X5_takeStatement_71, bk_X5_takeStatement_80]
      have E2 := E1.fp (f := 30809) (x := tp h) (some x) hU (by decide)
      have L2 := LST.fp L1 (f := 30809) (x := tp h) (some x) hU (by decide)
      have F2 := F1.sP 30809 (some x)
      have X2 : FX (fun g y => MK U g y ∨ (g = 30809 ∧ y = tp h) ∨ EPW T U g y) h' (setFP h1 30809 (tp h) (some x)) := (k4.mono (fun _ _ z => Or.inl z)).toFP _ (Or.inr (Or.inl ⟨rfl, rfl⟩))
      have t92 : tg (setFP h1 30809 (tp h) (some x)) (tp h) = 9 := t91
      have tp2 : tp (setFP h1 30809 (tp h) (some x)) = tp h' := tp1
      generalize setFP h1 30809 (tp h) (some x) = h2 at *
      refine ⟨E2.1.2.2.2.2.2.2.2.2.1, ?_⟩
      rw [show vi 24 = vi (nI 24) from rfl]
      refine p_take E2 (by omega) (fun h7 E7 w7 => ?_)
      simp only [psh, bk_X5_takeStatement_83]
      have L7 := L2.pw w7
      have F7 := F2.fx w7.1 (by omega) (fun f hf => EPW_no (by omega))
      have X7 := X2.tr (w7.1.mono (fun _ _ z => Or.inr (Or.inr z)))
      have t97 : tg h7 (tp h) = 9 := by rw [w7.1.tg (by omega)]; exact t92
      have tp7 : tp h7 = tp h' := by rw [w7.2.1]; exact tp2
      have XX : FX (EPn T U e0 (tp h) sc) h h7 := ((X5'.tr (xm.mono (fun g y z => Or.inl (Or.inr (Or.inr (Or.inr ⟨z.1, by omega⟩)))))).tr (EPa_en Xc)).tr (X7.mono (fun g y z => by
        rcases z with z | z | z
        · exact Or.inl (Or.inr (Or.inr (Or.inr ⟨z.1, by omega⟩)))
        · exact Or.inr ⟨by omega, by omega⟩
        · exact Or.inl (EPW_a z)))
      obtain ⟨tw, ok⟩ := tak_tew (TE.rf (r := clA rc)) a2 a2 a1.1 (c := 59) (t := 24) (by decide) rfl
      rw [← cl] at tw ok
      have fin : gi (stpF rc) 1452 = -1 → stpF rc = advF (clA rc) := fun w => by
        rw [cl]; unfold takF; rw [if_pos (ok.mp w)]
      have wq : ∀ w : RV, ai w = ai rc → wN w = wN rc → nsC w = nsC rc := fun w h1 h2 => by unfold nsC; rw [h2, h1]
      have w2 : wN (advF (clA rc)) = wN rc := by unfold wN; rw [gi_adv]; exact a5
      have ai2 : ai (advF (clA rc)) = ai rc := by rw [ai_adv]; exact a3
      have d2 : dN (advF (clA rc)) = D := by unfold dN; rw [gi_adv]; exact a9
      have aq := (a1.adv_q).1
      have e1 : rsN r = wN r * 120 + nsC r := rfl
      refine H h7 (stpF rc) ks' B' ns' fS' (n + 1) gk (E7.te tw) (EPn_end XX) L7 fk (fun w => ?_) (fun w => ?_) ⟨t97, by omega⟩ (fun EN => ?_)
      · rw [fin w]
        have wF := FC.1.1
        have w3 : wN (stpF r) = wN r := by unfold wN; rw [q3.1]
        have e2 : rsN rc = wN rc * 120 + nsC rc := rfl
        have := FC.1.2.1
        rw [wF, w3] at e2
        exact ⟨by rw [wq _ ai2 w2]; exact ens, by omega, by omega, d2⟩
      · have : tn (gi (stpF rc) 1452) = qN (clA rc) := by
          rw [tw.1, decide_eq_false (show ¬ tkn (clA rc) = 24 from fun y => w (ok.mpr ((tk_sign a1.1 (c := 59) (by decide)).mp y))), gT_f a2, (fai_w a1.1 a2).2]; rfl
        have ln := rt_len a1.1
        rw [a11.2.1, gi_adv, FC.1.2.2.2.2.1, q3.2.1] at ln
        omega
      · obtain ⟨ENc, G', bp, cc⟩ := BP EN
        have P := DP EN
        have EN' : ENR (stpF rc) R := ENc.step (rng_in ec (by omega))
        have fe := fin EN'.right
        obtain ⟨v20, v21, v22, ew, lb, FR, rl⟩ := st_vals A hr d0 d1 EN
        have v24 : al R 24 (rsN r) = gl (advF r) 21450 := by
          rw [(FR.2.1 24 _ (by omega) rl).2, (q12 24 (by omega) (by omega)).2]; exact x24
        have v25 : ai R 25 (rsN r) = nI pn := by
          rw [(FR.2.1 25 _ (by omega) rl).1, (q12 25 (by omega) (by omega)).1]; exact x25
        obtain ⟨y1, y2⟩ := val er nmd
        refine ⟨EN', one_fin (k := 1) (l := l) (nm := nm) (X1 := X1) (rc := rc) (by omega) rfl A hr hD D0 d1 OD x19 (fun q hq => by rw [xq q (by omega) (by omega)]) g ec dc gk EN'.right (by rw [fe]; exact ai2) (by rw [fe]; exact w2) (by rw [fe]; exact d2) (by rw [fe]; omega) EN EN' (fun c m => (P.2.2.2.2.1 c m).2) P.2.1 P.2.2.2.2.2.1 bp cc X7 (fun g y h1 h2 z => ?_) (by omega) htp6 t97 hU F7 (fun f h1 => by unfold up1; rw [if_neg h1]) (fun _ => ⟨?_, by rw [v24]; exact y2, ?_, by rw [v25]; exact ⟨pn, rfl, p0, pl⟩⟩) ⟨p, pq, by omega, by omega⟩ CTK.rf (fun c m => ?_) (fun c m => ?_)⟩
        · have := E4.1.2.1
          rcases z with z | z | z
          · omega
          · omega
          · rcases z with z | z
            · have := z.1; omega
            · omega
        · rw [v24]; exact y1
        · rw [v25]; rfl
        · have hm : G 2 c ∈ sc := by rw [P.2.2.2.1]; exact List.mem_map.mpr ⟨c, m, rfl⟩
          have hm2 := hsc _ hm
          rw [xm.fI (by omega) (fun z => by omega)]
          exact s5 _ (by omega)
        · have hm : G 2 c ∈ sc := by rw [P.2.2.2.1]; exact List.mem_map.mpr ⟨c, m, rfl⟩
          have hm2 := hsc _ hm
          refine X7.fI (by omega) (fun z => ?_)
          rcases z with z | z | z
          · omega
          · omega
          · exact EPW_no (by omega) z
    · intro h1 rw x ks' B' ns' fS' n gk bad Xw Ew Lw fk crw tx
      have t91 : tg h1 (tp h) = 9 := by rw [Xw.tg htp5]; exact t95
      have htp1 := Xw.1
      simp only [psh, bk_X5_takeNaming_20, nn_some]
      refine ⟨t91, ?_⟩
      simp only [psh, bk_X5_takeNaming_21]
      rw [bk_X5_takeStatement_71, bk_X5_takeStatement_80]
      have E2 := Ew.fp (f := 30809) (x := tp h) (some x) hU (by decide)
      have L2 := LST.fp Lw (f := 30809) (x := tp h) (some x) hU (by decide)
      have X2 : FX (EPn T U e0 (tp h) sc) h (setFP h1 30809 (tp h) (some x)) := (X5'.tr (EPa_en Xw)).toFP _ (Or.inr ⟨Nat.le_refl _, by decide⟩)
      have t92 : tg (setFP h1 30809 (tp h) (some x)) (tp h) = 9 := t91
      have tp2 : tp (setFP h1 30809 (tp h) (some x)) = tp h1 := rfl
      generalize setFP h1 30809 (tp h) (some x) = h2 at *
      refine ⟨E2.1.2.2.2.2.2.2.2.2.1, ?_⟩
      rw [show vi 24 = vi (nI 24) from rfl]
      refine p_take E2 (by omega) (fun h7 E7 w7 => ?_)
      simp only [psh, bk_X5_takeStatement_83]
      have e6 : ∀ c, gT c rw = rw := fun c => by unfold gT; rw [if_neg bad]
      rw [e6] at E7
      refine H h7 rw ks' B' ns' fS' n gk E7 (EPn_end (X2.tr (w7.1.mono (fun _ _ z => Or.inl (EPW_a z))))) (L2.pw w7) fk (fun z => absurd z bad) (fun _ => by omega) ⟨by rw [w7.1.tg (by omega)]; exact t92, by rw [w7.2.1]; omega⟩ (fun EN => absurd ((EN.step hr).go (goK_N gk)).right bad)
