theorem SCF.fx {E : Nat → Nat → Prop} {h h' : AH} {R : RV} {G : Nat → Nat → Nat} {c : Nat} (S : SCF h R G c) (x : FX E h h') (hl : G 2 c + 1 < tp h) (n : ¬ E 20303 (G 2 c) ∧ ¬ E 302 (G 2 c) ∧ ¬ E 603 (G 2 c + 1)) : SCF h' R G c := by
  obtain ⟨s1, s2, s3, s4, s5⟩ := S
  refine ⟨?_, s2, ?_, ?_, s5⟩
  · rw [x.fJ (by omega) n.1]; exact s1
  · rw [x.fI (by omega) n.2.1]; exact s3
  · rw [x.fI hl n.2.2]; exact s4
theorem SCF.cg {h : AH} {R : RV} {G G' : Nat → Nat → Nat} {c : Nat} (S : SCF h R G c) (e : G' 2 c = G 2 c) : SCF h R G' c := by
  unfold SCF at S ⊢
  rw [e]; exact S
theorem sc_4 {D : Nat} (HB : BLC D) : SC D 4 := by
  intro d h h3 Q T U e0 l il so sc r R nk par wk pk nm fW fS ks B B0 G hd A hr hD D0 d1 hl CH hsc K hs hn E3 L3 hU X3 t9 ⟨htp, ntg⟩ F3 cr hB0 DP H
  obtain ⟨d, rfl⟩ : ∃ j, d = j + 10 := ⟨d - 10, by omega⟩
  have d0 : 0 < dN r := by omega
  have c9 := E3.1.2.2.2.2.2.2.2.2.1
  obtain ⟨tk, k10⟩ := srt_kw hs (by omega)
  obtain ⟨p, g1, g2, g3⟩ := E3.pl
  have pq : gi r 1449 = nI p := by rw [← (E3.2.2.2.2 hr.1).1.2.1]; exact g1
  have cg := cr_ge A cr hB0
  obtain ⟨B, rfl⟩ : ∃ b, B = b + 1 := ⟨B - 1, by omega⟩
  obtain ⟨st, ne, n120⟩ := stp_kw A d0 d1 hs (by omega) hn
  rw [rsK_if] at st
  obtain ⟨M1, ho⟩ := MD_rsA (MD.start A hr.1) d0 n120
  have M2 := M1.adv (by rw [gi_rsA]; exact ne)
  have M3 : MD r (dN r) (0 + 1) (rsN r + 1) (tI (advF (rsA r)) 19 (rsN r) (nI 4)) := MDtI M2 _ _ (by decide)
  have te : TE (advF r) (tI (advF (rsA r)) 19 (rsN r) (nI 4)) := (TE_rsA.adv).tr (TE_tI (by decide))
  have er : gi (advF r) 1452 = -1 := by rw [gi_adv]; exact hr.1
  have nv := new_vals A
  have x19 : ai (tI (advF (rsA r)) 19 (rsN r) (nI 4)) 19 (rsN r) = nI 4 := by rw [ai_tI, if_pos ⟨rfl, rfl⟩]
  have xq : ∀ q, ¬ q = 19 → ai (tI (advF (rsA r)) 19 (rsN r) (nI 4)) q = ai (rsA r) q := fun q hq => by rw [ai_ne hq, ai_adv]
  have ow : OWN (tI (advF (rsA r)) 19 (rsN r) (nI 4)) 2 (nI (rsN r)) := own_of M3 (by decide) (by rw [xq 32 (by decide), (nv 32).2.2 (by omega)]; exact ⟨rfl, by decide⟩) (fun z => absurd z (by decide)) (xq 41 (by decide)) (xq 46 (by decide)) ho
  have q1 : qN r + 1 ≤ qN (tI (advF (rsA r)) 19 (rsN r) (nI 4)) := M3.2.2.2.2.2.2.2.2
  rw [if_neg (by omega), bk_X5_takeStatement_47]
  refine ⟨c9, p_take E3 (by omega) (fun h4 E4 w4 => ?_)⟩
  rw [decide_eq_true tk, gT_t hr.1] at E4
  simp only [psh]
  refine st_sw (by omega) ?_
  have e : (if (4 : Nat) = 0 then 80 else swAt [68, 68, 68, 52, 57, 57, 72, 80, 63, 76] (4 - 1) 80) = 52 := rfl
  rw [e]
  have L4 := L3.pw w4
  have t94 : tg h4 (tp h) = 9 := by rw [w4.1.tg htp]; exact t9
  have htp4 : tp h < tp h4 := by rw [w4.2.1]; exact htp
  have F4 := F3.fx w4.1 htp (fun f hf => EPW_no (by omega))
  have X4 : FX (ENX T U e0 (tp h)) h h4 := (X3.mono (fun _ _ z => Or.inr z)).tr (w4.1.mono (fun _ _ z => Or.inl z))
  have CH4 : CHN h4 U sc so := CHN.ep CH (w4.ep (e0 := e0) (sc := sc))
  have tT : T < U := by have := E3.1.2.1; omega
  have K4 : KD h4 (U + 1) nk par wk pk := K.ep (w4.ep (e0 := e0) (sc := sc)) tT L3.e0 (fun a m => (hsc a m).2)
  have c94 := E4.1.2.2.2.2.2.2.2.2.1
  have X4' : FX (EPn T U e0 (tp h) sc) h h4 := ENX_en X4
  have s4 : ∀ a, a < tp h → fI h4 10304 a = fI h 10304 a := fun a ha => X4.fI (by omega) (ENX_set (by omega))
  have hsc2 : ENR r R → ∀ c, c ∈ cch R (rsB r) → G 2 c + 1 < tp h ∧ U + 10 ≤ G 2 c := fun EN c m => by
    have P := DP EN
    exact hsc _ (by rw [P.2.2.2.1]; exact List.mem_map.mpr ⟨c, m, rfl⟩)
  have sf4 : ENR r R → ∀ c, c ∈ cch R (rsB r) → SCF h4 R G c := fun EN c m => by
    have hm2 := hsc2 EN c m
    have h33 := X3.1
    exact ((DP EN).2.2.2.2.1 c m).1.pw w4 (by omega)
  have E5 := E4.te (TEW.of te (by rw [M3.2.1]; exact er.symm))
  have sm := small A
  rw [bk_X5_takeStatement_52]
  refine ⟨c94, ?_⟩
  rw [bk_X5_takeIf_0]
  refine ⟨c94, st_block (d := d + 8) (R := R) (h := h) (h3 := h3) (G := G) (wk := wk) (l := l) (il := il) (fS := fS) (what := 2) HB (by omega) A hr hD D0 d1 (by omega) M3 ow (by decide) (by decide) st E5 CH4 K4 L4 (by omega) hB0 (by rw [if_neg (by decide), Nat.zero_add]) (by rw [if_neg (by decide), if_neg (by decide)]) DP sf4 ?_ ?_⟩
  · intro h' rc x ks' B' ns' fS' n OD g Ac ec c125 dc Ec Xc Lc ens fk crc tx BP
    obtain ⟨a1, a2, a3, a4, a5, a6, a7, a8, a9, a10, a11⟩ := cla_v Ac ec c125 dc
    obtain ⟨q1, q2, q3, q4, q5, q6, q7, q8, q9, q10, q11, q12⟩ := id OD
    obtain ⟨z1, z2, z3, OW, FC⟩ := cls_v hD q2 q4 q5 q6 q7 q8 q9 g ec dc sm.1
    have cl : stpF rc = if gl (clA rc) 21450 = 1701606245 then opB (advF (clA rc)) 27 (rsN r) 3 else clA rc := by
      rw [close_is c125 (by omega), z2, z3]
      rfl
    have gk : goK D (n + 1) (stpF r) (stpF rc) := goK_tr (m := 1) (goL_K g) ⟨rng_in ec (by omega), RIL_pre Ac, by omega, rfl⟩
    have w3 : wN (stpF r) = wN r := by unfold wN; rw [q3.1]
    have wc : wN rc = wN r := FC.1.1.trans w3
    have l1 : rsN r + 1 ≤ rsN rc := by have := FC.1.2.1; omega
    have l2 : nbN r + 1 ≤ nbN rc := by have := FC.1.2.2.1; omega
    have smc := small Ac
    have ln := rt_len a1.1
    rw [a11.2.1, gi_adv, FC.1.2.2.2.2.1, q3.2.1] at ln
    obtain ⟨B', rfl⟩ : ∃ b, B' = b + 1 := ⟨B' - 1, by omega⟩
    have htp' : tp h4 ≤ tp h' := Xc.1
    have t9' : tg h' (tp h) = 9 := by rw [Xc.tg htp4]; exact t94
    have F' := F4.fx Xc htp4 (fun f hf => EPa_no (by omega))
    have c9' := Ec.1.2.2.2.2.2.2.2.2.1
    have e1 : rsN r = wN r * 120 + nsC r := rfl
    have e2 : rsN rc = wN r * 120 + nsC rc := by rw [← wc]; rfl
    have o41 : ai rc 41 (rsB rc) = nI (rsN r) := by
      rw [z1, FC.2.2.1 41 _ (by omega) (by omega) (by omega)]; exact q9
    obtain ⟨Gm, hG⟩ : ∃ Gm, ENR r R → ENR rc R ∧ MBO h h4 h' U R G Gm r rc [nbN r] [] ks ks' fS' 0 0 ∧ Gm 1 (nbN r) = x := by
      by_cases EN : ENR r R
      · obtain ⟨ENc, G', bp, cc⟩ := BP EN
        have P := pbo_1 q2 q4 q5 q6 q7 q9 g ec Ac ENc
        have o3 := q3.2.2.1
        have hq : qN r + 2 + 0 ≤ qN (stpF r) := by
          have t := M3.2.2.2.2.2.2.2.2
          have := (opq (q := 26) (i := rsN r) (num := 0) (v := opV (tI (advF (rsA r)) 19 (rsN r) (nI 4))) M3 (Or.inl ⟨rfl, Or.inr d1⟩) ⟨by omega, by omega⟩ ow (Or.inr (Or.inl ⟨rfl, by omega⟩)) (by decide) (by decide) (fun z => absurd z (by decide))).1
          rw [show tI (opF (tI (advF (rsA r)) 19 (rsN r) (nI 4)) 2 (nI (rsN r)) 0) 26 (rsN r) (opV (tI (advF (rsA r)) 19 (rsN r) (nI 4))) = stpF r from st.symm] at this
          obtain ⟨-, -, y⟩ := this
          obtain ⟨-, y2, y3⟩ := y M3.2.1
          cases zo : okO (tI (advF (rsA r)) 19 (rsN r) (nI 4)) with
          | false =>
            have w := y2 zo
            rw [q1] at w
            rw [M3.1.q.1] at w
            exact absurd w.symm (nI_ne_m1 (by have := M3.1.q.2.1; omega))
          | true =>
            obtain ⟨-, -, y4, -⟩ := y3 zo
            rw [y4.q]
            have := (M3.1.adv_q).2 (by rw [okO_123 zo]; decide)
            omega
        obtain ⟨m1, m2⟩ := mbo_1 (W := 0) bp q7 q6 w3 l1 l2 cc hq P
        exact ⟨G', fun _ => ⟨ENc, m1, m2⟩⟩
      · exact ⟨fun _ _ => 0, fun z => absurd z EN⟩
    have E2 := Ec.fp (f := 30809) (x := tp h) (some x) hU (by decide)
    have L2 := LST.fp Lc (f := 30809) (x := tp h) (some x) hU (by decide)
    have F2 := F'.sP 30809 (some x)
    have xs : FX (fun g y => g = 30809 ∧ y = tp h) h' (setFP h' 30809 (tp h) (some x)) := FX.FP ⟨rfl, rfl⟩
    have t92 : tg (setFP h' 30809 (tp h) (some x)) (tp h) = 9 := t9'
    have tp2 : tp (setFP h' 30809 (tp h) (some x)) = tp h' := rfl
    simp only [psh, bk_X5_takeIf_3, nn_some]
    refine ⟨t9', c9', ?_⟩
    generalize setFP h' 30809 (tp h) (some x) = h2 at *
    have X2 : FX (EPn T U e0 (tp h) sc) h h2 := (X4'.tr (EPa_en Xc)).tr (xs.mono (fun g y z => Or.inr ⟨by omega, by omega⟩))
    have kw17 : lN (kwN 17) = 1701606245 := by decide +kernel
    have tl : ∀ q, q = 27 ∨ q = 28 ∨ q = 29 ∨ q = 32 → ai rc q (rsN r) = ai (rsA r) q (rsN r) := fun q hq => by
      rw [OW.1 q hq, (q12 q (by omega) (by omega)).1, xq q (by omega)]
    rw [show vi 17 = vi (nI 17) from rfl]
    refine p_skip (d := d + 2) E2 (by omega) (fun _ t17 h5 E6 w5 => ?_) (fun n17 => ?_)
    · -- else
      simp only [psh]
      rw [bk_X5_takeIf_7]
      refine ⟨fun z => absurd z (by decide), fun _ => ?_⟩
      have s17 : gl (clA rc) 21450 = 1701606245 := by rw [← kw17]; exact (tk_kw a1.1 (by omega)).mp t17
      have st2 : stpF rc = tI (opF (advF (clA rc)) 3 (nI (rsN r)) 0) 27 (rsN r) (opV (advF (clA rc))) := by rw [cl, if_pos s17]; rfl
      have MX : MD rc D (1 + 1) (rsN rc) (advF (clA rc)) := (md_cl Ac ec c125 dc).adv (ne_end a1.1 (by rw [s17]; decide))
      have OX : OWN (advF (clA rc)) 3 (nI (rsN r)) := own_cl Ac c125 dc o41 MX (by rw [ai_adv, a3]) (by rw [wc]; exact Nat.le_add_right _ _) (by omega) (by decide) (by decide) (by rw [ai_adv, a3, tl 32 (by omega), (nv 32).2.2 (by omega)]; exact ⟨rfl, by decide⟩)
      have L5 := L2.pw w5
      have tp5 := w5.2.1
      have X25 : FX (fun g y => (g = 30809 ∧ y = tp h) ∨ EPW T U g y) h' h5 := (xs.mono (fun _ _ z => Or.inl z)).tr (w5.1.mono (fun _ _ z => Or.inr z))
      have X5 : FX (EPn T U e0 (tp h) sc) h h5 := X2.tr (w5.1.mono (fun _ _ z => Or.inl (EPW_a z)))
      have t95 : tg h5 (tp h) = 9 := by rw [w5.1.tg (by omega)]; exact t92
      have F5 := F2.fx w5.1 (by omega) (fun f hf => EPW_no (by omega))
      have CH5 : CHN h5 U sc so := CHN.ep (CHN.fx xs (fun a => ⟨fun z => by omega, fun z => by omega⟩) (CHN.ep CH4 Xc)) (w5.ep (e0 := e0) (sc := sc))
      have K5 : KD h5 (U + 1) nk par wk pk := ((K4.ep Xc tT L3.e0 (fun a m => (hsc a m).2)).fx xs (fun g z => by omega) (fun z => by omega) (fun z => by omega) (fun z => by omega) (fun z => by omega)).ep (w5.ep (e0 := e0) (sc := sc)) tT L3.e0 (fun a m => (hsc a m).2)
      have c95 := E6.1.2.2.2.2.2.2.2.2.1
      have aq := (a1.adv_q).1
      rw [bk_X5_takeIf_8]
      refine ⟨c95, nx_block (d := d + 8) (R := R) (h3 := h3) (G := G) (Gm := Gm) (fS0 := fS) (wk := wk) (so := so) (sc := sc) (sc' := sc) (X := advF (clA rc)) (what := 3) (num := 0) (q := 27) (i := rsN r) HB (by omega) A hr hD D0 d1 (by omega) (goL_K g) Ac ec c125 dc o41 MX OX (by decide) (by decide) (by decide) (fun z => absurd z (by decide)) st2 E6 CH5 K5 L5 ens (by omega) hB0 DP (fun EN _ => ?_) (fun EN _ => ?_) ?_ ?_⟩
      · obtain ⟨-, m, -⟩ := hG EN
        intro k hk
        exact m.2.1 k (by omega)
      · obtain ⟨-, m, -⟩ := hG EN
        have P := DP EN
        rw [if_neg (by decide), List.nil_append]
        have ge : ∀ c, c ∈ cch R (rsB r) → Gm 2 c = G 2 c := fun c hm => m.1.1.2.2 c (P.2.2.2.2.1 c hm).2
        refine ⟨?_, fun c hm _ _ => ?_⟩
        · rw [P.2.2.2.1]
          exact List.map_congr_left (fun c hm => (ge c hm).symm)
        · have hm2 := hsc2 EN c hm
          refine SCF.cg (G := G) ?_ (ge c hm)
          have S1 := (sf4 EN c hm).fx Xc (by omega) ⟨EPa_no (by omega), EPa_no (by omega), EPa_no (by omega)⟩
          exact S1.fx X25 (by omega) ⟨fun z => by rcases z with z | z; omega; exact EPW_no (by omega) z, fun z => by rcases z with z | z; omega; exact EPW_no (by omega) z, fun z => by rcases z with z | z; omega; exact EPW_no (by omega) z⟩
      · intro h6 rd x2 ks6 B6 ns6 fS6 n' OE g' Ad ed c125' dd Ed Xd Ld ens' fk' crd tx' BP'
        obtain ⟨b1, b2, b3, b4, b5, b6, b7, b8, b9, b10, b11⟩ := cla_v Ad ed c125' dd
        obtain ⟨o1, o2, o3, o4, o5, o6, o7, o8, o9, o10, o11, o12, o13, o14, o15, o16⟩ := id OE
        obtain ⟨y1, y2, y3, OWd, FD⟩ := cls_w o2 o4 o5 o6 (s := rsN r) (by omega) o8 o9 g' ed dd
        have cl2 : stpF rd = clA rd := by
          rw [close_is c125' (by omega), y2]
          rfl
        have gk2 : goK D (n + 1 + n' + 1) (stpF r) (clA rd) := by
          rw [← cl2]
          exact goK_tr (m := 1) (goK_tr gk (goL_K g')) ⟨rng_in ed (by omega), RIL_pre Ad, by omega, rfl⟩
        have htp6 : tp h5 ≤ tp h6 := Xd.1
        have t96 : tg h6 (tp h) = 9 := by rw [Xd.tg (by omega)]; exact t95
        have F6 := (F5.fx Xd (by omega) (fun f hf => EPa_no (by omega))).sP 30810 (some x2)
        have E7 := Ed.fp (f := 30810) (x := tp h) (some x2) hU (by decide)
        have L7 := LST.fp Ld (f := 30810) (x := tp h) (some x2) hU (by decide)
        have xs7 : FX (fun g y => g = 30810 ∧ y = tp h) h6 (setFP h6 30810 (tp h) (some x2)) := FX.FP ⟨rfl, rfl⟩
        have t97 : tg (setFP h6 30810 (tp h) (some x2)) (tp h) = 9 := t96
        have tp7 : tp (setFP h6 30810 (tp h) (some x2)) = tp h6 := rfl
        simp only [psh, bk_X5_takeIf_11, nn_some]
        refine ⟨t96, ?_⟩
        simp only [bk_X5_takeIf_12, psh, bk_X5_takeStatement_55]
        generalize setFP h6 30810 (tp h) (some x2) = h7 at *
        have X7 : FX (EPn T U e0 (tp h) sc) h h7 := (X5.tr (EPa_en Xd)).tr (xs7.mono (fun g y z => Or.inr ⟨by omega, by omega⟩))
        have wd : wN rd = wN r := FD.1.1.trans o16
        have k1 : rsN rc ≤ rsN rd := by have := FD.1.2.1; omega
        have k2 : nbN rc + 1 ≤ nbN rd := by have := FD.1.2.2.1; omega
        have e3 : rsN rd = wN r * 120 + nsC rd := by rw [← wd]; rfl
        refine H h7 (clA rd) ks6 B6 ns6 fS6 (n + 1 + n' + 1) gk2 E7 (EPn_end X7) L7 (fun k hk => ?_) (fun _ => ⟨by omega, by omega, crd, b9⟩) (fun z => absurd b2 z) ⟨t97, by omega⟩ (fun EN => ?_)
        · rw [fk' k (by omega)]; exact fk k hk
        · obtain ⟨ENc, ENd, G', bp, cc⟩ := BP' EN
          obtain ⟨-, m1, m2⟩ := hG EN
          have P := DP EN
          have EN' : ENR (clA rd) R := by rw [← cl2]; exact ENd.step (rng_in ed (by omega))
          have hc : ∀ c, c ∈ cch R (rsB r) → c / 4 < rsN r := fun c m => (P.2.2.2.2.1 c m).2
          rw [if_neg (by decide), List.nil_append] at cc
          have m3 := mbo_fx m1 X25 (fun g y h1 h2 z => by
            rcases z with z | z
            · omega
            · rcases z with z | z
              · have := z.1; omega
              · omega) (fun c m => by
            have := hsc2 EN c m
            exact ⟨by omega, fun z => by rcases z with z | z; omega; exact EPW_no (by omega) z⟩) CTK.rf htp'
          have PB := pbo_step m1.2.2.2.2.2.2.2.2 (by omega) l1 o2 o4 o5 o6 o7 o9 g' ed Ad ENd
          obtain ⟨m4, m5, m6, m7, m8, m9⟩ := mbo_step (W' := 0) m3 bp Xd o7 o6 o16 l1 (by omega) k1 k2 (fun a m h1 => by have := hsc a m; omega) tT (by omega) (by omega) (fun c m => by rw [cc]; exact m) hc (by have := MX.2.2.2.2.2.2.2.2; omega) (by omega) (fun j hj => by omega) PB
          have m10 := mbo_fx m4 xs7 (fun g y h1 h2 z => by omega) (fun c m => by
            have := hsc2 EN c m
            exact ⟨by omega, fun z => by omega⟩) CTK.rf (by omega)
          have CL := (st_cls A hr d0 d1 (by rw [hD]; exact gk2) b2 (by omega)).1
          obtain ⟨kk, -⟩ := cls_en EN' b1 CL
          have tl2 : ∀ q, q = 28 ∨ q = 29 ∨ q = 32 → ai R q (rsN r) = ai (rsA r) q (rsN r) := fun q hq => by
            rw [kk q (by omega), b3, OWd.1 q (by omega), o12 q (by omega) (by omega), ai_adv, a3]; exact tl q (by omega)
          have v27 : ai R 27 (rsN r) = nI (nbN rc) := by rw [kk 27 (by omega), b3, OWd.1 27 (by omega)]; exact o11
          have FE := FZ_en (ENc.step (rng_in ec (by omega))) o2
          have FRd := FZ_en EN' b1
          have nbR : nbN rd ≤ nbN R := by rw [← b7]; exact FRd.1.2.2.1
          have wR : wN R = wN r := (FE.1.1).trans o16
          refine ⟨EN', if_fin (rc := rd) (x1 := x) (y := some x2) (l := l) (nm := nm) (bs := [nbN r, nbN rc]) A hr hD D0 d1 EN hc P.2.1 P.2.2.2.2.2.1 m10 OD x19 (by omega) (by omega) nbR htp4 (by omega) t97 hU F6 (fun f h1 h2 => ?_) ?_ ?_ ?_ (Or.inr ⟨nbN rc, v27, Or.inr ⟨nbN rc, rfl, ?_, by omega, ?_, ?_, ?_⟩, ?_, rfl, by omega⟩) (small Ad).2 ?_ ?_ ?_ ⟨p, pq, by omega, by omega⟩ b5 b6 b7 (by omega) CTK.rf (fun c m => s4 _ (by have := hsc2 EN c m; omega))⟩
          · unfold up1; rw [if_neg h2, if_neg h1]
          · unfold up1; rw [if_neg (by decide), if_pos rfl]
          · unfold up1; rw [if_pos rfl]
          · rw [(m7 (nbN r) (by omega)).1]; exact m2
          · rw [wR, ← wc]; exact Nat.le_add_right _ _
          · rw [FE.2.2.1 40 _ (by omega) (by omega) (by omega)]; exact o8
          · rw [FE.2.2.1 41 _ (by omega) (by omega) (by omega)]; exact o9
          · rw [FE.2.2.1 42 _ (by omega) (by omega) (by omega)]; exact o10
          · rw [m5]
          · rw [tl2 28 (by omega)]; exact (nv 28).2.1 (by omega)
          · rw [tl2 29 (by omega)]; exact (nv 29).2.2 (by omega)
          · rw [tl2 32 (by omega)]; exact (nv 32).2.2 (by omega)
      · intro h6 rw x2 ks6 B6 ns6 fS6 n' gk' bad Ew Xw Lw fk' crw tx'
        have t96 : tg h6 (tp h) = 9 := by rw [Xw.tg (by omega)]; exact t95
        have htp6 : tp h5 ≤ tp h6 := Xw.1
        have gk2 := goK_tr gk gk'
        simp only [psh, bk_X5_takeIf_11, nn_some]
        refine ⟨t96, ?_⟩
        simp only [bk_X5_takeIf_12, psh, bk_X5_takeStatement_55]
        refine H _ rw ks6 B6 ns6 fS6 _ gk2 (Ew.fp (some x2) hU (by decide)) (EPn_end ((X5.tr (EPa_en Xw)).toFP _ (Or.inr ⟨Nat.le_refl _, by decide⟩))) (LST.fp Lw (some x2) hU (by decide)) (fun k hk => ?_) (fun z => absurd z bad) (fun _ => by omega) ⟨t96, by show tp h < tp h6; omega⟩ (fun EN => absurd ((EN.step hr).go (goK_N gk2)).right bad)
        rw [fk' k (by omega)]; exact fk k hk
    · -- no else
      have s17 : ¬ gl (clA rc) 21450 = 1701606245 := fun z => n17 a2 ((tk_kw a1.1 (by omega)).mpr (by rw [kw17]; exact z))
      rw [if_neg s17] at cl
      rw [cl] at gk
      simp only [psh]
      rw [bk_X5_takeIf_7]
      refine ⟨fun _ => ?_, fun z => absurd rfl z⟩
      simp only [bk_X5_takeIf_12, psh, bk_X5_takeStatement_55]
      refine H h2 (clA rc) ks' (B' + 1) ns' fS' (n + 1) gk E2 (EPn_end X2) L2 fk (fun _ => ⟨by omega, by omega, crc, a9⟩) (fun z => absurd a2 z) ⟨t92, by omega⟩ (fun EN => ?_)
      obtain ⟨ENc, m1, m2⟩ := hG EN
      have P := DP EN
      have EN' : ENR (clA rc) R := by rw [← cl]; exact ENc.step (rng_in ec (by omega))
      have m3 := mbo_fx m1 xs (fun g y h1 h2 z => by omega) (fun c m => by
        have := hsc2 EN c m
        exact ⟨by omega, fun z => by omega⟩) CTK.rf htp'
      have CL := (st_cls A hr d0 d1 (by rw [hD]; exact gk) a2 (by omega)).1
      obtain ⟨kk, -⟩ := cls_en EN' a1 CL
      have tl2 : ∀ q, q = 27 ∨ q = 28 ∨ q = 29 ∨ q = 32 → ai R q (rsN r) = ai (rsA r) q (rsN r) := fun q hq => by
        rw [kk q hq, a3]; exact tl q hq
      have FRd := FZ_en EN' a1
      refine ⟨EN', if_fin (rc := rc) (x1 := x) (y := none) (l := l) (nm := nm) (bs := [nbN r]) A hr hD D0 d1 EN (fun c m => (P.2.2.2.2.1 c m).2) P.2.1 P.2.2.2.2.2.1 m3 OD x19 l1 (by omega) (by rw [← a7]; exact FRd.1.2.2.1) htp4 (by omega) t92 hU F2 (fun f h1 h2 => ?_) ?_ ?_ m2 (Or.inl ⟨?_, rfl, rfl⟩) smc.2 ?_ ?_ ?_ ⟨p, pq, by omega, by omega⟩ a5 a6 a7 (by omega) CTK.rf (fun c m => s4 _ (by have := hsc2 EN c m; omega))⟩
      · unfold up1; rw [if_neg h1]
      · unfold up1; rw [if_pos rfl]
      · unfold up1; rw [if_neg (by decide)]
      · rw [tl2 27 (by omega)]; exact (nv 27).2.1 (by omega)
      · rw [tl2 28 (by omega)]; exact (nv 28).2.1 (by omega)
      · rw [tl2 29 (by omega)]; exact (nv 29).2.2 (by omega)
      · rw [tl2 32 (by omega)]; exact (nv 32).2.2 (by omega)
  · intro h' rw x ks' B' ns' fS' n gk bad Ew Xw Lw fk crw tx
    have t9' : tg h' (tp h) = 9 := by rw [Xw.tg htp4]; exact t94
    have htp' : tp h4 ≤ tp h' := Xw.1
    have c9' := Ew.1.2.2.2.2.2.2.2.2.1
    simp only [psh, bk_X5_takeIf_3, nn_some]
    refine ⟨t9', c9', ?_⟩
    rw [show vi 17 = vi (nI 17) from rfl]
    have E2 := Ew.fp (f := 30809) (x := tp h) (some x) hU (by decide)
    refine p_skip (d := d + 2) E2 (by omega) (fun y => absurd y bad) (fun _ => ?_)
    simp only [psh]
    rw [bk_X5_takeIf_7]
    refine ⟨fun _ => ?_, fun z => absurd rfl z⟩
    simp only [bk_X5_takeIf_12, psh, bk_X5_takeStatement_55]
    exact H _ rw ks' B' ns' fS' n gk E2 (EPn_end ((X4'.tr (EPa_en Xw)).toFP _ (Or.inr ⟨Nat.le_refl _, by decide⟩))) (LST.fp Lw (some x) hU (by decide)) fk (fun z => absurd z bad) (fun _ => by omega) ⟨t9', by show tp h < tp h'; omega⟩ (fun EN => absurd ((EN.step hr).go (goK_N gk)).right bad)
