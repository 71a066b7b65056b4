/-! A method is told -/
theorem rmA_v (Y : RV) (m : Nat) : al (rmA Y m) 9 m = gl Y 21453 ∧ ai (rmA Y m) 10 m = gi Y 1454 ∧ al (rmA Y m) 11 m = 0 ∧ ai (rmA Y m) 17 m = -1 := by
  unfold rmA
  refine ⟨?_, ?_, ?_, ?_⟩
  · rw [al_tI, al_tI, al_tL, if_neg (fun z => absurd z.1 (by decide)), al_tI, al_tL, if_pos ⟨rfl, rfl⟩]
  · rw [ai_tI, if_neg (fun z => absurd z.1 (by decide)), ai_tI, if_neg (fun z => absurd z.1 (by decide)), ai_tL, ai_tI, if_pos ⟨rfl, rfl⟩]
  · rw [al_tI, al_tI, al_tL, if_pos ⟨rfl, rfl⟩]
  · rw [ai_tI, if_pos ⟨rfl, rfl⟩]
theorem TE_rmA {Y : RV} {m : Nat} : TE Y (rmA Y m) := TE_tL.tr ((TE_tI (by decide)).tr (TE_tL.tr ((TE_tI (by decide)).tr (TE_tI (by decide)))))
theorem TE_rmO {Y : RV} {m : Nat} : TE Y (rmO Y m) := TE_tL.tr (TE_tI (by decide))
theorem MD_rmA {r Y : RV} {k c n m : Nat} (M : MD r k c n Y) : MD r k c n (rmA Y m) := MDtI (MDtI (MDtL (MDtI (MDtL M _ _ _) _ _ (by decide)) _ _ _) _ _ (by decide)) _ _ (by decide)
theorem MD_rmO {r Y : RV} {k c n m : Nat} (M : MD r k c n Y) : MD r k c n (rmO Y m) := MDtI (MDtL M _ _ _) _ _ (by decide)
theorem rmO_v (Y : RV) (m : Nat) : al (rmO Y m) 11 m = gl Y 21453 ∧ ai (rmO Y m) 12 m = gi Y 1454 ∧ (∀ q, ¬ q = 12 → ai (rmO Y m) q = ai Y q) ∧ ∀ q, ¬ q = 11 → al (rmO Y m) q = al Y q := by
  unfold rmO
  refine ⟨?_, ?_, fun q hq => ?_, fun q hq => ?_⟩
  · rw [al_tI, al_tL, if_pos ⟨rfl, rfl⟩]
  · rw [ai_tI, if_pos ⟨rfl, rfl⟩]
  · rw [ai_ne hq, ai_tL]
  · rw [al_tI]; funext j; rw [al_tL, if_neg (fun z => hq z.1)]
theorem nam_54 (Z : RV) : gi (namF Z) 1454 = gi Z 1449 := by unfold namF; rw [gi_adv]; rfl
theorem p_way {d : Nat} (HB : BLC 0) {hB h : AH} {Q : Option V → AH → Prop} {T U e0 : Nat} {r R : RV} {a0 B0 nk : Nat} {par : Nat → Nat} {wk : Nat → Int64} {pk : Nat → Int32} {nm : Nat} {fW : Nat → Nat} {ns : Nat} {fS : Nat → Nat} {ks : List Nat} {B : Nat} {G : Nat → Nat → Nat} (hd : 180 ≤ d + 9) (S : TOS hB T U e0 R a0 B0 h r nk par wk pk nm fW ns fS ks B G) (hk : gl r 21450 = 7823737)
    (H1 : ∀ h' r' nm' fW' ns' fS' ks' B' G' n, goN n (stpF r) r' → TOS hB T U e0 R a0 B0 h' r' nk par wk pk nm' fW' ns' fS' ks' B' G' → Q none h')
    (H2 : ∀ h' r' nm' fW' ns' fS' ks' B' n, goN n (stpF r) r' → ¬ gi r' 1452 = -1 → ES h' T U e0 0 r' 0 0 false none → LST h' U e0 nm' fW' ns' fS' ks' B' → B0 ≤ B' + 3 * tn (gi r 1448) + 20 → FX (EPT T U e0) hB h' → Q none h') : wp (d + 10) K_X5_tellWay 0 [] [(0, vr (some (U + 9)))] h Q := by
  obtain ⟨⟨A, er, dr⟩, E, K, L, ⟨ek, em, en⟩, ⟨cr, hB0⟩, ⟨ha0, ha1⟩, XB, TL⟩ := id S
  have d0 : gi r 1455 = 0 := by rw [A.d.1, dr]; rfl
  have nend : ¬ gi r 1451 = -1 := ne_end A.1 (by rw [hk]; decide)
  have st : stpF r = rmF r := by
    unfold stpF
    rw [if_pos d0, if_neg (by rw [hk]; decide), if_pos hk]
  have len := rt_len A.1
  have c12 := A.2.2.2.2.2.1
  have nm12 : nm ≤ 12 := by rw [em]; exact c12.2
  have ai8 : ai r 8 (wN r) = nI nm := by rw [em]; exact c12.1
  have tT : T < U := by have := E.1.2.1; omega
  have he := L.e0
  have hU : U + 10 ≤ tp h := by omega
  have CF : ∀ {h' : AH} {m : Nat} {r' : RV}, ES h' T U e0 m r' 0 0 false none → tg h' (U + 9) = 8 ∧ fP h' 30700 (U + 9) = some T ∧ fP h' 30701 (U + 9) = some U ∧ tg h' U = 11 ∧ fP h' 31001 U = some (U + 6) ∧ tg h' T = 10 := fun E' => ⟨E'.1.2.2.2.2.2.2.2.2.1, E'.1.2.2.2.2.2.2.2.2.2.1, E'.1.2.2.2.2.2.2.2.2.2.2, E'.1.2.2.2.1, E'.1.2.2.2.2.2.1, E'.2.1.1⟩
  obtain ⟨c9, c10, c11, c4, c6, cT⟩ := CF E
  obtain ⟨B, rfl⟩ : ∃ b, B = b + 7 := ⟨B - 7, by omega⟩
  have XT : ∀ h7, FX (ENX T U e0 (tp h)) h h7 → FX (EPT T U e0) hB h7 := fun h7 w1 => XB.tr (w1.mono (fun g z w => by
    rcases w with w | w | w
    · exact Or.inl (EPW_a w)
    · exact Or.inl (Or.inr (Or.inl w))
    · exact Or.inr (Or.inr (Or.inr ⟨by omega, w.2⟩))))
  obtain ⟨eW, eS, eM, aW, aS, restL⟩ := id L
  rw [bk_X5_tellWay_0, c11, nn_some, c6, nn_some, l_size aW]
  refine ⟨c9, c4, aW.1, ?_⟩
  simp only [psh]
  rw [bk_X5_tellWay_4, show (12 : Int32) = nI 12 from rfl, nI_ltI (by omega) (by omega)]
  refine ⟨fun n12 => ?_, fun z => ?_⟩
  rotate_left
  · have es : stpF r = faiF r := by
      rw [st]; unfold rmF
      rw [if_pos (by rw [ai8, show nm = 12 by omega]; rfl)]
    rw [bk_X5_tellWay_6]
    refine ⟨c9, p_refuse E (fun h' E' w' => ?_)⟩
    rw [gT_f er] at E'
    simp only [psh, bk_X5_tellWay_8]
    rw [← es] at E'
    exact H2 h' (stpF r) nm fW ns fS ks (B + 7) 0 rfl (by rw [es]; exact (fai_w A.1 er).1) E' (L.pw w') (by omega) (XB.tr w'.tp)
  have n12' : ¬ ai r 8 (wN r) = 12 := fun y => by
    rw [ai8] at y
    have := congrArg tn y
    rw [tn_nI (by omega)] at this
    have : nm = 12 := this
    omega
  have kw13 : lN (kwN 13) = 7823737 := by decide +kernel
  have kw14 : lN (kwN 14) = 1870030194 := by decide +kernel
  have tk13 : tkn r = 13 := (tk_kw A.1 (by omega)).mpr (by rw [kw13]; exact hk)
  rw [bk_X5_tellWay_9, show vi 13 = vi (nI 13) from rfl]
  refine ⟨c9, p_take (d := d + 3) E (by omega) (fun h1 E1 w1 => ?_)⟩
  rw [decide_eq_true tk13, gT_t er] at E1
  have r1 : gi (advF r) 1452 = -1 := by rw [gi_adv]; exact er
  have aq := (A.adv_q).2 nend
  have E1 := E1.m1 r1 (by omega)
  have tp1 := w1.2.1
  simp only [psh]
  refine p_newW (d := d) (B := B + 6) E1 (L.pw w1) (fun h2 E2 L2 t2 F2 N2 X2 tp2 => ?_)
  rw [tp1] at *
  have K2 : KD h2 (U + 1) nk par wk pk := (K.pw w1 tT).fx X2 (fun g z => z) (fun z => z) (fun z => z) (fun z => z) (fun z => z)
  have W2 : WYP h h2 T U e0 nk par wk pk nm fW ns fS ks (B + 6) (up1 (fun _ => 0) 1206 (-1)) (fun _ => 0) (up1 (fun _ => none) 31200 (some (tp h + 1))) := ⟨(w1.1.mono (fun _ _ z => Or.inl z)).tr (X2.mono (fun _ _ z => z.elim)), K2, t2, F2, L2, by omega⟩
  obtain ⟨c9, c10, c11, c4, c6, cT⟩ := CF E2
  obtain ⟨p1, hp1, hp1a, hp1b⟩ := E2.pl
  have pa1 : gi (advF r) 1449 = nI p1 := by rw [← (E2.2.2.2.2 r1).1.2.1]; exact hp1
  rw [bk_X5_tellWay_15, c10, nn_some, nn_some, hp1]
  have W3 := W2.fi hU 1202 (by decide) (nI p1)
  have E3 := E2.fi (f := 1202) (x := tp h) (nI p1) hU (by decide)
  have N3 := N2.fI (f := 1202) (x := tp h) (nI p1) (by decide) (by decide)
  have c93 : tg (setFI h2 1202 (tp h) (nI p1)) (U + 9) = 8 := c9
  refine ⟨c9, cT, t2, c93, ?_⟩
  generalize setFI h2 1202 (tp h) (nI p1) = h3 at *
  refine p_takeName (d := d + 3) E3 (fun h4 x1 E4 w4 val1 => ?_)
  generalize e2 : gT (decide (tkn (advF r) = 27)) (advF r) = a2 at E4
  have W4 := W3.pw w4 tT
  have N4 := N3.pw w4
  simp only [psh]
  have W5 := W4.fj hU 21201 (by decide) x1
  have E5 := E4.fj (f := 21201) (x := tp h) x1 hU (by decide)
  have N5 := N4.fJ (f := 21201) (x := tp h) x1 (by decide) (by decide)
  have j5 : fJ (setFJ h4 21201 (tp h) x1) 21201 (tp h) = x1 := by rw [fJ_setFJ, if_pos ⟨rfl, rfl⟩]
  have p5 : fP (setFJ h4 21201 (tp h) x1) 30701 (U + 9) = some U := E5.1.2.2.2.2.2.2.2.2.2.2
  have t4 : tg h4 (tp h) = 13 := W4.2.2.1
  have t5 : tg (setFJ h4 21201 (tp h) x1) (tp h) = 13 := t4
  obtain ⟨c95, c105, c115, c45, c65, cT5⟩ := CF E5
  rw [bk_X5_tellWay_24, nn_some, nn_some, j5, p5, nn_some]
  refine ⟨t4, c95, t5, c45, ?_⟩
  generalize setFJ h4 21201 (tp h) x1 = h5 at *
  -- names that were there
  have fj : ffst (fun m => decide (fJ h5 21201 (fW m) = x1)) nm 0 = ffst (fun m => decide (fJ h 21201 (fW m) = x1)) nm 0 := by
    refine ffst_cg _ _ (fun i _ hi => ?_)
    have fl := (aW.2.2.2.2.2.2.2.2 i (by omega)).2.2
    rw [W5.1.fJ fl (fun w => ?_)]
    rcases w with w | w | w
    · exact EPW_no (by omega) w
    · exact ELs_no (by omega) w
    · omega
  have C44 : ∀ h6 ks6 b a2', b = B + 5 → WYP h h6 T U e0 nk par wk pk (nm + 1) (up1 fW nm (tp h)) ns fS ks6 b (up1 (up1 (fun _ => 0) 1206 (-1)) 1202 (nI p1)) (up1 (fun _ => 0) 21201 x1) (up1 (fun _ => none) 31200 (some (tp h + 1))) → ES h6 T U e0 1 a2' 0 0 false none → a2' = a2 → NDr h6 (tp h + 1) 0 1 (fun _ => 0) (fun _ => 0) → CTK ks6 (lif (decide (¬ ffst (fun m => decide (fJ h 21201 (fW m) = x1)) nm 0 = none)) (keyN p1 2 0)) ks → wp (d + 10) K_X5_tellWay 44 [vi 1] [(0, vr (some (U + 9))), (1, vr (some (tp h)))] h6 Q := by
    intro h6 ks6 b a2' eb W6 E6 ea N6 ct
    subst eb ea
    have T1 := RT_adv A.1.1
    have n1 := tk_name T1
    have c96 := E6.1.2.2.2.2.2.2.2.2.1
    by_cases z27 : tkn (advF r) = 27
    rotate_left
    · -- no name
      rw [decide_eq_false z27, gT_f r1] at e2
      have es : stpF r = faiF (advF r) := by
        rw [st]; unfold rmF
        rw [if_neg n12', if_pos (by
          cases y : okN (advF r) with
          | true => exact absurd (n1.mpr y) z27
          | false => rfl)]
      have bad : ¬ gi a2' 1452 = -1 := by rw [← e2]; exact (fai_w T1 r1).1
      have lw : gi a2' 1448 = gi r 1448 := by rw [← e2, gi_fai, gi_adv]
      obtain ⟨x1', x2, x3, x4, x5, x6⟩ := W6
      refine ww_44 (B := B + 4) (B0 := B0) HB hd E6 bad x2 x5 (by rw [lw]; omega) (by rw [lw]; exact hB0) hU x3 (by omega) (fun h' ks' B' nm' fW' ns' fS' E' X' L' c' => ?_)
      rw [lw] at c'
      rw [← e2, ← es] at E'
      exact H2 h' (stpF r) nm' fW' ns' fS' ks' B' 0 rfl (by rw [es, e2]; exact bad) E'.m0 L' c' ((XT h6 x1').tr X')
    rw [decide_eq_true z27, gT_t r1] at e2
    have on := n1.mp z27
    obtain ⟨vx, wv⟩ := val1 r1 z27
    have r2 : gi a2' 1452 = -1 := by rw [← e2, gi_adv]; exact r1
    have st0 : stpF r = rmB (rmA (namF (advF r)) (rmI r)) (rmI r) := by
      rw [st]; unfold rmF
      rw [if_neg n12', if_neg (by rw [on]; decide)]
    have M1 := (MD.start A er).adv nend
    rw [dr] at M1
    have M2 := MD_rmA (m := rmI r) (M1.nam on)
    have te2 : TE a2' (rmA (namF (advF r)) (rmI r)) := by rw [← e2]; exact TE_nam.tr TE_rmA
    obtain ⟨v9, v10, v11, v17⟩ := rmA_v (namF (advF r)) (rmI r)
    rw [nam_w] at v9
    rw [nam_54, pa1] at v10
    have v14 := ai14_rmA (namF (advF r)) (rmI r)
    have k0 : KE8 r (rmA (namF (advF r)) (rmI r)) := ⟨by rw [gi_rmA, gi_nam, gi_adv], by rw [ai8_rmA, ai_nam, ai_adv]⟩
    have qN0 := M2.2.2.2.2.2.2.2.2
    have lN0 : gi (rmA (namF (advF r)) (rmI r)) 1448 = gi r 1448 := M2.2.2.2.1
    generalize rmA (namF (advF r)) (rmI r) = N0 at *
    have t14 : tkn a2' = 14 ↔ gl N0 21450 = 1870030194 := by
      rw [← kw14, te2.2.2.2.2.1]
      exact tk_kw (te2.sy.rt M2.1.1) (by omega)
    have ct' : ∀ (v' : Nat → Int32) (u' : Nat → Int64), v' 1202 = nI p1 → u' 21201 = x1 → CTK ks6 (lif (decide (¬ ffst (fun m => decide (fJ h 21201 (fW m) = u' 21201)) nm 0 = none)) (keyN (tn (v' 1202)) 2 0)) ks := fun v' u' h1 h2 => by
      rw [h1, h2, tn_nI (by omega)]; exact ct
    rw [bk_X5_tellWay_44, show vi 14 = vi (nI 14) from rfl]
    refine ⟨c96, p_skip (d := d + 3) E6 (by omega) (fun _ z14 h7 E7 w7 => ?_) (fun n14 => ?_)⟩
    · -- over
      have s14 := t14.mp z14
      have st1 : stpF r = if okN (advF N0) = false then faiF (advF N0) else rmG (rmO (namF (advF N0)) (rmI r)) (rmI r) := by
        rw [st0]; unfold rmB; rw [if_pos s14]
      have W7 := W6.pw w7 tT
      have N7 := N6.pw w7
      simp only [psh]
      have W8 := W7.fi hU 11203 (by decide) 1
      have E8 := E7.fi (f := 11203) (x := tp h) 1 hU (by decide)
      have N8 := N7.fI (f := 11203) (x := tp h) 1 (by decide) (by decide)
      have f8 : fI (setFI h7 11203 (tp h) 1) 11203 (tp h) = 1 := fFI_same _ _ _ _
      have t7 : tg h7 (tp h) = 13 := W7.2.2.1
      rw [bk_X5_tellWay_49, nn_some, nn_some, f8]
      have t8 : tg (setFI h7 11203 (tp h) 1) (tp h) = 13 := t7
      refine ⟨t7, Or.inr rfl, t8, fun z => absurd z (by decide), fun _ => ?_⟩
      generalize setFI h7 11203 (tp h) 1 = h8 at *
      have r3 : gi (advF a2') 1452 = -1 := by rw [gi_adv]; exact r2
      obtain ⟨c98, c108, c118, c48, c68, cT8⟩ := CF E8
      obtain ⟨p2, hp2, hp2a, hp2b⟩ := E8.pl
      have pa2 : gi (advF a2') 1449 = nI p2 := by rw [← (E8.2.2.2.2 r3).1.2.1]; exact hp2
      rw [bk_X5_tellWay_53, c108, nn_some, nn_some, hp2]
      have W9 := W8.fi hU 1205 (by decide) (nI p2)
      have E9 := E8.fi (f := 1205) (x := tp h) (nI p2) hU (by decide)
      have N9 := N8.fI (f := 1205) (x := tp h) (nI p2) (by decide) (by decide)
      have c99 : tg (setFI h8 1205 (tp h) (nI p2)) (U + 9) = 8 := c98
      refine ⟨c98, cT8, t8, c99, ?_⟩
      generalize setFI h8 1205 (tp h) (nI p2) = h9 at *
      refine p_takeName (d := d + 3) E9 (fun h10 x2 E10 w10 val2 => ?_)
      have W10 := W9.pw w10 tT
      have N10 := N9.pw w10
      simp only [psh]
      rw [bk_X5_tellWay_61, nn_some]
      have W11 := W10.fj hU 21204 (by decide) x2
      have E11 := E10.fj (f := 21204) (x := tp h) x2 hU (by decide)
      have N11 := N10.fJ (f := 21204) (x := tp h) x2 (by decide) (by decide)
      refine ⟨W10.2.2.1, ?_⟩
      generalize setFJ h10 21204 (tp h) x2 = h11 at *
      have T3 := RT_adv (te2.sy.rt M2.1.1).1
      have n3 := tk_name T3
      have te3 : TE (advF a2') (advF N0) := te2.adv
      rw [← te3.okN] at n3
      by_cases z3 : tkn (advF a2') = 27
      · have on3 := n3.mp z3
        rw [decide_eq_true z3, gT_t r3] at E11
        rw [if_neg (by rw [on3]; decide)] at st1
        obtain ⟨vx2, wv2⟩ := val2 r3 z3
        have M3 := M2.adv (ne_end M2.rt (by rw [s14]; decide))
        have M4 := MD_rmO (m := rmI r) (M3.nam on3)
        have te4 : TE (advF (advF a2')) (rmO (namF (advF N0)) (rmI r)) := (te3.adv).tr (TE_nam.tr TE_rmO)
        obtain ⟨o11, o12, oq, ol⟩ := rmO_v (namF (advF N0)) (rmI r)
        rw [nam_w, ← te3.2.2.2.2.1.symm] at o11
        rw [nam_54, te3.2.2.1, pa2] at o12
        have g02 : gi (rmO (namF (advF N0)) (rmI r)) 1402 = gi r 1402 := by rw [gi_rmO, gi_nam, gi_adv]; exact k0.1
        have oq' : ∀ q, ¬ q = 12 → ai (rmO (namF (advF N0)) (rmI r)) q = ai N0 q := fun q hq => by rw [oq q hq, ai_nam, ai_adv]
        have ol' : ∀ q, ¬ q = 11 → al (rmO (namF (advF N0)) (rmI r)) q = al N0 q := fun q hq => by rw [ol q hq, al_nam, al_adv]
        have qX := M4.2.2.2.2.2.2.2.2
        have ne0 : ¬ gl (advF a2') 21450 = 0 := by
          have := okN_ne on3
          rw [te3.2.2.2.2.1] at this
          exact this
        generalize rmO (namF (advF N0)) (rmI r) = X4 at *
        have VX : VB (tp h) (up1 (up1 (up1 (up1 (fun _ => 0) 1206 (-1)) 1202 (nI p1)) 11203 1) 1205 (nI p2)) (up1 (up1 (fun _ => 0) 21201 x1) 21204 x2) (up1 (fun _ => none) 31200 (some (tp h + 1))) X4 (rmI r) := by
          unfold VB
          rw [oq' 10 (by decide), v10, ol' 9 (by decide), v9, o11, o12]
          refine ⟨rfl, ⟨p1, rfl, by omega, hp1b⟩, vx, wv, ?_, fun _ => ⟨vx2, wv2, rfl, ⟨p2, rfl, by omega, hp2b⟩⟩, rfl, rfl, rfl⟩
          rw [decide_eq_true ne0]; rfl
        exact w_62 (b := B) HB hd S hk n12 W11 E11 (by rw [gi_adv]; exact r3) te4 M4 (by omega) st1 N11 VX (by rw [oq' 14 (by decide)]; exact v14) (by rw [oq' 17 (by decide)]; exact v17) ⟨g02, by rw [oq' 8 (by decide)]; exact k0.2⟩ (ct' _ _ rfl rfl) (by omega) H1 H2
      · rw [decide_eq_false z3, gT_f r3] at E11
        have bad : ¬ gi (faiF (advF a2')) 1452 = -1 := (fai_w T3 r3).1
        rw [if_pos (by
          cases y : okN (advF N0) with
          | true => exact absurd (n3.mpr y) z3
          | false => rfl)] at st1
        have gN : gi (advF N0) 1452 = -1 := by rw [gi_adv]; exact M2.2.1
        have tw : TEW (faiF (advF a2')) (stpF r) := by rw [st1]; exact fai_tew te3 r3 gN T3
        have lw : gi (faiF (advF a2')) 1448 = gi r 1448 := by rw [gi_fai, gi_adv]; exact te2.2.1.symm.trans lN0
        obtain ⟨x1', x2', x3, x4, x5, x6⟩ := W11
        refine ww_62 (B := B + 4) (B0 := B0) HB hd E11 bad x2' x5 (by rw [lw]; omega) (by rw [lw]; exact hB0) hU x3 (by omega) (fun h' ks' B' nm' fW' ns' fS' E' X' L' c' => ?_)
        rw [lw] at c'
        exact H2 h' (stpF r) nm' fW' ns' fS' ks' B' 0 rfl (by rw [tw.1]; exact bad) (E'.te tw).m0 L' c' ((XT h11 x1').tr X')
    · -- not over
      have s14 : ¬ gl N0 21450 = 1870030194 := fun z => n14 r2 (t14.mpr z)
      have st1 : stpF r = rmG N0 (rmI r) := by rw [st0]; unfold rmB; rw [if_neg s14]
      simp only [psh]
      have W8 := W6.fi hU 11203 (by decide) 0
      have E8 := E6.fi (f := 11203) (x := tp h) 0 hU (by decide)
      have N8 := N6.fI (f := 11203) (x := tp h) 0 (by decide) (by decide)
      have f8 : fI (setFI h6 11203 (tp h) 0) 11203 (tp h) = 0 := fFI_same _ _ _ _
      have t6 : tg h6 (tp h) = 13 := W6.2.2.1
      rw [bk_X5_tellWay_49, nn_some, nn_some, f8]
      refine ⟨t6, Or.inl rfl, t6, fun _ => ?_, fun z => absurd rfl z⟩
      generalize setFI h6 11203 (tp h) 0 = h8 at *
      have VX : VB (tp h) (up1 (up1 (up1 (fun _ => 0) 1206 (-1)) 1202 (nI p1)) 11203 0) (up1 (fun _ => 0) 21201 x1) (up1 (fun _ => none) 31200 (some (tp h + 1))) N0 (rmI r) := by
        unfold VB
        rw [v10, v9, v11]
        exact ⟨rfl, ⟨p1, rfl, by omega, hp1b⟩, vx, wv, rfl, fun z => absurd rfl z, rfl, rfl, rfl⟩
      exact w_62 (b := B) HB hd S hk n12 W8 E8 r2 te2 M2 (by omega) st1 N8 VX v14 v17 k0 (ct' _ _ rfl rfl) (by omega) H1 H2
  -- the method comes to the list
  have C39 : ∀ h6 ks6, WYP h h6 T U e0 nk par wk pk nm fW ns fS ks6 (B + 5) (up1 (up1 (fun _ => 0) 1206 (-1)) 1202 (nI p1)) (up1 (fun _ => 0) 21201 x1) (up1 (fun _ => none) 31200 (some (tp h + 1))) → ES h6 T U e0 1 a2 0 0 false none → NDr h6 (tp h + 1) 0 1 (fun _ => 0) (fun _ => 0) → CTK ks6 (lif (decide (¬ ffst (fun m => decide (fJ h 21201 (fW m) = x1)) nm 0 = none)) (keyN p1 2 0)) ks → wp (d + 10) K_X5_tellWay 39 [] [(0, vr (some (U + 9))), (1, vr (some (tp h)))] h6 Q := by
    intro h6 ks6 W6 E6 N6 ct
    obtain ⟨c96, c106, c116, c46, c66, cT6⟩ := CF E6
    obtain ⟨eW', eS', eM', aW', restL'⟩ := id W6.2.2.2.2.1
    rw [bk_X5_tellWay_39, c116, nn_some, c66, nn_some]
    refine ⟨c96, c46, aW'.1, p_addW (d := d + 3) E6.1 W6.2.2.2.2.1 nm12 W6.2.2.1 (by have := W6.2.2.2.2.2; omega) (fun h7 L7 x7 t7 => ?_)⟩
    simp only [psh]
    exact C44 h7 ks6 (B + 5) a2 rfl (W6.ls x7 L7 he) (E6.ls x7) rfl (N6.ls x7) ct
  refine p_wayNamed (d := d + 6) E5.1 W5.2.2.2.2.1 nm12 x1 ?_
  rw [fj]
  simp only [psh]
  rw [bk_X5_tellWay_30]
  have o1 : oI (ffst (fun m => decide (fJ h 21201 (fW m) = x1)) nm 0) = -1 ↔ ffst (fun m => decide (fJ h 21201 (fW m) = x1)) nm 0 = none := by
    cases hq : ffst (fun m => decide (fJ h 21201 (fW m) = x1)) nm 0 with
    | none => exact ⟨fun _ => rfl, fun _ => rfl⟩
    | some j => exact ⟨fun y => absurd y (nI_ne_m1 (by have := (ffst_some hq).2.1; omega)), fun y => by cases y⟩
  refine ⟨fun y => ?_, fun y => ?_⟩
  · have hq := o1.mp y
    obtain ⟨x1', x2, x3, x4, x5, x6⟩ := W5
    refine C39 h5 ks ⟨x1', x2, x3, x4, LST.dr 1 x5, x6⟩ E5 N5 ?_
    rw [hq]
    exact CTK.rf
  · have hq : ¬ ffst (fun m => decide (fJ h 21201 (fW m) = x1)) nm 0 = none := fun w => y (o1.mpr w)
    have v02 : fI h5 1202 (tp h) = nI p1 := by rw [(W5.2.2.2.1 1202 (by decide)).1]; rfl
    rw [bk_X5_tellWay_32, nn_some, c115, nn_some, v02, show vi 2 = vi (nI 2) from rfl, show vi (-1) = vi (kI 0) from rfl]
    refine ⟨c95, t5, c45, p_note (d := d + 2) E5.1 W5.2.2.2.2.1 (by omega) (by omega) (by omega) (by omega) (fun h6 ks6 L6 pm x6 t6 => ?_)⟩
    simp only [psh]
    refine C39 h6 ks6 (W5.ls x6 L6 he) (E5.ls x6) (N5.ls x6) ?_
    rw [decide_eq_true hq]
    exact CTK.pm pm
