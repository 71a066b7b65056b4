/-! A method is told: its head -/
theorem VB.up {y : Nat} {v : Nat → Int32} {u : Nat → Int64} {p : Nat → Option Nat} {X : RV} {m f : Nat} {z : Int32} (h : VB y v u p X m) (h1 : ¬ 1202 = f) (h2 : ¬ 11203 = f) (h3 : ¬ 1205 = f) (h4 : ¬ 1206 = f) : VB y (up1 v f z) u p X m := by
  unfold VB at h ⊢
  rw [show up1 v f z 1202 = v 1202 from if_neg h1, show up1 v f z 11203 = v 11203 from if_neg h2, show up1 v f z 1205 = v 1205 from if_neg h3, show up1 v f z 1206 = v 1206 from if_neg h4]
  exact h
theorem NDr.fI {h : AH} {N n m : Nat} {wd : Nat → Int64} {pc : Nat → Int32} (a : NDr h N n m wd pc) {f x : Nat} (v : Int32) (hf : ¬ f / 100 % 100 = 6) (hf2 : ¬ f = 90001) : NDr (setFI h f x v) N n m wd pc := ⟨a.1.fx (FX.FI (E := fun g z => g = f ∧ z = x) ⟨rfl, rfl⟩) (fun q hq z => by omega) (fun z => by omega) (fun z => by omega) (fun z => by omega), a.2⟩
theorem NDr.fJ {h : AH} {N n m : Nat} {wd : Nat → Int64} {pc : Nat → Int32} (a : NDr h N n m wd pc) {f x : Nat} (v : Int64) (hf : ¬ f / 100 % 100 = 6) (hf2 : ¬ f = 90001) : NDr (setFJ h f x v) N n m wd pc := ⟨a.1.fx (FX.FJ (E := fun g z => g = f ∧ z = x) ⟨rfl, rfl⟩) (fun q hq z => by omega) (fun z => by omega) (fun z => by omega) (fun z => by omega), a.2⟩
theorem NDr.ls {h h' : AH} {U e0 N n m : Nat} {wd : Nat → Int64} {pc : Nat → Int32} (a : NDr h N n m wd pc) (x : FX (ELs U e0) h h') : NDr h' N n m wd pc := ⟨a.1.fx x (fun q hq => ELs_no (by omega)) (ELs_no (by omega)) (ELs_no (by omega)) (ELs_no (by omega)), a.2⟩
theorem w_62 {d : Nat} (HB : BLC 0) {hB h hc : AH} {Q : Option V → AH → Prop} {T U e0 : Nat} {r R X4 a4 : RV} {a0 B0 nk : Nat} {par : Nat → Nat} {wk : Nat → Int64} {pk : Nat → Int32} {nm : Nat} {fW : Nat → Nat} {ns : Nat} {fS : Nat → Nat} {ks ks4 : List Nat} {B b c : Nat} {G : Nat → Nat → Nat} {v : Nat → Int32} {u : Nat → Int64} {p : Nat → Option Nat} {wd0 : Nat → Int64} {pc0 : Nat → Int32} (hd : 180 ≤ d + 9) (S : TOS hB T U e0 R a0 B0 h r nk par wk pk nm fW ns fS ks B G) (hk : gl r 21450 = 7823737) (n12 : nm < 12) (W : WYP h hc T U e0 nk par wk pk (nm + 1) (up1 fW nm (tp h)) ns fS ks4 (b + 5) v u p) (E : ES hc T U e0 1 a4 0 0 false none) (r4 : gi a4 1452 = -1) (te : TE a4 X4) (M : MD r 0 c (rsN r) X4) (hc2 : 2 ≤ c) (st : stpF r = rmG X4 (rmI r)) (N : NDr hc (tp h + 1) 0 1 wd0 pc0) (VX : VB (tp h) v u p X4 (rmI r)) (c14 : ai X4 14 (rmI r) = nI 0) (c17 : ai X4 17 (rmI r) = -1) (c8 : KE8 r X4) (ct : CTK ks4 (lif (decide (¬ ffst (fun m => decide (fJ h 21201 (fW m) = u 21201)) nm 0 = none)) (keyN (tn (v 1202)) 2 0)) ks) (cr : B0 ≤ b + 1 + 3 * qN X4)
    (H1 : ∀ h' r' nm' fW' ns' fS' ks' B' G' n, goN n (stpF r) r' → TOS hB T U e0 R a0 B0 h' r' nk par wk pk nm' fW' ns' fS' ks' B' G' → Q none h')
    (H2 : ∀ h' r' nm' fW' ns' fS' ks' B' n, goN n (stpF r) r' → ¬ gi r' 1452 = -1 → ES h' T U e0 0 r' 0 0 false none → LST h' U e0 nm' fW' ns' fS' ks' B' → B0 ≤ B' + 3 * tn (gi r 1448) + 20 → FX (EPT T U e0) hB h' → Q none h') : wp (d + 10) K_X5_tellWay 62 [] [(0, vr (some (U + 9))), (1, vr (some (tp h)))] hc Q := by
  obtain ⟨⟨A, er, dr⟩, E0, K, L, ⟨ek, em, en⟩, ⟨cr0, hB0⟩, ⟨ha0, ha1⟩, XB, TL⟩ := id S
  have tT : T < U := by have := E.1.2.1; omega
  have he := W.2.2.2.2.1.e0
  have hU : U + 10 ≤ tp h := by omega
  have kw15 : lN (kwN 15) = 1718773093 := by decide +kernel
  have kw16 : lN (kwN 16) = 127991945328499 := by decide +kernel
  have lenX : gi X4 1448 = gi r 1448 := M.2.2.2.1
  have ln := rt_len M.1.1
  rw [lenX] at ln
  have XT : ∀ h7, FX (ENX T U e0 (tp h)) h h7 → FX (EPT T U e0) hB h7 := fun h7 w1 => XB.tr (w1.mono (fun g z w => by
    rcases w with w | w | w
    · exact Or.inl (EPW_a w)
    · exact Or.inl (Or.inr (Or.inl w))
    · exact Or.inr (Or.inr (Or.inr ⟨by omega, w.2⟩))))
  -- behind free
  have T66 : ∀ h5 X5 a5 c5 fl, WYP h h5 T U e0 nk par wk pk (nm + 1) (up1 fW nm (tp h)) ns fS ks4 (b + 5) v u p → ES h5 T U e0 1 a5 0 0 false none → gi a5 1452 = -1 → TE a5 X5 → MD r 0 c5 (rsN r) X5 → 2 ≤ c5 → rmC X4 (rmI r) = X5 → NDr h5 (tp h + 1) 0 1 wd0 pc0 → (∀ q, ¬ q = 13 → ai X5 q = ai X4 q) → al X5 = al X4 → ai X5 13 (rmI r) = fl → fl = 0 ∨ fl = 1 → gi X5 1402 = gi X4 1402 → qN X4 ≤ qN X5 → wp (d + 10) K_X5_tellWay 66 [vi fl, vr (some (tp h))] [(0, vr (some (U + 9))), (1, vr (some (tp h)))] h5 Q := by
    intro h5 X5 a5 c5 fl W5 E5 r5 te5 M5 hc5 eC N5 xq xl x13 b13 g02 qq
    have W6 := W5.fi hU 11207 (by decide) fl
    have E6 := E5.fi (f := 11207) (x := tp h) fl hU (by decide)
    have N6 := N5.fI (f := 11207) (x := tp h) fl (by decide) (by decide)
    have VX6 : VB (tp h) (up1 v 11207 fl) u p X5 (rmI r) := (VX.cg (fun q h1 h2 => ⟨by rw [xq q (by omega)], by rw [xl]⟩)).up (by decide) (by decide) (by decide) (by decide)
    have v02 : up1 v 11207 fl 1202 = v 1202 := if_neg (by decide)
    have v07 : up1 v 11207 fl 11207 = fl := if_pos rfl
    have x14 : ai X5 14 (rmI r) = nI 0 := by rw [xq 14 (by decide)]; exact c14
    have x17 : ai X5 17 (rmI r) = -1 := by rw [xq 17 (by decide)]; exact c17
    have k8 : KE8 r X5 := ⟨g02.trans c8.1, by rw [xq 8 (by decide)]; exact c8.2⟩
    have len5 : gi X5 1448 = gi r 1448 := M5.2.2.2.1
    have q5 := M5.2.2.2.2.2.2.2.2
    have c96 : tg (setFI h5 11207 (tp h) fl) (U + 9) = 8 := E6.1.2.2.2.2.2.2.2.2.1
    rw [bk_X5_tellWay_66, nn_some, show vi 16 = vi (nI 16) from rfl]
    refine ⟨W5.2.2.1, b13, c96, ?_⟩
    generalize setFI h5 11207 (tp h) fl = h6 at *
    have t16 : tkn a5 = 16 ↔ gl X5 21450 = 127991945328499 := by
      rw [← kw16, te5.2.2.2.2.1]
      exact tk_kw (te5.sy.rt M5.1.1) (by omega)
    have stG : stpF r = if (rmD X5 (rmI r)).2 = false then (rmD X5 (rmI r)).1 else rmE (rmD X5 (rmI r)).1 (rmI r) := by
      rw [st]; unfold rmG; rw [eC]
    refine p_skip (d := d + 3) E6 (by omega) (fun _ z16 h7 E7 w7 => ?_) (fun n16 => ?_)
    · -- throws
      have s16 := t16.mp z16
      have eD : rmD X5 (rmI r) = nlF 14 15 16 (rmI r) 44 5 X5 := by unfold rmD; rw [if_pos s16]
      rw [eD] at stG
      simp only [psh]
      rw [bk_X5_tellWay_70]
      refine ⟨fun z => absurd z (by decide), fun _ => ?_⟩
      have W7 := W6.pw w7 tT
      have N7 := N6.pw w7
      have r7 : gi (advF a5) 1452 = -1 := by rw [gi_adv]; exact r5
      have c97 := E7.1.2.2.2.2.2.2.2.2.1
      have p7 : fP h7 31200 (tp h) = some (tp h + 1) := by
        rw [(W7.2.2.2.1 31200 (by decide)).2.2]; exact VX6.2.2.2.2.2.2.2.1
      have kg := (nl_keep (qc := 14) (qw := 15) (qa := 16) (i := rmI r) (sep := 44) (by decide) (by decide) 5 X5).2
      have kl := nl_al (qc := 14) (qw := 15) (qa := 16) (i := rmI r) (sep := 44) 5 X5
      have mz := MD_nlf (qc := 14) (qw := 15) (qa := 16) (i := rmI r) (sep := 44) (by decide) (by decide) (by decide) (by decide) M5 (ne_end M5.rt (by rw [s16]; decide)) x14
      rw [bk_X5_tellWay_71, nn_some, p7, show vi 25 = vi (nI 25) from rfl]
      refine ⟨W7.2.2.1, c97, p_names (d := d + 2) (qc := 14) (qw := 15) (qa := 16) (i := rmI r) (sep := 44) (X0 := X5) (by decide) rfl (by omega) (by omega) (by decide) (by decide) (by decide) M5.2.1 x14 E7 r7 (te5.sy.adv) N7 ?_ ?_⟩
      · intro h8 aw k wd pc E8 e8 te8 ok8 N8 w8 c8' k0 k4 da
        have MZ := (mz.2 ok8).1
        rw [c8', tn_nI (by omega)] at MZ
        have hi := nl_hi (qc := 14) (qw := 15) (qa := 16) (i := rmI r) (sep := 44) (lo := qN X5) (by decide) (by decide) (by decide) 5 0 X5 M5.1.1 x14 rfl (fun j hj => by omega) (Nat.le_refl _) ok8
        rw [c8', tn_nI (by omega)] at hi
        have hi0 := hi 0 k0
        rw [if_neg (by rw [ok8]; decide)] at stG
        obtain ⟨x1, x2, x3, x4, x5, x6⟩ := W7
        have noN : ∀ g, g / 100 % 100 = 12 → ¬ ENN T U (tp h + 1) g (tp h) := fun g hg z => by
          rcases z with z | z
          · exact EPW_no (by omega) z
          · unfold Jvm.Pilot.CThrowRulesLaw_law_r5179_b2991a.EN at z
            omega
        have no9 : ∀ z, z ≤ U + 5 → ¬ ENN T U (tp h + 1) 90001 z := fun z hz w => by
          rcases w with w | w
          · exact EPW_no (by omega) w
          · unfold Jvm.Pilot.CThrowRulesLaw_law_r5179_b2991a.EN at w
            omega
        have K8 : KD h8 (U + 1) nk par wk pk := x2.fx w8.1 (fun g w => by
          rcases w with w | w
          · rcases w with w | w
            · have := w.1; omega
            · omega
          · unfold Jvm.Pilot.CThrowRulesLaw_law_r5179_b2991a.EN at w
            omega) (no9 _ (by omega)) (no9 _ (by omega)) (no9 _ (by omega)) (no9 _ (by omega))
        have X8 : FX (ENX T U e0 (tp h)) h h8 := x1.tr (w8.1.mono (fun g z w => by
          rcases w with w | w
          · exact Or.inl w
          · unfold Jvm.Pilot.CThrowRulesLaw_law_r5179_b2991a.EN at w
            exact Or.inr (Or.inr ⟨by omega, by omega⟩)))
        have tp8 := w8.2.1
        have t8 : tg h8 (tp h) = 13 := by rw [w8.1.tg (by omega)]; exact x3
        have F8 := x4.fx w8.1 (by omega) noN
        have L8 : LST h8 U e0 (nm + 1) (up1 fW nm (tp h)) ns fS ks4 (b + 5 - k + k) := by rw [show b + 5 - k + k = b + 5 by omega]; exact x5.nn w8
        have p8 : fP h8 31200 (tp h) = some (tp h + 1) := by rw [w8.1.fP (by omega) (noN _ (by decide))]; exact p7
        simp only [psh]
        rw [bk_X5_tellWay_76, nn_some, p8]
        refine ⟨t8, E8.1.2.2.2.2.2.2.2.2.1, p_know (d := d + 1) (by omega) (by omega) E8 K8 N8 L8 (fun h9 ks9 E9 N9 L9 pm9 x9 tp9 => ?_)⟩
        simp only [psh]
        have no9' : ∀ g z, ¬ g = 90001 → ¬ g = 100 ∧ ¬ g = 102 ∧ ¬ g = 30101 ∧ ¬ g = 90003 → ¬ (ELs U e0 g z ∨ (g = 90001 ∧ z = tp h + 1 + 3)) := fun g z h1 h2 w => by
          rcases w with w | w
          · exact ELs_no h2 w
          · omega
        have nok : ∀ z, z ≤ U + 5 → ¬ (ELs U e0 90001 z ∨ (90001 = 90001 ∧ z = tp h + 1 + 3)) := fun z hz w => by
          rcases w with w | w
          · exact ELs_no (by omega) w
          · omega
        have K9 : KD h9 (U + 1) nk par wk pk := K8.fx x9 (fun g w => by
          rcases w with w | w
          · rcases w with w | w <;> omega
          · omega) (nok _ (by omega)) (nok _ (by omega)) (nok _ (by omega)) (nok _ (by omega))
        have W9 : WYP h h9 T U e0 nk par wk pk (nm + 1) (up1 fW nm (tp h)) ns fS ks9 (b + 4 - k + 1) (up1 v 11207 fl) u p := ⟨X8.tr (x9.mono (fun g z w => by
          rcases w with w | w
          · exact Or.inr (Or.inl w)
          · exact Or.inr (Or.inr ⟨by omega, by omega⟩))), K9, by rw [x9.tg (by omega)]; exact t8, F8.fx x9 (by omega) (fun f hf => no9' _ _ (by omega) (by omega)), by rw [show b + 4 - k + 1 = b + 5 - k by omega]; exact L9, by omega⟩
        refine w_80 (d := d) (k := k) (X6 := (nlF 14 15 16 (rmI r) 44 5 X5).1) (wd := wd) (pc := pc) HB hd S hk n12 W9 E9 e8 te8.sy MZ (by omega) stG N9 (VX6.cg (fun q h1 h2 => ⟨by rw [kg.1 q (by omega) (by omega)], by rw [kl q (by omega)]⟩)) (by rw [v07, kg.1 13 (by decide) (by decide)]; exact x13.symm) (by rw [kg.1 13 (by decide) (by decide), x13]; exact b13) c8' k4 (fun j hj => ?_) (by rw [kg.1 17 (by decide) (by decide)]; exact x17) ⟨by rw [kg.2 1402 (by decide) (by decide) (by decide) (by decide) (by decide)]; exact k8.1, by rw [kg.1 8 (by decide) (by decide)]; exact k8.2⟩ (by rw [v02]; exact CTK.tr ct (CTK.pm pm9)) (by omega) H1 H2
        obtain ⟨b1, b2, b3⟩ := da j hj
        obtain ⟨p', b4, b5, b6⟩ := N8.2 j hj
        have b9 := hi j hj
        rw [← b3, b4, tn_nI (by omega)] at b9
        exact ⟨b1, b2, b3, p', b4, by omega, b6, b9.2⟩
      · intro h8 aw k wd pc E8 bad tw8 ok8 N8 w8
        have k4 := N8.1.2.2.2.2.2.2.1
        rw [if_pos ok8] at stG
        have lw : gi aw 1448 = gi r 1448 := tw8.2.2.1.symm.trans ((kg.2 1448 (by decide) (by decide) (by decide) (by decide) (by decide)).trans len5)
        obtain ⟨x1, x2, x3, x4, x5, x6⟩ := W7
        have noN : ∀ g, g / 100 % 100 = 12 → ¬ ENN T U (tp h + 1) g (tp h) := fun g hg z => by
          rcases z with z | z
          · exact EPW_no (by omega) z
          · unfold Jvm.Pilot.CThrowRulesLaw_law_r5179_b2991a.EN at z
            omega
        have no9 : ∀ z, z ≤ U + 5 → ¬ ENN T U (tp h + 1) 90001 z := fun z hz w => by
          rcases w with w | w
          · exact EPW_no (by omega) w
          · unfold Jvm.Pilot.CThrowRulesLaw_law_r5179_b2991a.EN at w
            omega
        have K8 : KD h8 (U + 1) nk par wk pk := x2.fx w8.1 (fun g w => by
          rcases w with w | w
          · rcases w with w | w
            · have := w.1; omega
            · omega
          · unfold Jvm.Pilot.CThrowRulesLaw_law_r5179_b2991a.EN at w
            omega) (no9 _ (by omega)) (no9 _ (by omega)) (no9 _ (by omega)) (no9 _ (by omega))
        have X8 : FX (ENX T U e0 (tp h)) h h8 := x1.tr (w8.1.mono (fun g z w => by
          rcases w with w | w
          · exact Or.inl w
          · unfold Jvm.Pilot.CThrowRulesLaw_law_r5179_b2991a.EN at w
            exact Or.inr (Or.inr ⟨by omega, by omega⟩)))
        have tp8 := w8.2.1
        simp only [psh]
        have crw : B0 + 1 ≤ b + 4 - k + 3 * tn (gi r 1448) + 20 := by
          omega
        refine ww_76 (B := b + 4 - k) HB hd E8 bad K8 N8 (by rw [show b + 4 - k + 1 + k = b + 5 by omega]; exact x5.nn w8) (by rw [lw]; exact crw) (by rw [lw]; exact hB0) hU (by rw [w8.1.tg (by omega)]; exact x3) (by rw [w8.1.fP (by omega) (noN _ (by decide))]; exact p7) (by omega) (fun h' ks' B' nm' fW' ns' fS' E' X' L' c' => ?_)
        have tw : TEW aw (stpF r) := by rw [stG]; exact tw8
        exact H2 h' (stpF r) nm' fW' ns' fS' ks' B' 0 rfl (by rw [tw.1]; exact bad) (E'.te tw).m0 L' (by rw [← lw]; exact c') ((XT h8 X8).tr X')
    · -- no throws
      have s16 : ¬ gl X5 21450 = 127991945328499 := fun z => n16 r5 (t16.mpr z)
      have eD : rmD X5 (rmI r) = (X5, true) := by unfold rmD; rw [if_neg s16]
      rw [eD] at stG
      rw [if_neg (fun z => Bool.noConfusion z)] at stG
      simp only [psh]
      rw [bk_X5_tellWay_70]
      refine ⟨fun _ => ?_, fun z => absurd rfl z⟩
      refine w_80 (d := d) (k := 0) (b := b + 4) (X6 := X5) (wd := fun _ => 0) (pc := fun _ => 0) HB hd S hk n12 W6 E6 r5 te5 M5 hc5 stG (N6.1.cg (fun i hi => by omega)) VX6 (by rw [v07]; exact x13.symm) (by rw [x13]; exact b13) x14 (by omega) (fun j hj => by omega) x17 k8 (by rw [v02]; show CTK ks4 (_ ++ []) ks; rw [List.append_nil]; exact ct) (by omega) H1 H2
  have c9 := E.1.2.2.2.2.2.2.2.2.1
  have t15 : tkn a4 = 15 ↔ gl X4 21450 = 1718773093 := by
    rw [← kw15, te.2.2.2.2.1]
    exact tk_kw (te.sy.rt M.1.1) (by omega)
  rw [bk_X5_tellWay_62, show vi 15 = vi (nI 15) from rfl]
  refine ⟨c9, p_skip (d := d + 3) E (by omega) (fun _ z15 h5 E5 w5 => ?_) (fun n15 => ?_)⟩
  · have s15 := t15.mp z15
    have eC : rmC X4 (rmI r) = advF (tI X4 13 (rmI r) (b2i true)) := by unfold rmC; rw [if_pos s15]
    have M5 : MD r 0 c (rsN r) (tI X4 13 (rmI r) (b2i true)) := MDtI M _ _ (by decide)
    have M6 := M5.adv (ne_end M5.rt (by show ¬ gl X4 21450 = 0; rw [s15]; decide))
    have te6 : TE (advF a4) (advF (tI X4 13 (rmI r) (b2i true))) := (te.tr (TE_tI (by decide))).adv
    have qq : qN X4 ≤ qN (advF (tI X4 13 (rmI r) (b2i true))) := by
      have := (M5.1.adv_q).1
      have e : qN (tI X4 13 (rmI r) (b2i true)) = qN X4 := (TE_tI (by decide)).q
      omega
    simp only [psh]
    exact T66 h5 _ (advF a4) _ 1 (W.pw w5 tT) E5 (by rw [gi_adv]; exact r4) te6 M6 (by omega) eC (N.pw w5) (fun q hq => by rw [ai_adv, ai_ne hq]) (by rw [al_adv, al_tI]) (by rw [ai_adv, ai_tI, if_pos ⟨rfl, rfl⟩]; rfl) (Or.inr rfl) (by rw [gi_adv]; rfl) qq
  · have s15 : ¬ gl X4 21450 = 1718773093 := fun z => n15 r4 (t15.mpr z)
    have eC : rmC X4 (rmI r) = tI X4 13 (rmI r) (b2i false) := by unfold rmC; rw [if_neg s15]
    simp only [psh]
    exact T66 hc _ a4 c 0 W E r4 (te.tr (TE_tI (by decide))) (MDtI M _ _ (by decide)) hc2 eC N (fun q hq => ai_ne hq) (al_tI _ _ _ _) (by rw [ai_tI, if_pos ⟨rfl, rfl⟩]; rfl) (Or.inl rfl) rfl (by rw [(TE_tI (r := X4) (q := 13) (i := rmI r) (v := b2i false) (by decide)).q]; exact Nat.le_refl _)
