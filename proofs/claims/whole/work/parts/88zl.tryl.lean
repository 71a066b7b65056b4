/-! try: its catches -/
theorem try_bad {d : Nat} {h : AH} {Q : Option V → AH → Prop} {T U e0 : Nat} {rw : RV} {D l : Nat} {il : Bool} {so : Option Nat} {wh n : Int32} {last x1 : Option Nat} (E : ES h T U e0 1 rw D l il so) (bad : ¬ gi rw 1452 = -1) (HQ : ∀ h', ES h' T U e0 1 rw D l il so → PW T U h h' → Q none h') : wp (d + 11) K_X5_takeTry 27 [] [(0, vr (some (U + 9))), (1, vr x1), (2, vi wh), (3, vr last), (4, vi n)] h Q := by
  have c9 := E.1.2.2.2.2.2.2.2.2.1
  have T52 : wp (d + 11) K_X5_takeTry 52 [] [(0, vr (some (U + 9))), (1, vr x1), (2, vi wh), (3, vr last), (4, vi n)] h Q := by
    rw [bk_X5_takeTry_52, show vi 18 = vi (nI 18) from rfl, p_at E (by omega)]
    refine ⟨c9, ?_⟩
    simp only [psh, bk_X5_takeTry_55, b2i_0, decide_eq_false bad, Bool.false_and]
    refine ⟨fun _ => ?_, fun z => absurd trivial z⟩
    rw [bk_X5_takeTry_58, show vi 19 = vi (nI 19) from rfl]
    refine ⟨c9, p_skip (d := d + 4) E (by omega) (fun y => absurd y bad) (fun _ => ?_)⟩
    simp only [psh]
    rw [bk_X5_takeTry_61]
    refine ⟨fun _ => ?_, fun y => absurd rfl y⟩
    rw [bk_X5_takeTry_68]
    refine ⟨fun _ => ?_, fun _ => ?_⟩
    · rw [bk_X5_takeTry_72]
      exact HQ h E ⟨FX.rf, rfl, rfl, rfl⟩
    · rw [bk_X5_takeTry_70]
      refine ⟨c9, p_refuse E (fun h2 E2 w2 => ?_)⟩
      rw [gT_w bad] at E2
      simp only [psh]
      rw [bk_X5_takeTry_72]
      exact HQ h2 E2 w2
  rw [bk_X5_takeTry_27]
  refine ⟨fun _ => T52, fun _ => ?_⟩
  rw [bk_X5_takeTry_30, show vi 18 = vi (nI 18) from rfl, p_at E (by omega)]
  refine ⟨c9, ?_⟩
  simp only [psh, bk_X5_takeTry_33, b2i_0, decide_eq_false bad, Bool.false_and]
  exact ⟨fun _ => T52, fun z => absurd trivial z⟩
theorem try_loop {D d : Nat} (HB : BLC D) {h h3 h4 : AH} {Q : Option V → AH → Prop} {T U e0 l : Nat} {il : Bool} {so : Option Nat} {sc : List Nat} {r R X1 : RV} {nk : Nat} {par : Nat → Nat} {wk : Nat → Int64} {pk : Nat → Int32} {nm : Nat} {fW fS : Nat → Nat} {ks : List Nat} {B0 : Nat} {G : Nat → Nat → Nat} {kn N x : Nat} {wd : Nat → Int64} {pc : Nat → Int32} (hd : 20 * (9 - D) ≤ d + 9) (A : RIL r) (hr : rng r) (hD : dN r = D) (D0 : 0 < D) (d1 : ¬ gi r 1451 = 125) (hl : l ≤ D) (hsc : ∀ a, a ∈ sc → a + 1 < tp h ∧ U + 10 ≤ a) (hU : U + 10 ≤ tp h) (htp : tp h < tp h4) (hB0 : 3 * tn (gi r 1448) + 100 ≤ B0) (pp : plp (gi r 1449)) (DP : ENR r R → DPR h3 R G r (rsB r) sc l il nk wk nm (nsC r) fS) (OD : OPD r X1 D 5) (x19 : ai X1 19 (rsN r) = nI 9) (kn4 : kn ≤ 4) (hN : tp h < N ∧ N + 3 < tp h4) (xd : ∀ j, j < kn → wd j = conv (al X1 30 (4 * rsN r + j)) ∧ WV (al X1 30 (4 * rsN r + j)) ∧ pc j = ai X1 31 (4 * rsN r + j)) (s4 : ENR r R → ∀ c, c ∈ cch R (rsB r) → fI h4 10304 (G 2 c) = fI h 10304 (G 2 c))
    (HF : ∀ h' r' ks' B' ns' fS' n, goK D n (stpF r) r' → ES h' T U e0 1 r' D l il so → FX (EPa T U e0 sc) h h' → LST h' U e0 nm fW ns' fS' ks' B' → (∀ k, k < nsC r → fS' k = fS k) → (gi r' 1452 = -1 → ns' = nsC r' ∧ nsC r < ns' ∧ B0 ≤ B' + 3 * qN r' ∧ dN r' = D) → (¬ gi r' 1452 = -1 → B0 + D ≤ B' + 3 * tn (gi r 1448) + 20) → (tg h' (tp h) = 9 ∧ tp h < tp h') → (ENR r R → ENR r' R ∧ ∃ G', DPO h h' U R G G' r r' (tp h) ks ks' fS') → Q none h') :
    ∀ m n, n + m = 4 → ∀ h1 rc ks1 B ns fS1 mm wh last p G1, TST D h h4 T U e0 l il so sc r R nk par wk pk nm fW fS ks B0 G X1 kn N x wd pc n h1 rc ks1 B ns fS1 mm wh last p G1 → wp (d + 11) K_X5_takeTry 27 [] [(0, vr (some (U + 9))), (1, vr (some (tp h))), (2, vi wh), (3, vr last), (4, vi (nI n))] h1 Q := by
  intro m
  induction m with
  | zero =>
    intro n hn h1 rc ks1 B ns fS1 mm wh last p G1 TS
    rw [bk_X5_takeTry_27, lt4, nI_leI (by omega) (by omega)]
    exact ⟨fun _ => try_tail HB hd A hr hD D0 d1 hl hsc hU htp hB0 pp DP OD x19 kn4 hN xd s4 HF (by omega) TS (fun _ => by omega), fun z => by omega⟩
  | succ m ih =>
    intro n hn h1 rc ks1 B ns fS1 mm wh last p G1 TS
    have d0 : 0 < dN r := by omega
    have D8 := A.d.2
    obtain ⟨⟨gk, Ac, ec, c125, dc, o41, o40, l1, l2⟩, ⟨⟨r27, r28, r29, r32⟩, r30⟩, ⟨E, X, htp1, CH, K, N1, F, t9, nt⟩, ⟨L, ens, fk, cr⟩, ⟨hwh, hlast⟩, ⟨⟨p4, p8, p9, p10, p11⟩, p12, p12'⟩, DT⟩ := id TS
    obtain ⟨a1, a2, a3, a4, a5, a6, a7, a8, a9, a10, a11⟩ := cla_v Ac ec c125 dc
    have sm := small A
    have smc := small Ac
    have c9 := E.1.2.2.2.2.2.2.2.2.1
    have tT : T < U := by have := E.1.2.1; omega
    have he := L.e0
    have kw18 : lN (kwN 18) = 426836779880 := by decide +kernel
    have t18 : tkn (clA rc) = 18 ↔ gl (clA rc) 21450 = 426836779880 := by rw [← kw18]; exact tk_kw a1.1 (by omega)
    have cl : stpF rc = beF (clA rc) (rsN r) (decide (n = 0)) := by
      rw [close_is c125 (by omega), o40, o41, tn_nI sm.1]
      by_cases z : n = 0
      · rw [if_pos z, decide_eq_true z]; rfl
      · rw [if_neg z, decide_eq_false z]; rfl
    have gk1 : goK D (mm + 1) (stpF r) (stpF rc) := goK_tr (m := 1) gk ⟨rng_in ec (by omega), RIL_pre Ac, by omega, rfl⟩
    have tail : (tkn (clA rc) = 18 → n = 4) → wp (d + 11) K_X5_takeTry 52 [] [(0, vr (some (U + 9))), (1, vr (some (tp h))), (2, vi wh), (3, vr last), (4, vi (nI n))] h1 Q := try_tail HB hd A hr hD D0 d1 hl hsc hU htp hB0 pp DP OD x19 kn4 hN xd s4 HF (by omega) TS
    rw [bk_X5_takeTry_27, lt4, nI_leI (by omega) (by omega)]
    refine ⟨fun z => by omega, fun _ => ?_⟩
    rw [bk_X5_takeTry_30, show vi 18 = vi (nI 18) from rfl, p_at E (by omega)]
    refine ⟨c9, ?_⟩
    simp only [psh, bk_X5_takeTry_33, b2i_0, a2, decide_true, Bool.true_and]
    refine ⟨fun z => tail (fun y => by rw [decide_eq_true y] at z; cases z), fun z => ?_⟩
    have z18 : tkn (clA rc) = 18 := Classical.byContradiction (fun y => z (decide_eq_false y))
    have clc : stpF rc = rcF (clA rc) (rsN r) := by
      rw [cl]
      unfold beF
      rw [if_pos (t18.mp z18)]
    obtain ⟨q1, q2, q3, q4, q5, q6, q7, q8, q9, q10, q11, q12⟩ := id OD
    have hsc2 : ENR r R → ∀ c, c ∈ cch R (rsB r) → G 2 c + 1 < tp h ∧ U + 10 ≤ G 2 c := fun EN c m => by
      have P := DP EN
      exact hsc _ (by rw [P.2.2.2.1]; exact List.mem_map.mpr ⟨c, m, rfl⟩)
    -- the old things, whatever comes new
    have oldE : ∀ f z, z < tp h1 → f / 100 % 100 = 3 ∨ f / 100 % 100 = 6 ∨ f / 100 % 100 = 8 ∨ f = 90001 → (f = 10304 → tp h ≤ z) → ¬ EPn T U e0 (tp h1) sc f z := fun f z hz hf h10 w => by
      rcases w with w | w
      · rcases EPa_is w with w | w | w | ⟨w, w2⟩ | w
        · omega
        · omega
        · omega
        · have := hsc z w; have := h10 w2; omega
        · omega
      · omega
    have KX : ∀ h', FX (EPn T U e0 (tp h1) sc) h1 h' → KD h' (U + 1) nk par wk pk := fun h' x => by
      have hU1 : U + 9 < tp h1 := E.1.2.2.1
      refine K.fx x (fun g w => ?_) (oldE _ _ (by omega) (by omega) (by omega)) (oldE _ _ (by omega) (by omega) (by omega)) (oldE _ _ (by omega) (by omega) (by omega)) (oldE _ _ (by omega) (by omega) (by omega))
      rcases w with w | w
      · rcases EPa_is w with w | w | w | ⟨w, w2⟩ | w
        · omega
        · omega
        · omega
        · have := hsc _ w; omega
        · omega
      · omega
    rw [bk_X5_takeTry_34]
    refine ⟨c9, p_catch (d := d) (h := h) (h3 := h3) (h4 := h4) (R := R) (G := G) (G1 := G1) (fS0 := fS) (ks4 := ks) (bs := nbN r :: (List.range n).map (fun i => tn (ai R 33 (4 * rsN r + i)))) (C := flr (mpC R (rsN r)) n 0) (W := 2 * kn + sumN (wtC R (rsN r)) n 0) HB hd A hr hD D0 d1 hl gk Ac ec c125 dc o41 r32 (by omega) clc (t18.mp z18) l1 l2 E CH (fun a m => by have := hsc a m; omega) K L ens cr hB0 htp1 (by omega) DP (fun EN => (DT EN).1) (fun EN => ?_) ?_ ?_⟩
    · obtain ⟨sf, ENc, m1, ct, m2⟩ := DT EN
      obtain ⟨v20, v21, v22, ew, lb, FR, rl⟩ := st_vals A hr d0 d1 EN
      refine ⟨ENc, m1, fun b hb h6 => ?_, fun j hj => (ct j hj).2.2.1.2⟩
      rcases List.mem_cons.mp hb with hb | hb
      · rw [hb, FR.2.2.1 40 _ (by omega) (by omega) (by omega), q8] at h6
        exact absurd h6 (by decide)
      · obtain ⟨i, i1, i2⟩ := List.mem_map.mp hb
        have i1 := List.mem_range.mp i1
        obtain ⟨⟨b', b1, b2⟩, -⟩ := ct i i1
        obtain ⟨-, c2, -, -, -, c6⟩ := b2
        have eb : b = b' := by rw [← i2, c2, tn_nI (by omega)]
        have UP := (DP EN).2.2.2.2.2.2.2
        have u1 := UP.1
        have u2 := UP.2.1
        rcases c6 with c6 | ⟨b'', e1, -, e3, -, -, e6⟩
        · exact absurd c6 (nI_ne_m1 (by omega))
        · have : b'' = b' := by
            have := congrArg tn e1
            rw [tn_nI (by omega), tn_nI (by omega)] at this
            exact this.symm
          rw [eb, ← this, e6, tn_nI (by omega)]; exact i1
    · intro h' rd ks' B' ns' fS' n' X' OE x27 x32 x30 g Ad ed c125' dd Ed Xd Ld ens' fk' crd cz p306 DD
      obtain ⟨o1, o2, o3, o4, o5, o6, o7, o8, o9, o10, o11, o12, o13, o14, o15, o16⟩ := id OE
      obtain ⟨y1, y2, y3, OWd, FD⟩ := cls_w o2 o4 o5 o6 (s := rsN r) (by omega) o8 o9 g ed dd
      have htpd : tp h1 ≤ tp h' := Xd.1
      have k1 : rsN rc ≤ rsN rd := by have := FD.1.2.1; omega
      have k2 : nbN rc + 1 ≤ nbN rd := by have := FD.1.2.2.1; omega
      have t9d : tg h' (tp h) = 9 := by rw [Xd.tg (by omega)]; exact t9
      have Fd := F.fx Xd (by omega) (fun f hf => oldE f _ (by omega) (by omega) (by omega))
      have gk2 : goK D (mm + 1 + n') (stpF r) rd := goK_tr gk1 (goL_K g)
      have e1 : rsN r = wN r * 120 + nsC r := rfl
      have cyz := cz.2.1
      have kc : nsC r < ns := by
        have w1 : wN (stpF r) = wN r := by unfold wN; rw [q3.1]
        have F1 := (frk q2 gk ec (by omega)).2.1
        have wc : wN rc = wN r := F1.1.1.trans w1
        have e2 : rsN rc = wN r * 120 + nsC rc := by rw [← wc]; rfl
        omega
      obtain ⟨Gd, hG⟩ : ∃ Gd, ENR r R → ENR rd R ∧ MBO h h4 h' U R G Gd r rd ((nbN r :: (List.range n).map (fun i => tn (ai R 33 (4 * rsN r + i)))) ++ [nbN rc]) (flr (mpC R (rsN r)) n 0 ++ mpC R (rsN r) n) ks ks' fS' (n + 1) (2 * kn + sumN (wtC R (rsN r)) n 0 + wtC R (rsN r) n) ∧ Gd 2 (4 * rsN r + n) = tp h1 ∧ CTN h' U R Gd r n (nbN rc) ∧ (∀ j, j < n → Gd 2 (4 * rsN r + j) = G1 2 (4 * rsN r + j)) ∧ ∀ b, b < nbN rc → Gd 1 b = G1 1 b ∧ Gd 4 b = G1 4 b ∧ Gd 5 b = G1 5 b := by
        by_cases EN : ENR r R
        · obtain ⟨ENd, Gd, z⟩ := DD EN
          exact ⟨Gd, fun _ => ⟨ENd, z⟩⟩
        · exact ⟨fun _ _ => 0, fun z => absurd z EN⟩
      have NEXT : ∀ h2 p2, FX (fun g z => (g = 30812 ∧ z = tp h) ∨ (g = 30306 ∧ last = some z)) h' h2 → ES h2 T U e0 1 (clA rd) D l il so → LST h2 U e0 nm fW ns' fS' ks' B' → FO h2 8 (tp h) (vS0 (nI 9) (gi r 1449) (nI nm - 1) (nI l)) (fun _ => 0) p2 → (p2 30804 = none ∧ p2 30808 = none ∧ p2 30809 = some x ∧ p2 30810 = none ∧ p2 30811 = some N) → (ENR r R → p2 30812 = some (Gd 2 (4 * rsN r))) → (∀ z, last = some z → fP h2 30306 z = some (tp h1)) → tp h2 = tp h' → wp (d + 11) K_X5_takeTry 27 [] [(0, vr (some (U + 9))), (1, vr (some (tp h))), (2, vi 1), (3, vr (some (tp h1))), (4, vi (nI (n + 1)))] h2 Q := by
        intro h2 p2 x2 E2 L2 F2 pq2 p212 l306 tp2
        have X2 : FX (EPn T U e0 (tp h) sc) h h2 := (X.tr (Xd.mono (fun g z w => by
          rcases w with w | w
          · exact Or.inl w
          · exact Or.inr ⟨by omega, w.2⟩))).tr (x2.mono (fun g z w => by
          rcases w with w | w
          · exact Or.inr ⟨by omega, by omega⟩
          · refine Or.inr ⟨?_, by omega⟩
            rcases hlast with ⟨-, y⟩ | ⟨-, y, e, -, b1, -⟩
            · rw [y] at w; cases w.2
            · rw [e] at w; cases w.2; omega))
        have n2 : ∀ f z, ¬ f = 30812 → ¬ f = 30306 → ¬ ((f = 30812 ∧ z = tp h) ∨ (f = 30306 ∧ last = some z)) := fun f z h1 h2 w => by
          rcases w with w | w
          · exact h1 w.1
          · exact h2 w.1
        refine ih (n + 1) (by omega) h2 rd ks' B' ns' fS' (mm + 1 + n') 1 (some (tp h1)) p2 Gd ⟨⟨gk2, Ad, ed, c125', dd, y3, by rw [y2, if_neg (by omega)], by omega, by omega⟩, ⟨⟨?_, ?_, ?_, ?_⟩, fun q j hq hj => ?_⟩, ⟨E2, X2, by omega, ?_, ?_, ?_, F2, ?_⟩, ⟨L2, ens', fun k hk => ?_, crd⟩, ⟨⟨fun z => absurd z (by decide), fun z => by omega⟩, Or.inr ⟨by omega, tp h1, rfl, ?_, htp1, by omega, fun EN => ?_⟩⟩, ⟨pq2, fun z => by omega, fun _ EN => p212 EN⟩, fun EN => ?_⟩
        · rw [OWd.1 27 (by omega), o12 27 (by omega) (by omega), x27 27 (by omega)]; exact r27
        · rw [OWd.1 28 (by omega), o12 28 (by omega) (by omega), x27 28 (by omega)]; exact r28
        · rw [OWd.1 29 (by omega), o12 29 (by omega) (by omega), x27 29 (by omega)]; exact r29
        · rw [OWd.1 32 (by omega), o12 32 (by omega) (by omega)]; exact x32
        · obtain ⟨s3, s4⟩ := OWd.2 q j hq hj
          obtain ⟨s5, s6⟩ := r30 q j hq hj
          obtain ⟨s7, s8⟩ := x30 q hq
          exact ⟨by rw [s3, o12 q (by omega) (by omega), s7, s5], by rw [s4, o13, s8, s6]⟩
        · refine CHN.fx x2 (fun a => ⟨n2 _ _ (by decide) (by decide), n2 _ _ (by decide) (by decide)⟩) (CHN.fm Xd (fun a m => ?_) CH)
          have := hsc a m
          exact ⟨oldE _ _ (by omega) (by omega) (by omega), oldE _ _ (by omega) (by omega) (by omega)⟩
        · refine (KX h' Xd).fx x2 (fun g w => ?_) (n2 _ _ (by decide) (by decide)) (n2 _ _ (by decide) (by decide)) (n2 _ _ (by decide) (by decide)) (n2 _ _ (by decide) (by decide))
          rcases w with w | w
          · omega
          · rcases hlast with ⟨-, y⟩ | ⟨-, y, e, -, b1, -⟩
            · rw [y] at w; cases w.2
            · rw [e] at w; cases w.2; omega
        · refine ⟨(N1.1.fx Xd (fun q hq => oldE _ _ (by omega) (by omega) (by omega)) (oldE _ _ (by omega) (by omega) (by omega)) (oldE _ _ (by omega) (by omega) (by omega)) (oldE _ _ (by omega) (by omega) (by omega))).fx x2 (fun q hq => n2 _ _ (by omega) (by omega)) (n2 _ _ (by decide) (by decide)) (n2 _ _ (by decide) (by decide)) (n2 _ _ (by decide) (by decide)), N1.2⟩
        · refine ⟨by rw [x2.tg (by omega)]; exact t9d, ?_⟩
          rw [x2.tg (by omega), Xd.tg (by omega)]; exact nt
        · rw [fk' k (by omega)]; exact fk k hk
        · rw [x2.tg (by omega)]; exact cz.2.2.1
        · rw [show n + 1 - 1 = n by omega]; exact (hG EN).2.2.1
        · obtain ⟨ENd, m1, g2, cn, gj, gb⟩ := hG EN
          obtain ⟨sf, ENc, m0, ct, m2⟩ := DT EN
          obtain ⟨v20, v21, v22, ew, lb, FR, rl⟩ := st_vals A hr d0 d1 EN
          have P := DP EN
          have hc : ∀ c, c ∈ cch R (rsB r) → c / 4 < rsN r := fun c m => (P.2.2.2.2.1 c m).2
          have r33 : tn (ai R 33 (4 * rsN r + n)) = nbN rc := by rw [cn.2.1, tn_nI smc.2]
          have ebs : (nbN r :: (List.range n).map (fun i => tn (ai R 33 (4 * rsN r + i)))) ++ [nbN rc] = nbN r :: (List.range (n + 1)).map (fun i => tn (ai R 33 (4 * rsN r + i))) := by
            rw [List.range_succ, List.map_append, List.map_singleton, r33]; rfl
          have eC : flr (mpC R (rsN r)) n 0 ++ mpC R (rsN r) n = flr (mpC R (rsN r)) (n + 1) 0 := by
            rw [flr_add, Nat.zero_add, show flr (mpC R (rsN r)) 1 n = mpC R (rsN r) n ++ [] from rfl, List.append_nil]
          have eW : 2 * kn + sumN (wtC R (rsN r)) n 0 + wtC R (rsN r) n = 2 * kn + sumN (wtC R (rsN r)) (n + 1) 0 := by
            rw [sumN_add, Nat.zero_add, show sumN (wtC R (rsN r)) 1 n = wtC R (rsN r) n + 0 from rfl]; omega
          rw [ebs, eC, eW] at m1
          have lastG : ∀ z, last = some z → 0 < n ∧ z = G1 2 (4 * rsN r + (n - 1)) := fun z e => by
            rcases hlast with ⟨-, y⟩ | ⟨y0, y, e', -, -, -, b3⟩
            · rw [y] at e; cases e
            · rw [e'] at e; cases e; exact ⟨y0, (b3 EN).symm⟩
          have m3 := mbo_fx m1 x2 (fun g z a1 a2 w => by
            rcases w with w | w
            · omega
            · obtain ⟨u1, u2⟩ := lastG z w.2
              exact Or.inr ⟨by omega, n - 1, by omega, by rw [gj (n - 1) (by omega)]; exact u2⟩) (fun c m => by
            have := hsc2 EN c m
            exact ⟨by omega, n2 _ _ (by decide) (by decide)⟩) CTK.rf (by omega)
          rw [List.append_nil] at m3
          refine ⟨fun c m => ?_, ENd, m3, fun i hi => ?_, ?_⟩
          · have := hsc2 EN c m
            exact ((sf c m).fx Xd (by omega) ⟨oldE _ _ (by omega) (by omega) (by omega), oldE _ _ (by omega) (by omega) (by omega), oldE _ _ (by omega) (by omega) (by omega)⟩).fx x2 (by omega) ⟨n2 _ _ (by decide) (by decide), n2 _ _ (by decide) (by decide), n2 _ _ (by decide) (by decide)⟩
          · by_cases y : i = n
            · rw [y]
              refine ⟨⟨nbN rc, by omega, cn.fx x2 (by rw [g2]; exact cyz) (fun f z h1 h2 h3 h4 => n2 _ _ (by omega) h4)⟩, ?_, ⟨by rw [g2]; exact htp1, by rw [g2]; omega⟩, fun j h1 h2 => by omega⟩
              rw [g2, if_neg (by omega), x2.fP (by omega) (fun w => ?_)]
              · exact p306
              · rcases w with w | w
                · omega
                · obtain ⟨u1, u2⟩ := lastG _ w.2
                  have := (ct (n - 1) (by omega)).2.2.1.2
                  omega
            · have hi' : i < n := by omega
              obtain ⟨⟨b, c1, c2⟩, c3, ⟨c4, c5⟩, c6⟩ := ct i hi'
              have c7 := (c2.fx Xd c5 (fun f z h1 h2 h3 _ => oldE f z (by omega) (by omega) (by omega))).fx x2 (by omega) (fun f z h1 h2 h3 h4 => n2 _ _ (by omega) h4)
              have c8 := c7.cg (G' := Gd) (by omega) v21 lb (gj i hi') (fun c hm => by rw [m1.1.1.2.2 c (hc c hm), m0.1.1.2.2 c (hc c hm)]) (gb b c1)
              refine ⟨⟨b, by omega, c8⟩, ?_, ⟨by rw [gj i hi']; exact c4, by rw [gj i hi']; omega⟩, fun j h1 h2 => ?_⟩
              · rw [gj i hi', if_pos (by omega)]
                by_cases y2 : i + 1 < n
                · rw [gj (i + 1) y2, x2.fP (by omega) (fun w => ?_), Xd.fP (by omega) (oldE _ _ (by omega) (by omega) (by omega)), c3, if_pos y2]
                  rcases w with w | w
                  · omega
                  · obtain ⟨u1, u2⟩ := lastG _ w.2
                    have := c6 (n - 1) (by omega) (by omega)
                    omega
                · have en : i = n - 1 := by omega
                  rcases hlast with ⟨y', -⟩ | ⟨y0, y', e', -, -, -, b3⟩
                  · omega
                  · rw [show i + 1 = n by omega, g2]
                    refine l306 _ ?_
                    rw [e', en, b3 EN]
              · by_cases y3 : j = n
                · rw [y3, g2, gj i hi']; exact c5
                · rw [gj i hi', gj j (by omega)]; exact c6 j h1 (by omega)
          · rw [(gb (nbN r) (by omega)).1]; exact m2
      have e46 : nI n + 1 = nI (n + 1) := by rw [lt1, nI_add]
      simp only [psh]
      rw [bk_X5_takeTry_36]
      refine ⟨fun y => ?_, fun y => ?_⟩
      · rcases hlast with ⟨-, y'⟩ | ⟨y0, y', e', t4', b1, b2, b3⟩
        · exact absurd y' y
        rw [e'] at NEXT ⊢
        have t4d : tg h' y' = 4 := by rw [Xd.tg b2]; exact t4'
        rw [bk_X5_takeTry_43, nn_some]
        refine ⟨t4d, ?_⟩
        rw [bk_X5_takeTry_46, e46]
        refine wp_cut 5 (NEXT _ p (FX.FP (Or.inr ⟨rfl, rfl⟩)) (Ed.fp (some (tp h1)) (by omega) (by decide)) (LST.fp Ld (some (tp h1)) (by omega) (by decide)) (Fd.fx (FX.FP (E := fun g z => g = 30306 ∧ z = y') ⟨rfl, rfl⟩) (by omega) (fun f hf w => by omega)) ⟨p4, p8, p9, p10, p11⟩ (fun EN => ?_) (fun z ez => ?_) rfl)
        · rw [p12' y0 EN]
          have := (hG EN).2.2.2.2.1 0 y0
          rw [Nat.add_zero] at this
          rw [this]
        · cases ez
          show (if 30306 = 30306 ∧ y' = y' then some (tp h1) else _) = _
          rw [if_pos ⟨rfl, rfl⟩]
      · have n0 : n = 0 := by
          rcases hlast with ⟨z, -⟩ | ⟨-, y', e', -⟩
          · exact z
          · rw [e'] at y; cases y
        rw [bk_X5_takeTry_39, nn_some]
        refine ⟨t9d, ?_⟩
        rw [bk_X5_takeTry_46, e46]
        refine wp_cut 5 (NEXT _ (up1 p 30812 (some (tp h1))) (FX.FP (Or.inl ⟨rfl, rfl⟩)) (Ed.fp (some (tp h1)) hU (by decide)) (LST.fp Ld (some (tp h1)) hU (by decide)) (Fd.sP 30812 (some (tp h1))) ⟨?_, ?_, ?_, ?_, ?_⟩ (fun EN => ?_) (fun z ez => ?_) rfl)
        · unfold up1; rw [if_neg (by decide)]; exact p4
        · unfold up1; rw [if_neg (by decide)]; exact p8
        · unfold up1; rw [if_neg (by decide)]; exact p9
        · unfold up1; rw [if_neg (by decide)]; exact p10
        · unfold up1; rw [if_neg (by decide)]; exact p11
        · unfold up1
          have := (hG EN).2.2.1
          rw [n0, Nat.add_zero] at this
          rw [if_pos rfl, this]
        · rw [y] at ez; cases ez
    · intro h' rw ks' B' ns' fS' n' gk' bad Ew Xw Lw fk' crw t4
      have htpw : tp h1 ≤ tp h' := Xw.1
      have t9w : tg h' (tp h) = 9 := by rw [Xw.tg (by omega)]; exact t9
      have gk2 := goK_tr gk1 gk'
      have kc : nsC r < ns := by
        have w1 : wN (stpF r) = wN r := by unfold wN; rw [q3.1]
        have F1 := (frk q2 gk ec (by omega)).2.1
        have wc : wN rc = wN r := F1.1.1.trans w1
        have e1 : rsN r = wN r * 120 + nsC r := rfl
        have e2 : rsN rc = wN r * 120 + nsC rc := by rw [← wc]; rfl
        omega
      have Xh : FX (EPn T U e0 (tp h) sc) h h' := X.tr (Xw.mono (fun g z w => by
        rcases w with w | w
        · exact Or.inl w
        · exact Or.inr ⟨by omega, w.2⟩))
      have END : ∀ h2, FX (EPn T U e0 (tp h) sc) h h2 → LST h2 U e0 nm fW ns' fS' ks' B' → tg h2 (tp h) = 9 → tp h < tp h2 → ∀ h5, ES h5 T U e0 1 rw D l il so → PW T U h2 h5 → Q none h5 := fun h2 X2 L2 t2 tp2 h5 E5 w5 => by
        refine HF h5 rw ks' B' ns' fS' _ gk2 E5 (EPn_end (X2.tr (w5.1.mono (fun _ _ z => Or.inl (EPW_a z))))) (L2.pw w5) (fun k hk => ?_) (fun z => absurd z bad) (fun _ => by omega) ⟨by rw [w5.1.tg tp2]; exact t2, by rw [w5.2.1]; exact tp2⟩ (fun EN => absurd ((EN.step hr).go (goK_N gk2)).right bad)
        rw [fk' k (by omega)]; exact fk k hk
      simp only [psh]
      rw [bk_X5_takeTry_36]
      refine ⟨fun y => ?_, fun y => ?_⟩
      · rcases hlast with ⟨-, y'⟩ | ⟨y0, y', e', t4', b1, b2, b3⟩
        · exact absurd y' y
        rw [e']
        have t4d : tg h' y' = 4 := by rw [Xw.tg b2]; exact t4'
        rw [bk_X5_takeTry_43, nn_some]
        refine ⟨t4d, ?_⟩
        rw [bk_X5_takeTry_46]
        exact wp_cut 5 (try_bad (Ew.fp (some (tp h1)) (by omega) (by decide)) bad (END _ (Xh.toFP _ (Or.inr ⟨by omega, by decide⟩)) (LST.fp Lw (some (tp h1)) (by omega) (by decide)) t9w (by show tp h < tp h'; omega)))
      · rw [bk_X5_takeTry_39, nn_some]
        refine ⟨t9w, ?_⟩
        rw [bk_X5_takeTry_46]
        exact wp_cut 5 (try_bad (Ew.fp (some (tp h1)) hU (by decide)) bad (END _ (Xh.toFP _ (Or.inr ⟨by omega, by decide⟩)) (LST.fp Lw (some (tp h1)) hU (by decide)) t9w (by show tp h < tp h'; omega)))
