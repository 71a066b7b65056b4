theorem ES.kd {E : Nat → Nat → Prop} {h h' : AH} {T U e0 m : Nat} {r : RV} {D l : Nat} {il : Bool} {so : Option Nat} (s : ES h T U e0 m r D l il so) (x : FX E h h') (N : ∀ g y, E g y → (y = U + 1 ∧ (g = 504 ∨ g = 505)) ∨ (g = 90001 ∧ U + 2 ≤ y ∧ y ≤ U + 5)) : ES h' T U e0 m r D l il so := by
  obtain ⟨c, e2, ⟨p1, p2, p3, p4, p5⟩, ⟨p, q1, q2⟩, e5⟩ := s
  have c3 := c.2.2.1
  have ct := c.2.1
  have lT : T < tp h := by omega
  have no : ∀ g y, ¬ (g = 504 ∨ g = 505) → ¬ (g = 90001 ∧ U + 2 ≤ y ∧ y ≤ U + 5) → ¬ E g y := fun g y h1 h2 z => by
    have := N g y z
    omega
  have ts : ∀ (t : Nat → Int32) n, TS h T t n → TS h' T t n := fun t n a => a.fy c.1.2 x (no _ _ (by omega) (by omega)) (no _ _ (by omega) (by omega)) (no _ _ (by omega) (by omega)) (no _ _ (by omega) (by omega)) (no _ _ (by omega) (by omega)) (fun y => ⟨no _ _ (by omega) (by omega), no _ _ (by omega) (by omega), no _ _ (by omega) (by omega), no _ _ (by omega) (by omega), no _ _ (by omega) (by omega)⟩) (fun y hy => no _ _ (by omega) (by omega))
  refine ⟨c.fx x (fun y => ⟨no _ _ (by omega) (by omega), no _ _ (by omega) (by omega), no _ _ (by omega) (by omega), no _ _ (by omega) (by omega), no _ _ (by omega) (by omega)⟩) ⟨no _ _ (by omega) (by omega), no _ _ (by omega) (by omega), no _ _ (by omega) (by omega), no _ _ (by omega) (by omega)⟩ ⟨no _ _ (by omega) (by omega), no _ _ (by omega) (by omega)⟩, ts _ _ e2, ⟨?_, ?_, ?_, ?_, ?_⟩, ⟨p, by rw [x.fI lT (no _ _ (by omega) (by omega))]; exact q1, q2⟩, fun z => ?_⟩
  · rw [x.fI c3 (no _ _ (by omega) (by omega))]; exact p1
  · rw [x.fI c3 (no _ _ (by omega) (by omega))]; exact p2
  · rw [x.fI c3 (no _ _ (by omega) (by omega))]; exact p3
  · rw [x.fI c3 (no _ _ (by omega) (by omega))]; exact p4
  · rw [x.fP c3 (no _ _ (by omega) (by omega))]; exact p5
  · obtain ⟨⟨k1, k2, k3, k4, k5⟩, R⟩ := e5 z
    refine ⟨⟨ts _ _ k1, ?_, ?_, fun y => ?_, fun y => ?_⟩, R⟩
    · rw [x.fI lT (no _ _ (by omega) (by omega))]; exact k2
    · rw [x.fI lT (no _ _ (by omega) (by omega))]; exact k3
    · rw [x.fI lT (no _ _ (by omega) (by omega))]; exact k4 y
    · rw [x.fJ lT (no _ _ (by omega) (by omega))]; exact k5 y
theorem KD.wl {h h' : AH} {T U e0 nk : Nat} {par : Nat → Nat} {wk : Nat → Int64} {pk : Nat → Int32} (K : KD h (U + 1) nk par wk pk) (x : FX (fun g y => EPW T U g y ∨ ELs U e0 g y) h h') (hT : T < U) (he : e0 < U) : KD h' (U + 1) nk par wk pk := by
  have no : ∀ z, ¬ (EPW T U 90001 z ∨ ELs U e0 90001 z) := fun z w => by
    rcases w with w | w
    · exact EPW_no (by omega) w
    · exact ELs_no (by omega) w
  exact K.fx x (fun g w => by
    rcases w with w | w
    · rcases w with w | w
      · have := w.1; omega
      · omega
    · rcases w with w | w <;> omega) (no _) (no _) (no _) (no _)
theorem rk_55 (r : RV) : gi (rkF r) 1455 = gi r 1455 := by
  unfold rkF
  split
  · rw [gi_fai]
  split
  · rw [gi_fai, gi_adv]
  split
  · rw [gi_fai, gi_rkB, gi_nam, gi_adv]
  split
  · rw [gi_fai, gi_adv, gi_rkB, gi_nam, gi_adv]
  split
  · rw [gi_fai, gi_rkC, gi_nam, gi_adv, gi_rkB, gi_nam, gi_adv]
  · rw [gi_tI, gi_adv, gi_rkC, gi_nam, gi_adv, gi_rkB, gi_nam, gi_adv]
theorem p_kind {d : Nat} {hB h : AH} {Q : Option V → AH → Prop} {T U e0 : Nat} {r R : RV} {a0 B0 nk : Nat} {par : Nat → Nat} {wk : Nat → Int64} {pk : Nat → Int32} {nm : Nat} {fW : Nat → Nat} {ns : Nat} {fS : Nat → Nat} {ks : List Nat} {B : Nat} {G : Nat → Nat → Nat} (S : TOS hB T U e0 R a0 B0 h r nk par wk pk nm fW ns fS ks B G) (hk : gl r 21450 = 1802071652)
    (H1 : ∀ h' nk' par' wk' pk' ks' B', gi (stpF r) 1452 = -1 → TOS hB T U e0 R a0 B0 h' (stpF r) nk' par' wk' pk' nm fW ns fS ks' B' G → Q none h')
    (H2 : ∀ h' nm' fW' ns' fS' ks' B', ¬ gi (stpF r) 1452 = -1 → ES h' T U e0 0 (stpF r) 0 0 false none → LST h' U e0 nm' fW' ns' fS' ks' B' → B0 ≤ B' + 3 * tn (gi r 1448) + 20 → FX (EPT T U e0) hB h' → Q none h') : wp (d + 9) K_X5_tellKind 0 [] [(0, vr (some (U + 9)))] h Q := by
  obtain ⟨⟨A, er, dr⟩, E, K, L, ⟨ek, em, en⟩, ⟨cr, hB0⟩, ⟨ha0, ha1⟩, XB, TL⟩ := S
  have d0 : gi r 1455 = 0 := by rw [A.d.1, dr]; rfl
  have nend : ¬ gi r 1451 = -1 := ne_end A.1 (by rw [hk]; decide)
  have hr : rng r := ⟨er, Or.inr nend⟩
  have st : stpF r = rkF r := by unfold stpF; rw [if_pos d0, if_pos hk]
  have len := rt_len A.1
  have ck := A.2.2.2.2.1
  have n4 : 4 ≤ nk := by rw [ek]; exact ck.2
  have nk16 : nk ≤ 16 := by rw [ek]; exact ck.1.2
  have ai2 : ai r 2 (wN r) = nI nk := by rw [ek]; exact ck.1.1
  have tT : T < U := by have := E.1.2.1; omega
  have he := L.e0
  have CF : ∀ {h' : AH} {m : Nat} {r' : RV}, ES h' T U e0 m r' 0 0 false none → tg h' (U + 9) = 8 ∧ fP h' 30700 (U + 9) = some T ∧ fP h' 30701 (U + 9) = some U ∧ tg h' U = 11 ∧ fP h' 31000 U = some (U + 1) ∧ tg h' T = 10 := fun E' => ⟨E'.1.2.2.2.2.2.2.2.2.1, E'.1.2.2.2.2.2.2.2.2.2.1, E'.1.2.2.2.2.2.2.2.2.2.2, E'.1.2.2.2.1, E'.1.2.2.2.2.1, E'.2.1.1⟩
  obtain ⟨c9, c10, c11, c4, c5, cT⟩ := CF E
  obtain ⟨B, rfl⟩ : ∃ b, B = b + 2 := ⟨B - 2, by omega⟩
  rw [bk_X5_tellKind_0, c11, nn_some, c5, nn_some, K.2.2.2.2.2.2.1, show (16 : Int32) = nI 16 from rfl, nI_ltI (by omega) (by omega)]
  refine ⟨c9, c4, K.1, fun z => ?_, fun z => ?_⟩
  rotate_left
  · have es : stpF r = faiF r := by
      rw [st]; unfold rkF
      rw [if_pos (by rw [ai2, show nk = 16 by omega]; rfl)]
    rw [bk_X5_tellKind_6]
    refine ⟨c9, p_refuse E (fun h' E' w' => ?_)⟩
    rw [gT_f er] at E'
    simp only [psh, bk_X5_tellKind_8]
    rw [← es] at E'
    exact H2 h' nm fW ns fS ks (B + 2) (by rw [es]; exact (fai_w A.1 er).1) E' (L.pw w') (by omega) (XB.tr w'.tp)
  have n16 : ¬ ai r 2 (wN r) = 16 := fun y => by
    rw [ai2] at y
    have := congrArg tn y
    rw [tn_nI (by omega)] at this
    have : nk = 16 := this
    omega
  have kw11 : lN (kwN 11) = 1802071652 := by decide +kernel
  have tk11 : tkn r = 11 := (tk_kw A.1 (by omega)).mpr (by rw [kw11]; exact hk)
  rw [bk_X5_tellKind_9, show vi 11 = vi (nI 11) from rfl]
  refine ⟨c9, p_take (d := d + 2) E (by omega) (fun h1 E1 w1 => ?_)⟩
  rw [decide_eq_true tk11, gT_t er] at E1
  have r1 : gi (advF r) 1452 = -1 := by rw [gi_adv]; exact er
  have aq := (A.adv_q).2 nend
  have E1 := E1.m1 r1 (by omega)
  obtain ⟨c9, c10, c11, c4, c5, cT⟩ := CF E1
  obtain ⟨p1, hp1, hp1a, hp1b⟩ := E1.pl
  have pa1 : gi (advF r) 1449 = nI p1 := by rw [← (E1.2.2.2.2 r1).1.2.1]; exact hp1
  simp only [psh]
  rw [bk_X5_tellKind_12, c10, nn_some, hp1]
  refine ⟨c9, cT, c9, p_takeName (d := d + 2) E1 (fun h2 x1 E2 w2 val1 => ?_)⟩
  generalize e2 : gT (decide (tkn (advF r) = 27)) (advF r) = a2 at E2
  obtain ⟨c9, c10, c11, c4, c5, cT⟩ := CF E2
  simp only [psh]
  rw [bk_X5_tellKind_18, show vi 12 = vi (nI 12) from rfl]
  refine ⟨c9, p_take (d := d + 2) E2 (by omega) (fun h3 E3 w3 => ?_)⟩
  generalize e3 : gT (decide (tkn a2 = 12)) a2 = a3 at E3
  obtain ⟨c9, c10, c11, c4, c5, cT⟩ := CF E3
  obtain ⟨p2, hp2, hp2a, hp2b⟩ := E3.pl
  simp only [psh]
  rw [bk_X5_tellKind_22, c10, nn_some, c11, nn_some, c5, hp2]
  refine ⟨c9, cT, c9, c4, c9, p_takeName (d := d + 2) E3 (fun h4 x2 E4 w4 val2 => ?_)⟩
  generalize e4 : gT (decide (tkn a3 = 27)) a3 = a4 at E4
  obtain ⟨c9, c10, c11, c4, c5, cT⟩ := CF E4
  have X4 : FX (fun g y => EPW T U g y ∨ ELs U e0 g y) h h4 := (((w1.1.tr w2.1).tr w3.1).tr w4.1).mono (fun _ _ z => Or.inl z)
  have K4 := K.wl X4 tT he
  simp only [psh]
  rw [bk_X5_tellKind_31, nn_some, k_named K4]
  refine ⟨K4.1, ?_⟩
  simp only [psh]
  rw [bk_X5_tellKind_32, show vi 24 = vi (nI 24) from rfl]
  refine ⟨c9, p_take (d := d + 2) E4 (by omega) (fun h5 E5 w5 => ?_)⟩
  generalize e5 : gT (decide (tkn a4 = 24)) a4 = a5 at E5
  have tw : TEW a5 (stpF r) := by rw [st]; exact rk_tew A er n16 e2.symm e3.symm e4.symm e5.symm
  have X5 : FX (fun g y => EPW T U g y ∨ ELs U e0 g y) h h5 := X4.tr (w5.1.mono (fun _ _ z => Or.inl z))
  have K5 := K.wl X5 tT he
  have L5 : LST h5 U e0 nm fW ns fS ks (B + 2) := ((((L.pw w1).pw w2).pw w3).pw w4).pw w5
  generalize ep : ffst (fun k => decide (wk k = x2)) nk 0 = par0
  have fl : ∀ j, par0 = some j → j < nk := fun j hj => by
    rw [hj] at ep
    have := (ffst_some ep).2.1
    omega
  have prl : par0.getD 1 < nk := by
    cases hq : par0 with
    | none => show 1 < nk; omega
    | some j => exact fl j hq
  have oI0 : oI par0 = -1 ↔ par0 = none := by
    cases hq : par0 with
    | none => exact ⟨fun _ => rfl, fun _ => rfl⟩
    | some j => exact ⟨fun y => absurd y (nI_ne_m1 (by have := fl j hq; omega)), fun y => by cases y⟩
  -- the end
  have ADD : ∀ h6 ks6 b J, ES h6 T U e0 1 a5 0 0 false none → LST h6 U e0 nm fW ns fS ks6 b → FX (fun g y => EPW T U g y ∨ ELs U e0 g y) h h6 → B ≤ b → CTK ks6 J ks → (∀ a, List.count a J = List.count a (lif (decide (¬ ffst (fun k => decide (wk k = x1)) nk 0 = none)) (keyN p1 2 0)) + List.count a (lif (decide (par0 = none)) (keyN p2 1 0))) → wp (d + 9) K_X5_tellKind 68 [vi (nI (par0.getD 1)), vl x1, vr (some (U + 1))] [(0, vr (some (U + 9))), (1, vi (nI p1)), (2, vl x1), (4, vi (nI p2)), (5, vi (oI par0))] h6 Q := by
    intro h6 ks6 b J E6 L6 X6 hb cj ej
    have K6 := K.wl X6 tT he
    rw [bk_X5_tellKind_68, nn_some]
    refine ⟨K6.1, k_add (d := d + 7) K6 z x1 _ (nI p1) (par0.getD 1) (Or.inr ⟨by omega, rfl, prl⟩) (fun h7 K7 x7 tp7 rc7 rs7 => ?_)⟩
    simp only [psh, bk_X5_tellKind_70]
    have E7 := (E6.kd x7 (fun g y w => by omega)).te tw
    have L7 : LST h7 U e0 nm fW ns fS ks6 b := LST.fx 0 L6 x7 (fun L hL => ⟨fun w => by omega, fun w => by omega⟩) (fun e w => by omega) (fun y w => by omega) (by omega) (by omega)
    have XT : FX (EPT T U e0) hB h7 := (XB.tr (X6.mono (fun g y w => by
      rcases w with w | w
      · exact Or.inl (EPW_a w)
      · exact Or.inl (Or.inr (Or.inl w))))).tr (x7.mono (fun g y w => by
      rcases w with w | w
      · exact Or.inr (Or.inl ⟨by omega, w.2⟩)
      · exact Or.inr (Or.inr (Or.inl ⟨w.1, by omega, by omega⟩))))
    by_cases ok : gi (stpF r) 1452 = -1
    rotate_left
    · exact H2 h7 nm fW ns fS ks6 b ok E7.m0 L7 (by omega) XT
    obtain ⟨A', O⟩ := turn A hr ok
    have ok' := ok
    rw [st] at ok'
    obtain ⟨f1, f2, f3, f4, f5, ⟨f6, f7⟩, v3, v4, v6, v7, v5⟩ := rk_f A er hk ok'
    rw [← st] at f5 f6 v3 v4 v6 v7 v5
    obtain ⟨o1, o2, o3, o4, o5⟩ := id O
    have w' : wN (stpF r) = wN r := by unfold wN; rw [o1]
    have nk' : nkN (stpF r) = nk + 1 := by
      unfold nkN
      rw [w', f6, tn_nI (by omega), ek]
    have W := ow_turn (RIL_pre A)
    have keep : ∀ q i, ¬ (q = 2 ∨ (3 ≤ q ∧ q ≤ 7)) → q < 39 → ai (stpF r) q i = ai r q i := fun q i hq hq2 => (W q i (fun y => by
      have kw : ¬ (1802071652 : Int64) = 7823737 := by decide
      unfold AT at y
      rcases y with y | y | y | ⟨-, y⟩ | ⟨y, -⟩ | ⟨y, -⟩
      · omega
      · omega
      · omega
      · unfold ATo at y
        rcases y with ⟨-, y⟩ | ⟨y, -⟩
        · omega
        · rw [hk] at y; exact kw y
      · exact y d0
      · exact y d0)).1
    have dd : dN (stpF r) = 0 := by
      unfold dN; rw [st, rk_55, d0]; rfl
    have nb' : nbN (stpF r) = nbN r := by
      obtain ⟨kk, -, o5⟩ := o5
      rcases o5 with o5 | o5
      · exact o5.2.2
      · have := o5.1; omega
    have nm' : nmN (stpF r) = nmN r := by unfold nmN; rw [w', keep 8 _ (by omega) (by omega)]
    have ns' : nsC (stpF r) = nsC r := by unfold nsC; rw [w', keep 18 _ (by omega) (by omega)]
    have rs' : rsN (stpF r) = rsN r := by unfold rsN; rw [w', keep 18 _ (by omega) (by omega)]
    have nbC' : nbC (stpF r) = nbC r := by
      have e1 : nbN r = wN r * 1024 + nbC r := rfl
      have e2 : nbN (stpF r) = wN r * 1024 + nbC (stpF r) := by rw [← w']; rfl
      omega
    have X7 : FX (fun g y => EPW T U g y ∨ ELs U e0 g y ∨ y ≤ U + 5) h h7 := (X6.mono (fun g y w => by
      rcases w with w | w
      · exact Or.inl w
      · exact Or.inr (Or.inl w))).tr (x7.mono (fun g y w => Or.inr (Or.inr (by omega))))
    have old : ∀ g y, a0 ≤ y → (EPW T U g y ∨ ELs U e0 g y ∨ y ≤ U + 5) → g = 90003 := fun g y hy w => by
      rcases w with w | w | w
      · rcases w with w | w
        · have := w.1; omega
        · omega
      · rcases w with w | w
        · omega
        · exact w.1
      · omega
    refine H1 h7 (nk + 1) _ _ _ ks6 b ok ⟨⟨A', ok, dd⟩, E7.m0, K7, L7, ⟨nk'.symm, by rw [nm']; exact em, by rw [ns']; exact en⟩, ⟨by omega, by rw [o2]; exact hB0⟩, ⟨ha0, by have := X7.1; omega⟩, XT, fun EN' => ?_⟩
    have EN := EN'.back hr (RIL_pre A)
    obtain ⟨t1, t2, t3, ⟨t4, t4'⟩, t5, t6, t7, t8⟩ := TL EN
    obtain ⟨g1, g2, g3, g4, g5⟩ := fk_en EN' A'
    have rki : rkI r = wN r * 16 + nk := by rw [ek]; rfl
    have rki' : rkI (stpF r) = wN r * 16 + nk + 1 := by
      show wN (stpF r) * 16 + nkN (stpF r) = _
      rw [w', nk']; omega
    rw [rki] at v3 v4 v6 v7 v5
    have u3 : al R 3 (wN r * 16 + nk) = gl (advF r) 21450 := by rw [(g4 3 _ (by omega) (by omega) (by omega)).2]; exact v3
    have u4 : ai R 4 (wN r * 16 + nk) = nI p1 := by rw [(g4 4 _ (by omega) (by omega) (by omega)).1, v4]; exact pa1
    have u6 : al R 6 (wN r * 16 + nk) = gl (advF (advF (advF r))) 21450 := by rw [(g4 6 _ (by omega) (by omega) (by omega)).2]; exact v6
    have u7 : ai R 7 (wN r * 16 + nk) = gi (advF (advF (advF r))) 1449 := by rw [(g4 7 _ (by omega) (by omega) (by omega)).1]; exact v7
    have u5 : ai R 5 (wN r * 16 + nk) = gi (advF (advF (advF (advF r)))) 1449 := by rw [(g4 5 _ (by omega) (by omega) (by omega)).1]; exact v5
    have M0 := MD.start A er
    have M1 := M0.adv nend
    have M2 := M1.adv (ne_end M1.rt (okN_ne f1))
    have M3 := M2.adv (ne_end M2.rt (by rw [f2]; decide))
    have M4 := M3.adv (ne_end M3.rt (okN_ne f3))
    have q1 := M1.1.q
    have q3 := M3.1.q
    have q4 := M4.1.q
    have q5 := f5.q
    have q45 := (M4.1.adv_q).2 (by rw [f4]; decide)
    have q34 := (M3.1.adv_q).2 (ne_end M3.rt (okN_ne f3))
    have q13 : qN (advF r) ≤ qN (advF (advF (advF r))) := by
      have := (M1.1.adv_q).1
      have := (M2.1.adv_q).1
      omega
    -- the class's tokens are right
    have z1 : tkn (advF r) = 27 := (tk_name M1.rt).mpr f1
    rw [decide_eq_true z1, gT_t r1] at e2
    have kw12 : lN (kwN 12) = 422608400247 := by decide +kernel
    have z2 : tkn a2 = 12 := by rw [← e2]; exact (tk_kw M2.rt (by omega)).mpr (by rw [kw12]; exact f2)
    have r2 : gi a2 1452 = -1 := by rw [← e2]; exact M2.2.1
    rw [decide_eq_true z2, gT_t r2, ← e2] at e3
    have r3 : gi a3 1452 = -1 := by rw [← e3]; exact M3.2.1
    have z3 : tkn a3 = 27 := by rw [← e3]; exact (tk_name M3.rt).mpr f3
    obtain ⟨vx1, wv1⟩ := val1 r1 z1
    obtain ⟨vx2, wv2⟩ := val2 r3 z3
    have pa2 : gi a3 1449 = nI p2 := by rw [← (E3.2.2.2.2 r3).1.2.1]; exact hp2
    rw [← e3] at vx2 wv2 pa2
    have pp1 : qN (advF r) = p1 := by unfold qN; rw [pa1, tn_nI (by omega)]
    have pp2 : qN (advF (advF (advF r))) = p2 := by unfold qN; rw [pa2, tn_nI (by omega)]
    have lo : ∀ p, qN r < p → p ≤ 2000 → ∀ k, k < nk → ai R 5 (wN r * 16 + k) < nI p := fun p h1 h2 k hk' => by
      refine Int32.lt_trans (t1 k hk').2.2.1 ?_
      rw [A.q.1, nI_ltI (by have := A.q.2.1; omega) (by omega)]
      exact h1
    have cgk : ∀ y : Int64, WV y → ffst (fun k => decide (al R 3 (wN r * 16 + k) = y)) nk 0 = ffst (fun k => decide (wk k = conv y)) nk 0 := fun y hy => by
      refine ffst_cg _ _ (fun i _ hi => ?_)
      obtain ⟨b1, b2, -⟩ := t1 i (by omega)
      rw [b1]
      exact decide_eq_decide.mpr (conv_inj b2 hy).symm
    have kl1 : kN R (wN R) (nkN R) (al R 3 (wN r * 16 + nk)) (ai R 4 (wN r * 16 + nk)) = ffst (fun k => decide (wk k = x1)) nk 0 := by
      rw [g1, w', u3, u4, kl_new EN' A' w'.symm nk'.symm (by omega) (lo p1 (by omega) (by omega)) (u5.trans q4.1) (by omega), vx1]
      exact cgk _ wv1
    have kl2 : kN R (wN R) (nkN R) (al R 6 (wN r * 16 + nk)) (ai R 7 (wN r * 16 + nk)) = par0 := by
      rw [g1, w', u6, u7, pa2, kl_new EN' A' w'.symm nk'.symm (by omega) (lo p2 (by omega) (by omega)) (u5.trans q4.1) (by omega), ← ep, vx2]
      exact cgk _ wv2
    have wR : wN R = wN r := g1.trans w'
    have kl1' := kl1
    have kl2' := kl2
    have u4' := u4
    have u7' := u7
    rw [← wR] at kl1' kl2' u4' u7'
    refine ⟨fun k hk' => ?_, fun k hk' => ?_, ?_, ⟨?_, fun b' hb' => ?_⟩, fun m hm => ?_, fun a => ?_, ?_, t8⟩
    · rw [w']
      show (if k = nk then x1 else wk k) = _ ∧ _ ∧ _ ∧ (if k = nk then par0.getD 1 else par k) = _ ∧ (if k = nk then nI p1 else pk k) = _
      by_cases y : k = nk
      · rw [y, if_pos rfl, if_pos rfl, if_pos rfl]
        refine ⟨by rw [u3]; exact vx1, by rw [u3]; exact wv1, ?_, ?_, u4.symm⟩
        · rw [u5, q4.1, A'.q.1, nI_ltI (by omega) (by have := A'.q.2.1; omega)]
          omega
        · unfold parN
          rw [if_neg (by omega), kl2']
      · rw [if_neg y, if_neg y, if_neg y]
        obtain ⟨b1, b2, b3, b4, b5⟩ := t1 k (by omega)
        refine ⟨b1, b2, Int32.lt_trans b3 ?_, b4, b5⟩
        rw [A.q.1, A'.q.1, nI_ltI (by have := A.q.2.1; omega) (by have := A'.q.2.1; omega)]
        exact o3
    · rw [w']; exact t2 k (by omega)
    · rw [w', rs', nb']
      exact AD.wide (t3.fx X7 (fun g y h1 h2 w => old g y h1 w)) (Nat.le_refl _) X7.1 (Nat.le_refl _)
    · rw [w', rs']; exact t4
    · rw [w'] at hb' ⊢
      rw [nb']; exact t4' b' hb'
    · obtain ⟨b1, b2, b3⟩ := t5 m hm
      rw [w']
      exact ⟨b1.fx X7 b3 (fun g y h1 h2 h3 w => by have := old g y (by omega) w; omega), b2, by have := X7.1; omega⟩
    · rw [ns', w', show nk + 1 - 4 = (nk - 4) + 1 by omega, flr_add, show 4 + (nk - 4) = nk by omega, show flr (jkL R (wN R) (nkN R)) 1 nk = jkL R (wN R) (nkN R) nk ++ [] from rfl, List.append_nil]
      have c1 := t6 a
      have c2 := cj a
      have c3 := ej a
      have ejk : List.count a (jkL R (wN R) (nkN R) nk) = List.count a J := by
        unfold jkL
        rw [kl1', kl2', List.count_append, c3, u4', u7', pa2, tn_nI (by omega), tn_nI (by omega)]
      simp only [List.count_append, List.count_nil] at c1 ⊢
      rw [ejk]
      omega
    · rw [ns', w', nbC']; omega
  -- from the notes on
  have T58 : ∀ h6 ks6 b J, ES h6 T U e0 1 a5 0 0 false none → LST h6 U e0 nm fW ns fS ks6 b → FX (fun g y => EPW T U g y ∨ ELs U e0 g y) h h6 → B ≤ b → CTK ks6 J ks → (∀ a, List.count a J = List.count a (lif (decide (¬ ffst (fun k => decide (wk k = x1)) nk 0 = none)) (keyN p1 2 0)) + List.count a (lif (decide (par0 = none)) (keyN p2 1 0))) → wp (d + 9) K_X5_tellKind 58 [] [(0, vr (some (U + 9))), (1, vi (nI p1)), (2, vl x1), (4, vi (nI p2)), (5, vi (oI par0))] h6 Q := by
    intro h6 ks6 b J E6 L6 X6 hb cj ej
    obtain ⟨c9, c10, c11, c4, c5, cT⟩ := CF E6
    rw [bk_X5_tellKind_58, c11, nn_some, c5]
    refine ⟨c9, c4, fun y => ?_, fun y => ?_⟩
    · have hA := ADD h6 ks6 b J E6 L6 X6 hb cj ej
      cases hq : par0 with
      | none => exact absurd (oI0.mpr hq) y
      | some j =>
        rw [bk_X5_tellKind_67]
        rw [hq] at hA
        exact hA
    · have hq := oI0.mp (Classical.not_not.mp y)
      rw [bk_X5_tellKind_65]
      have hA := ADD h6 ks6 b J E6 L6 X6 hb cj ej
      rw [hq] at hA ⊢
      exact hA
  have T45 : ∀ h6 ks6 b J, ES h6 T U e0 1 a5 0 0 false none → LST h6 U e0 nm fW ns fS ks6 (b + 1) → FX (fun g y => EPW T U g y ∨ ELs U e0 g y) h h6 → B ≤ b → CTK ks6 J ks → (∀ a, List.count a J = List.count a (lif (decide (par0 = none)) (keyN p2 1 0))) → wp (d + 9) K_X5_tellKind 45 [] [(0, vr (some (U + 9))), (1, vi (nI p1)), (2, vl x1), (4, vi (nI p2)), (5, vi (oI par0))] h6 Q := by
    intro h6 ks6 b J E6 L6 X6 hb cj ej
    obtain ⟨c9, c10, c11, c4, c5, cT⟩ := CF E6
    have K6 := K.wl X6 tT he
    rw [bk_X5_tellKind_45, c11, nn_some, c5, nn_some, k_named K6]
    refine ⟨c9, c4, K6.1, ?_⟩
    simp only [psh]
    rw [bk_X5_tellKind_50]
    have o1 : oI (ffst (fun k => decide (wk k = x1)) nk 0) = -1 ↔ ffst (fun k => decide (wk k = x1)) nk 0 = none := by
      cases hq : ffst (fun k => decide (wk k = x1)) nk 0 with
      | none => exact ⟨fun _ => rfl, fun _ => rfl⟩
      | some j => exact ⟨fun y => absurd y (nI_ne_m1 (by have := (ffst_some hq).2.1; omega)), fun y => by cases y⟩
    refine ⟨fun y => ?_, fun y => ?_⟩
    · refine T58 h6 ks6 (b + 1) J E6 L6 X6 (by omega) cj (fun a => ?_)
      rw [o1.mp y, ej a]; simp [lif]
    · have hy : ¬ ffst (fun k => decide (wk k = x1)) nk 0 = none := fun w => y (o1.mpr w)
      rw [bk_X5_tellKind_52, c11, nn_some, show vi 2 = vi (nI 2) from rfl, show vi (-1) = vi (kI 0) from rfl]
      refine ⟨c9, c4, p_note (d := d + 1) E6.1 L6 (by omega) (by omega) (by omega) (by omega) (fun h7 ks7 L7 pm x7 t7 => ?_)⟩
      simp only [psh]
      refine T58 h7 ks7 b (J ++ [keyN p1 2 0]) (E6.ls x7) L7 (X6.tr (x7.mono (fun _ _ w => Or.inr w))) hb (CTK.tr cj (CTK.pm pm)) (fun a => ?_)
      rw [List.count_append, ej a, decide_eq_true hy]
      show _ = List.count a [keyN p1 2 0] + _
      omega
  obtain ⟨c9, c10, c11, c4, c5, cT⟩ := CF E5
  simp only [psh]
  rw [bk_X5_tellKind_36]
  refine ⟨fun y => ?_, fun y => ?_⟩
  · have hq : ¬ par0 = none := fun w => y (oI0.mpr w)
    exact T45 h5 ks (B + 1) [] E5 L5 X5 (by omega) CTK.rf (fun a => by simp [hq, lif])
  · have hq := oI0.mp (Classical.not_not.mp y)
    rw [bk_X5_tellKind_39, c11, nn_some, show vi 1 = vi (nI 1) from rfl, show vi (-1) = vi (kI 0) from rfl]
    refine ⟨c9, c4, p_note (d := d + 1) E5.1 L5 (by omega) (by omega) (by omega) (by omega) (fun h7 ks7 L7 pm x7 t7 => ?_)⟩
    simp only [psh]
    refine T45 h7 ks7 B [keyN p2 1 0] (E5.ls x7) L7 (X5.tr (x7.mono (fun _ _ w => Or.inr w))) (Nat.le_refl _) (CTK.pm pm) (fun a => ?_)
    rw [hq]; rfl
