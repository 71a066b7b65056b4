/-! try: behind the catches -/
/-- the state while a try is read: n catches are through, rc ends the last block -/
def TST (D : Nat) (h h4 : AH) (T U e0 l : Nat) (il : Bool) (so : Option Nat) (sc : List Nat) (r R : RV) (nk : Nat) (par : Nat → Nat) (wk : Nat → Int64) (pk : Nat → Int32) (nm : Nat) (fW fS : Nat → Nat) (ks4 : List Nat) (B0 : Nat) (G : Nat → Nat → Nat) (X1 : RV) (kn N x : Nat) (wd : Nat → Int64) (pc : Nat → Int32) (n : Nat) (h1 : AH) (rc : RV) (ks1 : List Nat) (B ns : Nat) (fS1 : Nat → Nat) (mm : Nat) (wh : Int32) (last : Option Nat) (p : Nat → Option Nat) (G1 : Nat → Nat → Nat) : Prop :=
  (goK D mm (stpF r) rc ∧ RIL rc ∧ gi rc 1452 = -1 ∧ gi rc 1451 = 125 ∧ dN rc = D + 1 ∧ ai rc 41 (rsB rc) = nI (rsN r) ∧ ai rc 40 (rsB rc) = (if n = 0 then 5 else 6) ∧ rsN r + 1 ≤ rsN rc ∧ nbN r + 1 ≤ nbN rc) ∧
  ((ai rc 27 (rsN r) = -1 ∧ ai rc 28 (rsN r) = -1 ∧ ai rc 29 (rsN r) = nI kn ∧ ai rc 32 (rsN r) = nI n) ∧ ∀ q j, q = 30 ∨ q = 31 → j < 4 → ai rc q (4 * rsN r + j) = ai X1 q (4 * rsN r + j) ∧ al rc q (4 * rsN r + j) = al X1 q (4 * rsN r + j)) ∧
  (ES h1 T U e0 1 (clA rc) D l il so ∧ FX (EPn T U e0 (tp h) sc) h h1 ∧ tp h4 ≤ tp h1 ∧ CHN h1 U sc so ∧ KD h1 (U + 1) nk par wk pk ∧ NDr h1 N kn 1 wd pc ∧ FO h1 8 (tp h) (vS0 (nI 9) (gi r 1449) (nI nm - 1) (nI l)) (fun _ => 0) p ∧ tg h1 (tp h) = 9 ∧ (tg h1 (N - 1) = 9 ∨ tg h1 (N - 1) = 109)) ∧
  (LST h1 U e0 nm fW ns fS1 ks1 B ∧ ns = nsC rc ∧ (∀ k, k < nsC r → fS1 k = fS k) ∧ B0 ≤ B + 3 * qN (clA rc)) ∧
  ((wh = 0 ↔ n = 0 ∧ kn = 0) ∧ ((n = 0 ∧ last = none) ∨ (0 < n ∧ ∃ y, last = some y ∧ tg h1 y = 4 ∧ tp h4 ≤ y ∧ y < tp h1 ∧ (ENR r R → G1 2 (4 * rsN r + (n - 1)) = y)))) ∧
  ((p 30804 = none ∧ p 30808 = none ∧ p 30809 = some x ∧ p 30810 = none ∧ p 30811 = some N) ∧ (n = 0 → p 30812 = none) ∧ (0 < n → ENR r R → p 30812 = some (G1 2 (4 * rsN r)))) ∧
  (ENR r R → (∀ c, c ∈ cch R (rsB r) → SCF h1 R G c) ∧ ENR rc R ∧ MBO h h4 h1 U R G G1 r rc (nbN r :: (List.range n).map (fun i => tn (ai R 33 (4 * rsN r + i)))) (flr (mpC R (rsN r)) n 0) ks4 ks1 fS1 n (2 * kn + sumN (wtC R (rsN r)) n 0) ∧ CTS h1 h4 U R G1 r n (nbN rc) ∧ G1 1 (nbN r) = x)
theorem try_tail {D d : Nat} (HB : BLC D) {h h3 h4 : AH} {Q : Option V → AH → Prop} {T U e0 l : Nat} {il : Bool} {so : Option Nat} {sc : List Nat} {r R X1 : RV} {nk : Nat} {par : Nat → Nat} {wk : Nat → Int64} {pk : Nat → Int32} {nm : Nat} {fW fS : Nat → Nat} {ks : List Nat} {B0 : Nat} {G : Nat → Nat → Nat} {kn N x : Nat} {wd : Nat → Int64} {pc : Nat → Int32} (hd : 20 * (9 - D) ≤ d + 9) (A : RIL r) (hr : rng r) (hD : dN r = D) (D0 : 0 < D) (d1 : ¬ gi r 1451 = 125) (hl : l ≤ D) (hsc : ∀ a, a ∈ sc → a + 1 < tp h ∧ U + 10 ≤ a) (hU : U + 10 ≤ tp h) (htp : tp h < tp h4) (hB0 : 3 * tn (gi r 1448) + 100 ≤ B0) (pp : plp (gi r 1449)) (DP : ENR r R → DPR h3 R G r (rsB r) sc l il nk wk nm (nsC r) fS) (OD : OPD r X1 D 5) (x19 : ai X1 19 (rsN r) = nI 9) (kn4 : kn ≤ 4) (hN : tp h < N ∧ N + 3 < tp h4) (xd : ∀ j, j < kn → wd j = conv (al X1 30 (4 * rsN r + j)) ∧ WV (al X1 30 (4 * rsN r + j)) ∧ pc j = ai X1 31 (4 * rsN r + j)) (s4 : ENR r R → ∀ c, c ∈ cch R (rsB r) → fI h4 10304 (G 2 c) = fI h 10304 (G 2 c))
    (HF : ∀ h' r' ks' B' ns' fS' n, goK D n (stpF r) r' → ES h' T U e0 1 r' D l il so → FX (EPa T U e0 sc) h h' → LST h' U e0 nm fW ns' fS' ks' B' → (∀ k, k < nsC r → fS' k = fS k) → (gi r' 1452 = -1 → ns' = nsC r' ∧ nsC r < ns' ∧ B0 ≤ B' + 3 * qN r' ∧ dN r' = D) → (¬ gi r' 1452 = -1 → B0 + D ≤ B' + 3 * tn (gi r 1448) + 20) → (tg h' (tp h) = 9 ∧ tp h < tp h') → (ENR r R → ENR r' R ∧ ∃ G', DPO h h' U R G G' r r' (tp h) ks ks' fS') → Q none h') {n : Nat} {h1 : AH} {rc : RV} {ks1 : List Nat} {B ns : Nat} {fS1 : Nat → Nat} {mm : Nat} {wh : Int32} {last : Option Nat} {p : Nat → Option Nat} {G1 : Nat → Nat → Nat} (n4 : n ≤ 4) (TS : TST D h h4 T U e0 l il so sc r R nk par wk pk nm fW fS ks B0 G X1 kn N x wd pc n h1 rc ks1 B ns fS1 mm wh last p G1) (hcat : tkn (clA rc) = 18 → n = 4) : wp (d + 11) K_X5_takeTry 52 [] [(0, vr (some (U + 9))), (1, vr (some (tp h))), (2, vi wh), (3, vr last), (4, vi (nI n))] h1 Q := by
  have d0 : 0 < dN r := by omega
  have D8 := A.d.2
  obtain ⟨⟨gk, Ac, ec, c125, dc, o41, o40, l1, l2⟩, ⟨⟨r27, r28, r29, r32⟩, r30⟩, ⟨E, X, htp1, CH, K, N1, F, t9, nt⟩, ⟨L, ens, fk, cr⟩, ⟨hwh, hlast⟩, ⟨⟨p4, p8, p9, p10, p11⟩, p12, p12'⟩, DT⟩ := TS
  obtain ⟨a1, a2, a3, a4, a5, a6, a7, a8, a9, a10, a11⟩ := cla_v Ac ec c125 dc
  obtain ⟨q1, q2, q3, q4, q5, q6, q7, q8, q9, q10, q11, q12⟩ := id OD
  have sm := small A
  have smc := small Ac
  obtain ⟨-, F1, -⟩ := frk q2 gk ec (by omega)
  have w1 : wN (stpF r) = wN r := by unfold wN; rw [q3.1]
  have wc : wN rc = wN r := F1.1.1.trans w1
  have len : gi (clA rc) 1448 = gi r 1448 := a11.2.1.trans ((gi_adv rc).trans (F1.1.2.2.2.2.1.trans q3.2.1))
  have ln := rt_len a1.1
  rw [len] at ln
  have e1 : rsN r = wN r * 120 + nsC r := rfl
  have e2 : rsN rc = wN r * 120 + nsC rc := by rw [← wc]; rfl
  have tT : T < U := by have := E.1.2.1; omega
  have c9 := E.1.2.2.2.2.2.2.2.2.1
  have hsc2 : ENR r R → ∀ c, c ∈ cch R (rsB r) → G 2 c + 1 < tp h ∧ U + 10 ≤ G 2 c := fun EN c m => by
    have P := DP EN
    exact hsc _ (by rw [P.2.2.2.1]; exact List.mem_map.mpr ⟨c, m, rfl⟩)
  have kw18 : lN (kwN 18) = 426836779880 := by decide +kernel
  have kw19 : lN (kwN 19) = 28826370426301561 := by decide +kernel
  have t18 : tkn (clA rc) = 18 ↔ gl (clA rc) 21450 = 426836779880 := by rw [← kw18]; exact tk_kw a1.1 (by omega)
  have t19 : tkn (clA rc) = 19 ↔ gl (clA rc) 21450 = 28826370426301561 := by rw [← kw19]; exact tk_kw a1.1 (by omega)
  have cl : stpF rc = beF (clA rc) (rsN r) (decide (n = 0)) := by
    rw [close_is c125 (by omega), o40, o41, tn_nI sm.1]
    by_cases z : n = 0
    · rw [if_pos z, decide_eq_true z]; rfl
    · rw [if_neg z, decide_eq_false z]; rfl
  have gk1 : goK D (mm + 1) (stpF r) (stpF rc) := goK_tr (m := 1) gk ⟨rng_in ec (by omega), RIL_pre Ac, by omega, rfl⟩
  have fai : stpF rc = faiF (clA rc) → ∀ h2, ES h2 T U e0 1 (faiF (clA rc)) D l il so → PW T U h1 h2 → Q none h2 := fun es h2 E2 w2 => by
    have bad : ¬ gi (faiF (clA rc)) 1452 = -1 := (fai_w a1.1 a2).1
    rw [es] at gk1
    exact HF h2 (faiF (clA rc)) ks1 B ns fS1 (mm + 1) gk1 E2 (EPn_end (X.tr (w2.1.mono (fun _ _ z => Or.inl (EPW_a z))))) (L.pw w2) fk (fun z => absurd z bad) (fun _ => by omega) ⟨by rw [w2.1.tg (by omega)]; exact t9, by rw [w2.2.1]; omega⟩ (fun EN => absurd ((EN.step hr).go (goK_N gk1)).right bad)
  rw [bk_X5_takeTry_52, show vi 18 = vi (nI 18) from rfl, p_at E (by omega)]
  refine ⟨c9, ?_⟩
  simp only [psh, bk_X5_takeTry_55, b2i_0, a2, decide_true, Bool.true_and]
  refine ⟨fun z => ?_, fun z => ?_⟩
  rotate_left
  · -- one catch too many
    have z18 : tkn (clA rc) = 18 := Classical.byContradiction (fun y => z (decide_eq_false y))
    have n4' := hcat z18
    have es : stpF rc = faiF (clA rc) := by
      rw [cl]
      unfold beF
      rw [if_pos (t18.mp z18)]
      unfold rcF
      rw [if_pos (by rw [a3, r32, n4']; rfl)]
    rw [bk_X5_takeTry_56]
    refine ⟨c9, p_refuse E (fun h2 E2 w2 => ?_)⟩
    rw [gT_f a2] at E2
    simp only [psh]
    rw [bk_X5_takeTry_58, show vi 19 = vi (nI 19) from rfl]
    refine ⟨E2.1.2.2.2.2.2.2.2.2.1, p_skip (d := d + 4) E2 (by omega) (fun y => absurd y (fai_w a1.1 a2).1) (fun _ => ?_)⟩
    simp only [psh]
    rw [bk_X5_takeTry_61]
    refine ⟨fun _ => ?_, fun y => absurd rfl y⟩
    rw [bk_X5_takeTry_68]
    refine ⟨fun _ => ?_, fun y => absurd (hwh.mp (Classical.not_not.mp y)) (by omega)⟩
    rw [bk_X5_takeTry_72]
    exact fai es h2 E2 w2
  have z18 : ¬ tkn (clA rc) = 18 := fun y => by rw [decide_eq_true y] at z; cases z
  have z18' : ¬ gl (clA rc) 21450 = 426836779880 := fun y => z18 (t18.mpr y)
  rw [bk_X5_takeTry_58, show vi 19 = vi (nI 19) from rfl]
  refine ⟨c9, p_skip (d := d + 4) E (by omega) (fun _ z19 h5 E6 w5 => ?_) (fun n19 => ?_)⟩
  · -- finally
    simp only [psh]
    rw [bk_X5_takeTry_61]
    refine ⟨fun z => absurd z (by decide), fun _ => ?_⟩
    have s19 := t19.mp z19
    have st2 : stpF rc = tI (opF (advF (clA rc)) 7 (nI (rsN r)) 0) 28 (rsN r) (opV (advF (clA rc))) := by
      rw [cl]
      unfold beF
      rw [if_neg z18', if_pos s19]; rfl
    have MX : MD rc D (1 + 1) (rsN rc) (advF (clA rc)) := (md_cl Ac ec c125 dc).adv (ne_end a1.1 (by rw [s19]; decide))
    have OX : OWN (advF (clA rc)) 7 (nI (rsN r)) := own_cl Ac c125 dc o41 MX (by rw [ai_adv, a3]) (by rw [wc]; exact Nat.le_add_right _ _) (by omega) (by decide) (by decide) (by rw [ai_adv, a3, r32]; exact ⟨by rw [tn_nI (by omega)], by rw [tn_nI (by omega)]; exact n4⟩)
    obtain ⟨B, rfl⟩ : ∃ b, B = b + 1 := ⟨B - 1, by omega⟩
    have L5 := L.pw w5
    have tp5 := w5.2.1
    have X5 : FX (EPn T U e0 (tp h) sc) h h5 := X.tr (w5.1.mono (fun _ _ z => Or.inl (EPW_a z)))
    have t95 : tg h5 (tp h) = 9 := by rw [w5.1.tg (by omega)]; exact t9
    have F5 := F.fx w5.1 (by omega) (fun f hf => EPW_no (by omega))
    have CH5 : CHN h5 U sc so := CHN.ep CH (w5.ep (e0 := e0) (sc := sc))
    have K5 : KD h5 (U + 1) nk par wk pk := K.ep (w5.ep (e0 := e0) (sc := sc)) tT L.e0 (fun a m => (hsc a m).2)
    have N5 := N1.pw w5
    have c95 := E6.1.2.2.2.2.2.2.2.2.1
    have aq := (a1.adv_q).1
    rw [bk_X5_takeTry_62]
    refine ⟨c95, nx_block (d := d + 10) (R := R) (h3 := h3) (G := G) (Gm := G1) (fS0 := fS) (wk := wk) (so := so) (sc := sc) (sc' := sc) (X := advF (clA rc)) (what := 7) (num := 0) (q := 28) (i := rsN r) HB (by omega) A hr hD D0 d1 (by omega) gk Ac ec c125 dc o41 MX OX (by decide) (by decide) (by decide) (fun z => absurd z (by decide)) st2 E6 CH5 K5 L5 ens (by omega) hB0 DP (fun EN _ => ?_) (fun EN _ => ?_) ?_ ?_⟩
    · obtain ⟨-, -, m, -⟩ := DT EN
      intro k hk
      exact m.2.1 k (by omega)
    · obtain ⟨sf, -, m, -⟩ := DT EN
      have P := DP EN
      rw [if_neg (by decide), List.nil_append]
      have ge : ∀ c, c ∈ cch R (rsB r) → G1 2 c = G 2 c := fun c hm => m.1.1.2.2 c (P.2.2.2.2.1 c hm).2
      refine ⟨?_, fun c hm _ _ => ?_⟩
      · rw [P.2.2.2.1]
        exact List.map_congr_left (fun c hm => (ge c hm).symm)
      · have hm2 := hsc2 EN c hm
        exact SCF.cg (G := G) ((sf c hm).pw w5 (by omega)) (ge c hm)
    · intro h6 rd x2 ks6 B6 ns6 fS6 n' OE g' Ad ed c125' dd Ed Xd Ld ens' fk' crd tx' BP'
      obtain ⟨b1, b2, b3, b4, b5, b6, b7, b8, b9, b10, b11⟩ := cla_v Ad ed c125' dd
      obtain ⟨o1, o2, o3, o4, o5, o6, o7, o8, o9, o10, o11, o12, o13, o14, o15, o16⟩ := id OE
      obtain ⟨y1, y2, y3, OWd, FD⟩ := cls_w o2 o4 o5 o6 (s := rsN r) (by omega) o8 o9 g' ed dd
      have cl2 : stpF rd = clA rd := by
        rw [close_is c125' (by omega), y2]
        rfl
      have gk2 : goK D (mm + 1 + n' + 1) (stpF r) (clA rd) := by
        rw [← cl2]
        exact goK_tr (m := 1) (goK_tr gk1 (goL_K g')) ⟨rng_in ed (by omega), RIL_pre Ad, by omega, rfl⟩
      have htp6 : tp h5 ≤ tp h6 := Xd.1
      have t96 : tg h6 (tp h) = 9 := by rw [Xd.tg (by omega)]; exact t95
      have F6 := (F5.fx Xd (by omega) (fun f hf => EPa_no (by omega))).sP 30810 (some x2)
      have E7 := Ed.fp (f := 30810) (x := tp h) (some x2) hU (by decide)
      have L7 := LST.fp Ld (f := 30810) (x := tp h) (some x2) hU (by decide)
      have xs7 : FX (fun g y => g = 30810 ∧ y = tp h) h6 (setFP h6 30810 (tp h) (some x2)) := FX.FP ⟨rfl, rfl⟩
      have t97 : tg (setFP h6 30810 (tp h) (some x2)) (tp h) = 9 := t96
      have nt7 : tg (setFP h6 30810 (tp h) (some x2)) (N - 1) = 9 ∨ tg (setFP h6 30810 (tp h) (some x2)) (N - 1) = 109 := by
        show tg h6 _ = _ ∨ tg h6 _ = _
        rw [Xd.tg (by omega), w5.1.tg (by omega)]; exact nt
      have tp7 : tp (setFP h6 30810 (tp h) (some x2)) = tp h6 := rfl
      have N7 := ((N5.1.ep Xd).fx xs7 (fun q _ z => by omega) (fun z => by omega) (fun z => by omega) (fun z => by omega))
      simp only [psh, bk_X5_takeTry_65, nn_some]
      refine ⟨t96, ?_⟩
      rw [bk_X5_takeTry_68]
      refine ⟨fun _ => ?_, fun y => absurd (by decide) y⟩
      rw [bk_X5_takeTry_72]
      generalize setFP h6 30810 (tp h) (some x2) = h7 at *
      have X7 : FX (EPn T U e0 (tp h) sc) h h7 := (X5.tr (EPa_en Xd)).tr (xs7.mono (fun g y z => Or.inr ⟨by omega, by omega⟩))
      have wd' : wN rd = wN r := FD.1.1.trans o16
      have k1 : rsN rc ≤ rsN rd := by have := FD.1.2.1; omega
      have k2 : nbN rc + 1 ≤ nbN rd := by have := FD.1.2.2.1; omega
      have e3 : rsN rd = wN r * 120 + nsC rd := by rw [← wd']; rfl
      refine HF h7 (clA rd) ks6 B6 ns6 fS6 (mm + 1 + n' + 1) gk2 E7 (EPn_end X7) L7 (fun k hk => ?_) (fun _ => ⟨by omega, by omega, crd, b9⟩) (fun z => absurd b2 z) ⟨t97, by omega⟩ (fun EN => ?_)
      · rw [fk' k (by omega)]; exact fk k hk
      · obtain ⟨ENc, ENd, G', bp, cc⟩ := BP' EN
        obtain ⟨sf, -, m1, ct, m2⟩ := DT EN
        have P := DP EN
        have EN' : ENR (clA rd) R := by rw [← cl2]; exact ENd.step (rng_in ed (by omega))
        have hc : ∀ c, c ∈ cch R (rsB r) → c / 4 < rsN r := fun c m => (P.2.2.2.2.1 c m).2
        obtain ⟨v20, v21, v22, ew, lb, FR, rl⟩ := st_vals A hr d0 d1 EN
        rw [if_neg (by decide), List.nil_append] at cc
        have m3 := mbo_fx m1 w5.1 (fun g y h1 h2 z => by
          rcases z with z | z
          · have := z.1; omega
          · omega) (fun c m => by
          have := hsc2 EN c m
          exact ⟨by omega, EPW_no (by omega)⟩) CTK.rf htp1
        rw [List.append_nil] at m3
        have ct5 := ct.fx w5.1 (fun f z _ _ hf => EPW_no (by omega))
        have PB := pbo_step m1.2.2.2.2.2.2.2.2 (by omega) l1 o2 o4 o5 o6 o7 o9 g' ed Ad ENd
        obtain ⟨m4, m5, m6, m7, m8, m9⟩ := mbo_step (W' := 0) m3 bp Xd o7 o6 o16 l1 (by omega) k1 k2 (fun a m h1 => by have := hsc a m; omega) tT (by omega) (by omega) (fun c m => by rw [cc]; exact m) hc (by have := MX.2.2.2.2.2.2.2.2; omega) n4 (fun j hj => (ct5 j hj).2.2.1.2) PB
        have m10 := mbo_fx m4 xs7 (fun g y h1 h2 z => by omega) (fun c m => by
          have := hsc2 EN c m
          exact ⟨by omega, fun z => by omega⟩) CTK.rf (by omega)
        rw [List.append_nil] at m10
        have gx : ∀ j, j < 4 → G' 2 (4 * rsN r + j) = G1 2 (4 * rsN r + j) := fun j hj => m6 2 _ (by omega) (by omega) (fun z => absurd rfl z)
        have ct7 : CTS h7 h4 U R G' r n (nbN rd) := fun i hi => by
          obtain ⟨⟨b, c1, c2⟩, c3, ⟨c4, c5⟩, c6⟩ := ct5 i hi
          have nE : ∀ f z, G1 2 (4 * rsN r + i) ≤ z → f / 100 % 100 = 3 ∨ f / 100 % 100 = 6 ∨ f = 90001 → ¬ EPa T U e0 sc f z := fun f z h1 hf w => by
            rcases EPa_is w with w | w | w | ⟨w, w2⟩ | w
            · omega
            · omega
            · omega
            · have := hsc z w; omega
            · omega
          have c7 := (c2.fx Xd c5 (fun f z h1 h2 h3 _ => nE f z h1 h3)).fx xs7 (by omega) (fun f z h1 h2 h3 _ w => by omega)
          refine ⟨⟨b, by omega, c7.cg (by omega) v21 lb (gx i (by omega)) (fun c hm => ?_) (m7 b c1)⟩, ?_, ⟨by rw [gx i (by omega)]; exact c4, by rw [gx i (by omega)]; omega⟩, fun j h1 h2 => by rw [gx i (by omega), gx j (by omega)]; exact c6 j h1 h2⟩
          · rw [m6 2 c (by omega) (by have := hc c hm; omega) (fun z => absurd rfl z)]
          · rw [gx i (by omega), xs7.fP (by omega) (fun z => by omega), Xd.fP (by omega) (nE _ _ (by omega) (by omega)), c3]
            by_cases y : i + 1 < n
            · rw [if_pos y, if_pos y, gx (i + 1) (by omega)]
            · rw [if_neg y, if_neg y]
        have CL := (st_cls A hr d0 d1 (by rw [hD]; exact gk2) b2 (by omega)).1
        obtain ⟨kk, kk2⟩ := cls_en EN' b1 CL
        have tl2 : ∀ q, q = 27 ∨ q = 29 ∨ q = 32 → ai R q (rsN r) = ai rc q (rsN r) := fun q hq => by
          rw [kk q (by omega), b3, OWd.1 q (by omega), o12 q (by omega) (by omega), ai_adv, a3]
        have tl3 : ∀ q j, q = 30 ∨ q = 31 → j < 4 → ai R q (4 * rsN r + j) = ai X1 q (4 * rsN r + j) ∧ al R q (4 * rsN r + j) = al X1 q (4 * rsN r + j) := fun q j hq hj => by
          obtain ⟨s1, s2⟩ := kk2 q j hq hj
          obtain ⟨s3, s4⟩ := OWd.2 q j hq hj
          obtain ⟨s5, s6⟩ := r30 q j hq hj
          exact ⟨by rw [s1, b3, s3, o12 q (by omega) (by omega), ai_adv, a3, s5], by rw [s2, b4, s4, o13, al_adv, a4, s6]⟩
        have v28 : ai R 28 (rsN r) = nI (nbN rc) := by rw [kk 28 (by omega), b3, OWd.1 28 (by omega)]; exact o11
        have FE := FZ_en (ENc.step (rng_in ec (by omega))) o2
        refine ⟨EN', try_fin (rc := rd) (x1 := x) (y := some x2) (N := N) (n := n) (kn := kn) (W := 2 * kn + sumN (wtC R (rsN r)) n 0 + 0) (l := l) (nm := nm) A hr hD D0 d1 EN hc P.2.1 P.2.2.2.2.2.1 m10 OD x19 (by omega) (by omega) htp (by omega) t97 hU F6 ⟨?_, ?_⟩ ?_ ?_ ?_ ?_ ?_ (Or.inr ⟨nbN rc, v28, Or.inr ⟨nbN rc, rfl, ?_, ?_, ?_, ?_, ?_⟩, ?_, rfl, by omega⟩) (small Ad).2 ?_ ?_ kn4 ?_ n4 ?_ (fun i hi => ?_) (fun i hi => ?_) hN nt7 ct7 (by omega) pp b5 b6 b7 (by omega) CTK.rf (s4 EN)⟩
        · unfold up1; rw [if_neg (by decide)]; exact p4
        · unfold up1; rw [if_neg (by decide)]; exact p8
        · unfold up1; rw [if_neg (by decide)]; exact p9
        · unfold up1; rw [if_pos rfl]
        · unfold up1; rw [if_neg (by decide)]; exact p11
        · unfold up1
          rw [if_neg (by decide)]
          by_cases y : 0 < n
          · have := gx 0 (by omega)
            rw [Nat.add_zero] at this
            rw [if_pos y, p12' y EN, this]
          · rw [if_neg y]; exact p12 (by omega)
        · rw [(m7 (nbN r) (by omega)).1]; exact m2
        · rw [ew, ← wc]; exact Nat.le_add_right _ _
        · have := FE.1.2.2.1; omega
        · rw [FE.2.2.1 40 _ (by omega) (by omega) (by omega)]; exact o8
        · rw [FE.2.2.1 41 _ (by omega) (by omega) (by omega)]; exact o9
        · rw [FE.2.2.1 42 _ (by omega) (by omega) (by omega)]; exact o10
        · rw [m5]
        · rw [tl2 27 (by omega)]; exact r27
        · rw [tl2 29 (by omega)]; exact r29
        · rw [tl2 32 (by omega)]; exact r32
        · refine N7.cg (fun i hi => ?_)
          obtain ⟨u1, u2, u3⟩ := xd i hi
          exact ⟨by rw [(tl3 30 i (by omega) (by omega)).2]; exact u1, by rw [(tl3 31 i (by omega) (by omega)).1]; exact u3, rfl⟩
        · rw [(tl3 30 i (by omega) (by omega)).2]; exact (xd i hi).2.1
        · rw [(tl3 31 i (by omega) (by omega)).1, ← (xd i hi).2.2]
          obtain ⟨p', u1, u2, u3⟩ := N5.2 i hi
          exact ⟨p', u1, by omega, u3⟩
    · intro h6 rw x2 ks6 B6 ns6 fS6 n' gk' bad Ew Xw Lw fk' crw tx'
      have t96 : tg h6 (tp h) = 9 := by rw [Xw.tg (by omega)]; exact t95
      have htp6 : tp h5 ≤ tp h6 := Xw.1
      have gk2 := goK_tr gk1 gk'
      simp only [psh, bk_X5_takeTry_65, nn_some]
      refine ⟨t96, ?_⟩
      rw [bk_X5_takeTry_68]
      refine ⟨fun _ => ?_, fun y => absurd (by decide) y⟩
      rw [bk_X5_takeTry_72]
      refine HF _ rw ks6 B6 ns6 fS6 _ gk2 (Ew.fp (some x2) hU (by decide)) (EPn_end ((X5.tr (EPa_en Xw)).toFP _ (Or.inr ⟨Nat.le_refl _, by decide⟩))) (LST.fp Lw (some x2) hU (by decide)) (fun k hk => ?_) (fun z => absurd z bad) (fun _ => by omega) ⟨t96, by show tp h < tp h6; omega⟩ (fun EN => absurd ((EN.step hr).go (goK_N gk2)).right bad)
      rw [fk' k (by omega)]; exact fk k hk
  · -- no finally
    have s19 : ¬ gl (clA rc) 21450 = 28826370426301561 := fun z => n19 a2 (t19.mpr z)
    have be : stpF rc = if n = 0 ∧ kn = 0 then faiF (clA rc) else clA rc := by
      rw [cl]
      unfold beF
      rw [if_neg z18', if_neg s19, a3, r29]
      have e29 : nI kn = 0 ↔ kn = 0 := ⟨fun z => by
        have := congrArg tn z
        rw [tn_nI (by omega)] at this
        exact this, fun z => by rw [z]; rfl⟩
      simp only [decide_eq_true_eq, e29]
    simp only [psh]
    rw [bk_X5_takeTry_61]
    refine ⟨fun _ => ?_, fun z => absurd rfl z⟩
    rw [bk_X5_takeTry_68]
    refine ⟨fun z => ?_, fun z => ?_⟩
    · rw [bk_X5_takeTry_72]
      have cl1 : stpF rc = clA rc := by rw [be, if_neg (fun y => z (hwh.mpr y))]
      rw [cl1] at gk1
      refine HF h1 (clA rc) ks1 B ns fS1 (mm + 1) gk1 E (EPn_end X) L fk (fun _ => ⟨by omega, by omega, cr, a9⟩) (fun z => absurd a2 z) ⟨t9, by omega⟩ (fun EN => ?_)
      obtain ⟨sf, ENc, m1, ct, m2⟩ := DT EN
      have P := DP EN
      have EN' : ENR (clA rc) R := by rw [← cl1]; exact ENc.step (rng_in ec (by omega))
      have hc : ∀ c, c ∈ cch R (rsB r) → c / 4 < rsN r := fun c m => (P.2.2.2.2.1 c m).2
      have CL := (st_cls A hr d0 d1 (by rw [hD]; exact gk1) a2 (by omega)).1
      obtain ⟨kk, kk2⟩ := cls_en EN' a1 CL
      have tl2 : ∀ q, q = 27 ∨ q = 28 ∨ q = 29 ∨ q = 32 → ai R q (rsN r) = ai rc q (rsN r) := fun q hq => by rw [kk q (by omega), a3]
      have tl3 : ∀ q j, q = 30 ∨ q = 31 → j < 4 → ai R q (4 * rsN r + j) = ai X1 q (4 * rsN r + j) ∧ al R q (4 * rsN r + j) = al X1 q (4 * rsN r + j) := fun q j hq hj => by
        obtain ⟨s1, s2⟩ := kk2 q j hq hj
        obtain ⟨s5, s6⟩ := r30 q j hq hj
        exact ⟨by rw [s1, a3, s5], by rw [s2, a4, s6]⟩
      refine ⟨EN', try_fin (rc := rc) (x1 := x) (y := none) (N := N) (n := n) (kn := kn) (W := 2 * kn + sumN (wtC R (rsN r)) n 0) (l := l) (nm := nm) A hr hD D0 d1 EN hc P.2.1 P.2.2.2.2.2.1 m1 OD x19 l1 (by omega) htp htp1 t9 hU F ⟨p4, p8⟩ p9 p10 p11 ?_ m2 (Or.inl ⟨?_, rfl, rfl⟩) smc.2 ?_ ?_ kn4 ?_ n4 ?_ (fun i hi => ?_) (fun i hi => ?_) hN nt ct (by omega) pp a5 a6 a7 (by omega) CTK.rf (s4 EN)⟩
      · by_cases y : 0 < n
        · rw [if_pos y, p12' y EN]
        · rw [if_neg y]; exact p12 (by omega)
      · rw [tl2 28 (by omega)]; exact r28
      · rw [tl2 27 (by omega)]; exact r27
      · rw [tl2 29 (by omega)]; exact r29
      · rw [tl2 32 (by omega)]; exact r32
      · refine N1.1.cg (fun i hi => ?_)
        obtain ⟨u1, u2, u3⟩ := xd i hi
        exact ⟨by rw [(tl3 30 i (by omega) (by omega)).2]; exact u1, by rw [(tl3 31 i (by omega) (by omega)).1]; exact u3, rfl⟩
      · rw [(tl3 30 i (by omega) (by omega)).2]; exact (xd i hi).2.1
      · rw [(tl3 31 i (by omega) (by omega)).1, ← (xd i hi).2.2]
        obtain ⟨p', u1, u2, u3⟩ := N1.2 i hi
        exact ⟨p', u1, by omega, u3⟩
    · have z := Classical.not_not.mp z
      have es : stpF rc = faiF (clA rc) := by rw [be, if_pos (hwh.mp z)]
      rw [bk_X5_takeTry_70]
      refine ⟨c9, p_refuse E (fun h2 E2 w2 => ?_)⟩
      rw [gT_f a2] at E2
      simp only [psh]
      rw [bk_X5_takeTry_72]
      exact fai es h2 E2 w2
