/-! A catch is read -/
/-- what is held of catch n of the statement, its block is b -/
def CTN (h : AH) (U : Nat) (R : RV) (G : Nat → Nat → Nat) (r : RV) (n b : Nat) : Prop := CFH h U R G (4 * rsN r + n) ∧ ai R 33 (4 * rsN r + n) = nI b ∧ fP h 30305 (G 2 (4 * rsN r + n)) = some (G 1 b) ∧ fI h 10304 (G 2 (4 * rsN r + n)) = b2i (stR R (G 4 b) (G 5 b) (4 * rsN r + n)) ∧ (cnt (ai R 36 (4 * rsN r + n)) 4 ∧ plp (ai R 35 (4 * rsN r + n)) ∧ ∀ j, j < tn (ai R 36 (4 * rsN r + n)) → plp (ai R 38 (4 * (4 * rsN r + n) + j))) ∧ BK R (rsN r) (nI b) 6 (nI n)
theorem p_catch {D d : Nat} (HB : BLC D) {h h3 h4 h1 : AH} {Q : Option V → AH → Prop} {T U e0 l : Nat} {il : Bool} {so : Option Nat} {sc : List Nat} {r rc R : RV} {nk : Nat} {par : Nat → Nat} {wk : Nat → Int64} {pk : Nat → Int32} {nm ns : Nat} {fW fS0 fS : Nat → Nat} {bs C ks4 ks1 : List Nat} {B B0 n W m : Nat} {G G1 : Nat → Nat → Nat} (hd : 20 * (9 - D) ≤ d + 9) (A : RIL r) (hr : rng r) (hD : dN r = D) (D0 : 0 < D) (d1 : ¬ gi r 1451 = 125) (hl : l ≤ D) (gk : goK D m (stpF r) rc) (Ac : RIL rc) (ec : gi rc 1452 = -1) (c125 : gi rc 1451 = 125) (dc : dN rc = D + 1) (o41 : ai rc 41 (rsB rc) = nI (rsN r)) (c32 : ai rc 32 (rsN r) = nI n) (hn : n < 4) (cl : stpF rc = rcF (clA rc) (rsN r)) (t18 : gl (clA rc) 21450 = 426836779880) (l1 : rsN r + 1 ≤ rsN rc) (l2 : nbN r + 1 ≤ nbN rc)
    (E : ES h1 T U e0 1 (clA rc) D l il so) (CH : CHN h1 U sc so) (hsc : ∀ a, a ∈ sc → a + 1 < tp h4 ∧ U + 10 ≤ a) (K : KD h1 (U + 1) nk par wk pk) (L : LST h1 U e0 nm fW ns fS ks1 B) (ens : ns = nsC rc) (cr : B0 ≤ B + 3 * qN (clA rc)) (hB0 : 3 * tn (gi r 1448) + 100 ≤ B0) (htp4 : tp h4 ≤ tp h1) (hU4 : U + 10 ≤ tp h4)
    (DP : ENR r R → DPR h3 R G r (rsB r) sc l il nk wk nm (nsC r) fS0) (SF : ENR r R → ∀ c, c ∈ cch R (rsB r) → SCF h1 R G c) (MB : ENR r R → ENR rc R ∧ MBO h h4 h1 U R G G1 r rc bs C ks4 ks1 fS n W ∧ (∀ b, b ∈ bs → ai R 40 b = 6 → tn (ai R 42 b) < n) ∧ ∀ j, j < n → G1 2 (4 * rsN r + j) + 4 < tp h1)
    (H1 : ∀ h' rd ks' B' ns' fS' n' X, OPE r rc X D 6 (nI n) 33 (4 * rsN r + n) → (∀ q, q = 27 ∨ q = 28 ∨ q = 29 → ai X q = ai rc q) → ai X 32 (rsN r) = nI (n + 1) → (∀ q, q = 30 ∨ q = 31 → ai X q = ai rc q ∧ al X q = al rc q) → goL D n' (stpF rc) rd → RIL rd → gi rd 1452 = -1 → gi rd 1451 = 125 → dN rd = D + 1 → ES h' T U e0 1 (clA rd) D l il so → FX (EPn T U e0 (tp h1) sc) h1 h' → LST h' U e0 nm fW ns' fS' ks' B' → ns' = nsC rd → (∀ k, k < ns → fS' k = fS k) → B0 ≤ B' + 3 * qN (clA rd) → CO h' U (tp h1) so → fP h' 30306 (tp h1) = none → (ENR r R → ENR rd R ∧ ∃ G', MBO h h4 h' U R G G' r rd (bs ++ [nbN rc]) (C ++ mpC R (rsN r) n) ks4 ks' fS' (n + 1) (W + wtC R (rsN r) n) ∧ G' 2 (4 * rsN r + n) = tp h1 ∧ CTN h' U R G' r n (nbN rc) ∧ (∀ j, j < n → G' 2 (4 * rsN r + j) = G1 2 (4 * rsN r + j)) ∧ ∀ b, b < nbN rc → G' 1 b = G1 1 b ∧ G' 4 b = G1 4 b ∧ G' 5 b = G1 5 b) → Q (some (vr (some (tp h1)))) h')
    (H2 : ∀ h' rw ks' B' ns' fS' n', goK D n' (stpF rc) rw → ¬ gi rw 1452 = -1 → ES h' T U e0 1 rw D l il so → FX (EPn T U e0 (tp h1) sc) h1 h' → LST h' U e0 nm fW ns' fS' ks' B' → (∀ k, k < ns → fS' k = fS k) → B0 + D + 1 ≤ B' + 3 * tn (gi r 1448) + 20 → tg h' (tp h1) = 4 → Q (some (vr (some (tp h1)))) h') : wp (d + 10) K_X5_takeCatch 0 [] [(0, vr (some (U + 9)))] h1 Q := by
  have d0 : 0 < dN r := by omega
  have D8 := A.d.2
  obtain ⟨a1, a2, a3, a4, a5, a6, a7, a8, a9, a10, a11⟩ := cla_v Ac ec c125 dc
  obtain ⟨st0, MY, y36, yq, yl⟩ := rc_0 Ac ec c125 dc c32 hn cl t18
  have okr : gi (stpF r) 1452 = -1 := goK_ok gk ec
  obtain ⟨A1, OS1⟩ := turn A hr okr
  obtain ⟨p1, p2, p3, ⟨p4, p4'⟩, -⟩ := id OS1
  have d1s : D ≤ dN (stpF r) := by
    have := (st_seg A hr d0 d1 (n := 0) (r' := stpF r) rfl okr).2.2.2.2.2.2.2.1
    omega
  obtain ⟨-, F1, -⟩ := frk A1 gk ec d1s
  have w1 : wN (stpF r) = wN r := by unfold wN; rw [p1]
  have wc : wN rc = wN r := F1.1.1.trans w1
  have len : gi rc 1448 = gi r 1448 := F1.1.2.2.2.2.1.trans p2
  have lenc : gi (clA rc) 1448 = gi r 1448 := a11.2.1.trans ((gi_adv rc).trans len)
  have ln := rt_len a1.1
  rw [lenc] at ln
  have sm := small A
  have smc := small Ac
  have tT : T < U := by have := E.1.2.1; omega
  have he := L.e0
  have hU : U + 9 < tp h1 := E.1.2.2.1
  have te0 : TE (advF (clA rc)) (tI (advF (clA rc)) 36 (4 * rsN r + n) 0) := TE_tI (by decide)
  have er5 : gi (advF (clA rc)) 1452 = -1 := by rw [gi_adv]; exact a2
  have RT5 := RT_adv a1.1.1
  have l5 : gi (advF (clA rc)) 1448 = gi r 1448 := by rw [gi_adv]; exact lenc
  have kw18 : lN (kwN 18) = 426836779880 := by decide +kernel
  have tk18 : tkn (clA rc) = 18 := (tk_kw a1.1 (by omega)).mpr (by rw [kw18]; exact t18)
  have qY := MY.2.2.2.2.2.2.2.2
  have qY2 : qN (advF (clA rc)) = qN (tI (advF (clA rc)) 36 (4 * rsN r + n) 0) := te0.q.symm
  have aq5 := (a1.adv_q).2 (ne_end a1.1 (by rw [t18]; decide))
  generalize tI (advF (clA rc)) 36 (4 * rsN r + n) 0 = Y at *
  obtain ⟨B, rfl⟩ : ∃ b, B = b + 10 := ⟨B - 10, by omega⟩
  -- a wrong text: what is left
  have WR : ∀ rw, ¬ gi rw 1452 = -1 → TEW rw (stpF rc) → gi rw 1448 = gi r 1448 → ∀ hx, FX (EPn T U e0 (tp h1) sc) h1 hx → ∀ h' ks' B' ns' fS', ES h' T U e0 1 rw D l il so → FX (EPn T U e0 (tp h1) sc) hx h' → LST h' U e0 nm fW ns' fS' ks' B' → (∀ k, k < ns → fS' k = fS k) → B0 + D + 1 ≤ B' + 3 * tn (gi rw 1448) + 20 → tg h' (tp h1) = 4 → Q (some (vr (some (tp h1)))) h' := by
    intro rw bad tw lw hx Xx h' ks' B' ns' fS' E' X' L' fk cr' t'
    exact H2 h' (stpF rc) ks' B' ns' fS' 0 rfl (by rw [tw.1]; exact bad) (E'.te tw) (Xx.tr X') L' fk (by rw [← lw]; exact cr') t'
  refine p_newC (d := d) (B := B + 9) E L (fun h2 E2 L2 c2 F2 N2 X2 tp2 => ?_)
  have I2 : CIP h1 h2 T U e0 sc so nk par wk pk (tp h1) (up1 (up1 (fun _ => 0) 309 (-1)) 302 (nI l)) (fun _ => 0) (up1 (up1 (fun _ => none) 30300 (some (tp h1 + 1))) 30301 so) := ⟨X2.mono (fun _ _ z => z.elim), CHN.fx X2 (fun a => ⟨fun z => z, fun z => z⟩) CH, c2, K.fx X2 (fun g z => z) (fun z => z) (fun z => z) (fun z => z) (fun z => z), F2⟩
  have c92 := E2.1.2.2.2.2.2.2.2.2.1
  rw [bk_X5_takeCatch_7, show vi 18 = vi (nI 18) from rfl]
  refine ⟨c92, p_take (d := d + 3) E2 (by omega) (fun h5 E5 w5 => ?_)⟩
  rw [decide_eq_true tk18, gT_t a2] at E5
  have c95 := E5.1.2.2.2.2.2.2.2.2.1
  simp only [psh]
  rw [bk_X5_takeCatch_11, show vi 22 = vi (nI 22) from rfl]
  refine ⟨c95, p_take (d := d + 3) E5 (by omega) (fun h6 E6 w6 => ?_)⟩
  have I6 := (I2.fx w5.ct tT he).fx w6.ct tT he
  have L6 := (L2.pw w5).pw w6
  have N6 := (N2.pw w5).pw w6
  have c96 := E6.1.2.2.2.2.2.2.2.2.1
  have s22 := tk_sign RT5 (c := 40) (by decide)
  rw [show sgT 40 = 22 from rfl] at s22
  simp only [psh]
  rw [bk_X5_takeCatch_14, nn_some, I6.2.2.1.2.2.2.1, show vi 26 = vi (nI 26) from rfl]
  refine ⟨I6.2.2.1.2.2.1, c96, ?_⟩
  by_cases z40 : tkn (advF (clA rc)) = 22
  rotate_left
  · -- no (
    rw [decide_eq_false z40, gT_f er5] at E6
    have bad : ¬ gi (faiF (advF (clA rc))) 1452 = -1 := (fai_w RT5 er5).1
    have tw : TEW (faiF (advF (clA rc))) (stpF rc) := by
      rw [st0]
      unfold rcB
      rw [if_neg (fun z => z40 (s22.mpr (te0.2.2.2.1.symm.trans z)))]
      exact fai_tew te0 er5 MY.2.1 RT5
    have lw : gi (faiF (advF (clA rc))) 1448 = gi r 1448 := by rw [gi_fai]; exact l5
    refine p_namesW (d := d + 2) (by omega) (by omega) E6 bad N6 (fun h7 k wd pc E7 N7 w7 => ?_)
    have k4 := N7.1.2.2.2.2.2.2.1
    have I7 := I6.fx w7.ct tT he
    have L7 : LST h7 U e0 nm fW ns fS ks1 (B + 9) := L6.nn w7
    simp only [psh]
    exact ctw_19 (B := B + 7 - k) HB hd (by omega) E7 bad I7.2.1 I7.2.2.1 I7.2.2.2.1 N7 (by rw [show B + 7 - k + 2 + k = B + 9 by omega]; exact L7) (by rw [lw]; omega) (by rw [lw]; exact hB0) (WR _ bad tw lw h7 (ENX_en I7.1))
  rw [decide_eq_true z40, gT_t er5] at E6
  have y40 : gi Y 1451 = 40 := te0.2.2.2.1.trans (s22.mp z40)
  have er6 : gi (advF (advF (clA rc))) 1452 = -1 := by rw [gi_adv]; exact er5
  have lY : gi Y 1448 = gi r 1448 := te0.2.1.trans l5
  have kg := (nl_keep (qc := 36) (qw := 37) (qa := 38) (i := 4 * rsN r + n) (sep := 124) (by decide) (by decide) 5 Y).2.2 1448 (by decide) (by decide) (by decide) (by decide) (by decide)
  refine p_names (d := d + 2) (qc := 36) (qw := 37) (qa := 38) (i := 4 * rsN r + n) (sep := 124) (X0 := Y) (by decide) rfl (by omega) (by omega) (by decide) (by decide) (by decide) MY.2.1 y36 E6 er6 (te0.sy.adv) N6 ?_ ?_
  rotate_left
  · -- names that are wrong
    intro h7 aw k wd pc E7 bad tw7 ok7 N7 w7
    have tw : TEW aw (stpF rc) := by
      rw [st0]
      unfold rcB
      rw [if_pos y40, if_pos ok7]
      exact tw7
    have lw : gi aw 1448 = gi r 1448 := tw7.2.2.1.symm.trans (kg.trans lY)
    have k4 := N7.1.2.2.2.2.2.2.1
    have I7 := I6.fx w7.ct tT he
    simp only [psh]
    exact ctw_19 (B := B + 7 - k) HB hd (by omega) E7 bad I7.2.1 I7.2.2.1 I7.2.2.2.1 N7 (by rw [show B + 7 - k + 2 + k = B + 9 by omega]; exact L6.nn w7) (by rw [lw]; omega) (by rw [lw]; exact hB0) (WR _ bad tw lw h7 (ENX_en I7.1))
  intro h7 aw k wd pc E7 e7 te7 ok7 N7 w7 c7 k0 k4 da
  have I7 := I6.fx w7.ct tT he
  have L7 : LST h7 U e0 nm fW ns fS ks1 (B + 9 - k + k) := by rw [show B + 9 - k + k = B + 9 by omega]; exact L6.nn w7
  have c97 := E7.1.2.2.2.2.2.2.2.2.1
  have lw : gi aw 1448 = gi r 1448 := te7.2.1.trans (kg.trans lY)
  simp only [psh]
  rw [bk_X5_takeCatch_19, nn_some, I7.2.2.1.2.2.2.1]
  refine ⟨I7.2.2.1.2.2.1, c97, p_know (d := d + 1) (by omega) (by omega) E7 I7.2.2.2.1 N7 L7 (fun h8 ks8 E8 N8 L8 pm8 x8 tp8 => ?_)⟩
  have I8 := I7.fx (x8.mono (E' := ECT T U e0 (tp h1)) (fun g z w => by
    rcases w with w | w
    · exact Or.inr (Or.inl w)
    · exact Or.inr (Or.inr (by omega)))) tT he
  have c98 := E8.1.2.2.2.2.2.2.2.2.1
  have c10 := E8.1.2.2.2.2.2.2.2.2.2.1
  have tg8 : tg h8 T = 10 := E8.2.1.1
  obtain ⟨p, hp1, hp2, hp3⟩ := E8.pl
  have pa : gi aw 1449 = nI p := by rw [← (E8.2.2.2.2 e7).1.2.1]; exact hp1
  have RT7 := (E8.2.2.2.2 e7).2
  simp only [psh]
  rw [bk_X5_takeCatch_23, c10, nn_some, hp1]
  refine ⟨c98, tg8, c98, p_takeName (d := d + 3) E8 (fun h9 x E9 w9 val => ?_)⟩
  have I9 := I8.fx w9.ct tT he
  have L9 := L8.pw w9
  have n27 := tk_name RT7
  rw [te7.okN] at n27
  have eC : stpF rc = rcC (nlF 36 37 38 (4 * rsN r + n) 124 5 Y).1 (rsN r) (4 * rsN r + n) := by
    rw [st0]
    unfold rcB
    rw [if_pos y40, if_neg (by rw [ok7]; decide)]
  simp only [psh]
  by_cases z27 : tkn aw = 27
  rotate_left
  · -- no name
    rw [decide_eq_false z27, gT_f e7] at E9
    have bad : ¬ gi (faiF aw) 1452 = -1 := (fai_w RT7 e7).1
    have tw : TEW (faiF aw) (stpF rc) := by
      rw [eC]
      unfold rcC
      have : okN (nlF 36 37 38 (4 * rsN r + n) 124 5 Y).1 = false := by
        cases y : okN (nlF 36 37 38 (4 * rsN r + n) 124 5 Y).1 with
        | true => exact absurd (n27.mpr y) z27
        | false => rfl
      rw [if_pos this]
      refine fai_tew te7.sy e7 ?_ RT7
      have := (MD_nlf (qc := 36) (qw := 37) (qa := 38) (i := 4 * rsN r + n) (sep := 124) (by decide) (by decide) (by decide) (by decide) MY (by rw [y40]; decide) y36).2 ok7
      exact this.1.2.1
    have lw2 : gi (faiF aw) 1448 = gi r 1448 := by rw [gi_fai]; exact lw
    exact ctw_30 (B := B + 7 - k) HB hd (by omega) E9 bad I9.2.1 I9.2.2.1 I9.2.2.2.1 (by rw [show B + 7 - k + 2 = B + 9 - k by omega]; exact L9) (by rw [lw2]; omega) (by rw [lw2]; exact hB0) ⟨by omega, hp3⟩ (WR _ bad tw lw2 h9 (ENX_en I9.1))
  rw [decide_eq_true z27, gT_t e7] at E9
  obtain ⟨vx, wv⟩ := val e7 z27
  have on : okN (nlF 36 37 38 (4 * rsN r + n) 124 5 Y).1 = true := n27.mp z27
  have e9 : gi (advF aw) 1452 = -1 := by rw [gi_adv]; exact e7
  have RT9 := RT_adv RT7.1
  have c99 := E9.1.2.2.2.2.2.2.2.2.1
  rw [bk_X5_takeCatch_30, nn_some, show vi 23 = vi (nI 23) from rfl]
  have xs : FX (fun g z => g = 20303 ∧ z = tp h1) h9 (setFJ h9 20303 (tp h1) x) := FX.FJ ⟨rfl, rfl⟩
  have E10 := E9.fj (f := 20303) (x := tp h1) x (by omega) (by decide)
  have L10 := LST.fj L9 (f := 20303) (x := tp h1) x (by omega) (by decide)
  have I10 : CIP h1 (setFJ h9 20303 (tp h1) x) T U e0 sc so nk par wk pk (tp h1) (up1 (up1 (fun _ => 0) 309 (-1)) 302 (nI l)) (up1 (fun _ => 0) 20303 x) (up1 (up1 (fun _ => none) 30300 (some (tp h1 + 1))) 30301 so) := ⟨I9.1.tr (xs.mono (fun g z w => Or.inr (Or.inr ⟨by omega, by omega⟩))), CHN.fx xs (fun a => ⟨fun z => by omega, fun z => by omega⟩) I9.2.1, I9.2.2.1.fx xs ⟨fun z => by omega, fun z => by omega⟩, I9.2.2.2.1.fx xs (fun g z => by omega) (fun z => by omega) (fun z => by omega) (fun z => by omega) (fun z => by omega), I9.2.2.2.2.sJ 20303 x⟩
  have c910 : tg (setFJ h9 20303 (tp h1) x) (U + 9) = 8 := c99
  have N9 := N8.fx w9.1 (fun q _ => EPW_no (by omega)) (EPW_no (by omega)) (EPW_no (by omega)) (EPW_no (by omega))
  have N10 := N9.fx xs (fun q _ z => by omega) (fun z => by omega) (fun z => by omega) (fun z => by omega)
  refine ⟨I9.2.2.1.2.2.1, c910, ?_⟩
  generalize setFJ h9 20303 (tp h1) x = h10 at *
  refine p_take (d := d + 3) E10 (by omega) (fun h11 E11 w11 => ?_)
  have I11 := I10.fx w11.ct tT he
  have L11 := L10.pw w11
  have N11 := N10.fx w11.1 (fun q _ => EPW_no (by omega)) (EPW_no (by omega)) (EPW_no (by omega)) (EPW_no (by omega))
  have s23 := tk_sign RT9 (c := 41) (by decide)
  rw [show sgT 41 = 23 from rfl] at s23
  have te9 : TE (advF aw) (namF (nlF 36 37 38 (4 * rsN r + n) 124 5 Y).1) := (te7.sy.adv).tr TE_nam
  simp only [psh]
  by_cases z23 : tkn (advF aw) = 23
  rotate_left
  · -- no )
    rw [decide_eq_false z23, gT_f e9] at E11
    have bad : ¬ gi (faiF (advF aw)) 1452 = -1 := (fai_w RT9 e9).1
    have tw : TEW (faiF (advF aw)) (stpF rc) := by
      rw [eC]
      unfold rcC
      rw [if_neg (by rw [on]; decide)]
      unfold rcD
      rw [if_neg (fun z => z23 (s23.mpr (te9.2.2.2.1.symm.trans z)))]
      refine fai_tew (te9.tr (TE_tL.tr (TE_tI (by decide)))) e9 ?_ RT9
      have := (MD_nlf (qc := 36) (qw := 37) (qa := 38) (i := 4 * rsN r + n) (sep := 124) (by decide) (by decide) (by decide) (by decide) MY (by rw [y40]; decide) y36).2 ok7
      have N5 := (this.1.nam on).2.1
      unfold rcP
      rw [gi_tI, gi_tL]; exact N5
    have lw2 : gi (faiF (advF aw)) 1448 = gi r 1448 := by rw [gi_fai, gi_adv]; exact lw
    exact ctw_34 (B := B + 7 - k) HB hd (by omega) E11 bad I11.2.1 I11.2.2.1 I11.2.2.2.1 (by rw [show B + 7 - k + 2 = B + 9 - k by omega]; exact L11) (by rw [lw2]; omega) (by rw [lw2]; exact hB0) ⟨by omega, hp3⟩ (WR _ bad tw lw2 h11 (ENX_en I11.1))
  rw [decide_eq_true z23, gT_t e9] at E11
  have y41 : gi (namF (nlF 36 37 38 (4 * rsN r + n) 124 5 Y).1) 1451 = 41 := te9.2.2.2.1.trans (s23.mp z23)
  obtain ⟨X, st, MX, teX, x32, xq, x36, x38, x37, x34, x35, x30, x31⟩ := rc_3 MY st0 y36 yq yl c32 hn y40 ok7 c7 k4 on y41
  have hi := nl_hi (qc := 36) (qw := 37) (qa := 38) (i := 4 * rsN r + n) (sep := 124) (lo := qN Y) (by decide) (by decide) (by decide) 5 0 Y MY.1.1 y36 rfl (fun j hj => by omega) (Nat.le_refl _) ok7
  rw [c7, tn_nI (by omega)] at hi
  have te11 : TE (advF (advF aw)) X := (te9.adv).tr teX
  have e11 : gi (advF (advF aw)) 1452 = -1 := by rw [gi_adv]; exact e9
  have EX := E11.te (TEW.of te11 (by rw [MX.2.1]; exact e11.symm))
  have qX := MX.2.2.2.2.2.2.2.2
  have qZX : qN (nlF 36 37 38 (4 * rsN r + n) 124 5 Y).1 ≤ qN X := by
    have b1 := te7.q
    have b2 := (rt_adv_q RT7).1
    have b3 := (rt_adv_q RT9).1
    have b4 := te11.q
    omega
  have OX : OWN X 6 (nI (rsN r)) := own_cl Ac c125 dc o41 MX (xq 41 (by decide) (by decide) (by decide) (by decide)) (by rw [wc]; exact Nat.le_add_right _ _) (by omega) (by decide) (by decide) (by rw [x32]; exact ⟨by rw [tn_nI (by omega)], by rw [tn_nI (by omega)]; omega⟩)
  have m1' := F1.1.2.2.2.1
  have hi0 := hi 0 k0
  have VAL : OPE r rc X D 6 (nI n) 33 (4 * rsN r + n) → ENR r R → ENR (stpF rc) R → ai R 33 (4 * rsN r + n) = nI (nbN rc) ∧ al R 34 (4 * rsN r + n) = gl aw 21450 ∧ ai R 35 (4 * rsN r + n) = nI p ∧ ai R 36 (4 * rsN r + n) = nI k ∧ ∀ j, j < k → wd j = conv (al R 37 (4 * (4 * rsN r + n) + j)) ∧ WV (al R 37 (4 * (4 * rsN r + n) + j)) ∧ pc j = ai R 38 (4 * (4 * rsN r + n) + j) ∧ plp (pc j) ∧ ffst (fun k => decide (wk k = wd j)) nk 0 = cgK R (wN R) (nkN R) (4 * rsN r + n) j := fun OE EN E2 => by
    obtain ⟨o1, o2, o3, o4, o5, o6, o7, o8, o9, o10, o11, o12, o13, o14, o15, o16⟩ := id OE
    have F := FZ_en E2 o2
    have P := DP EN
    have s32 : ai (stpF rc) 32 (rsN r) = nI (n + 1) := by rw [o12 32 (by omega) (by omega)]; exact x32
    have c4 : cnt (ai (stpF rc) 32 (rsN r)) 4 := by rw [s32]; exact ⟨by rw [tn_nI (by omega)], by rw [tn_nI (by omega)]; omega⟩
    have lt : n < tn (ai (stpF rc) 32 (rsN r)) := by rw [s32, tn_nI (by omega)]; omega
    have f := fun q h1 h2 => F.2.2.2.2.1 q (rsN r) n h1 h2 (by omega) c4 lt
    have g := fun q j hq hj => F.2.2.2.2.2 q (rsN r) n j hq (by omega) c4 lt hj
    have ew : wN R = wN r := F.1.1.trans o16
    have glo : goK D (m + 1) (stpF r) (stpF rc) := goK_tr (m := 1) gk ⟨rng_in ec (by omega), RIL_pre Ac, by omega, rfl⟩
    have enk : nkN (stpF rc) = nkN r := by
      unfold nkN
      rw [o16, (goK_lo glo 2 _ (by omega)).1, (lo_turn (ow_turn (RIL_pre A)) (dN_0 d0) (q := 2) (by omega) _).1]
    refine ⟨by rw [(f 33 (by omega) (by omega)).1]; exact o11, ?_, ?_, ?_, fun j hj => ?_⟩
    · rw [(f 34 (by omega) (by omega)).2, o13, x34]; exact te7.2.2.2.2.1.symm
    · rw [(f 35 (by omega) (by omega)).1, o12 35 (by omega) (by omega), x35]; exact te7.2.2.1.symm.trans pa
    · rw [(f 36 (by omega) (by omega)).1, o12 36 (by omega) (by omega), x36]; exact c7
    · obtain ⟨b1, b2, b3⟩ := da j hj
      obtain ⟨p', b4, b5, b6⟩ := N7.2 j hj
      have r37 : al R 37 (4 * (4 * rsN r + n) + j) = al (nlF 36 37 38 (4 * rsN r + n) 124 5 Y).1 37 (4 * (4 * rsN r + n) + j) := by rw [(g 37 j (by omega) (by omega)).2, o13, x37]
      have r38 : ai R 38 (4 * (4 * rsN r + n) + j) = ai (nlF 36 37 38 (4 * rsN r + n) 124 5 Y).1 38 (4 * (4 * rsN r + n) + j) := by rw [(g 38 j (by omega) (by omega)).1, o12 38 (by omega) (by omega), x38]
      have b9 := hi j hj
      rw [← b3, b4, tn_nI (by omega)] at b9
      refine ⟨by rw [r37]; exact b1, by rw [r37]; exact b2, by rw [r38]; exact b3, ⟨p', b4, by omega, b6⟩, ?_⟩
      unfold cgK
      rw [r37, r38, ← b3, b4, b1]
      exact meant_is A P E2 o2 ew enk (by omega) (by omega) b2
  -- the mistakes
  have MIS : OPE r rc X D 6 (nI n) 33 (4 * rsN r + n) → ENR r R → ENR (stpF rc) R → ∀ ksa J, CTK ksa J ks8 → J = lif (decide (¬ sc.find? (fun a => decide (fJ h11 20303 a = x)) = none)) (keyN p 2 0) → CTK ksa (mpC R (rsN r) n) ks1 := fun OE EN E2 ksa J cj ej => by
    obtain ⟨v33, v34, v35, v36, vj⟩ := VAL OE EN E2
    have P := DP EN
    obtain ⟨v20, v21, v22, ew, lb, FR, rl⟩ := st_vals A hr d0 d1 EN
    have pf : prT R (rsN r) n = (cch R (rsB r)).find? (fun c => decide (al R 34 c = gl aw 21450)) := by
      unfold prT
      rw [v21, oN_nI lb, v34]
      exact pr_find R _ 2048 (rsB r) false
    have fd : sc.find? (fun a => decide (fJ h11 20303 a = x)) = (prT R (rsN r) n).map (G 2) := by
      rw [pf, P.2.2.2.1, vx]
      refine par_is (fun c hm => ?_) wv
      have hm2 := hsc (G 2 c) (by rw [P.2.2.2.1]; exact List.mem_map.mpr ⟨c, hm, rfl⟩)
      refine (SF EN c hm).fx I11.1 (by omega) ⟨?_, ?_, ?_⟩ <;> rintro (w | w | w) <;> first | exact EPW_no (by omega) w | exact ELs_no (by omega) w | omega
    have ef : decide (¬ sc.find? (fun a => decide (fJ h11 20303 a = x)) = none) = decide (¬ prT R (rsN r) n = none) := by
      rw [fd]
      cases prT R (rsN r) n <;> simp
    intro a
    have c1 := cj a
    have c2 := (CTK.pm pm8) a
    unfold mpC
    rw [v35, v36, tn_nI (by omega), tn_nI (by omega), List.count_append, ← ef, ← ej]
    rw [flr_cg (g := unkL pc (fun j => ffst (fun k => decide (wk k = wd j)) nk 0)) k 0 (fun i _ hi' => by
      obtain ⟨-, -, b3, -, b5⟩ := vj i (by omega)
      show (if cgK R (wN R) (nkN R) (4 * rsN r + n) i = none then [keyN (tn (ai R 38 (4 * (4 * rsN r + n) + i))) 1 0] else []) = (if ffst (fun k => decide (wk k = wd i)) nk 0 = none then [keyN (tn (pc i)) 1 0] else [])
      rw [b5, b3])]
    omega
  have T45 : ∀ ha ksa, ES ha T U e0 1 X D l il so → CIP h1 ha T U e0 sc so nk par wk pk (tp h1) (up1 (up1 (fun _ => 0) 309 (-1)) 302 (nI l)) (up1 (fun _ => 0) 20303 x) (up1 (up1 (fun _ => none) 30300 (some (tp h1 + 1))) 30301 so) → ND ha (tp h1 + 1) k wd pc (fun j => ffst (fun k => decide (wk k = wd j)) nk 0) → LST ha U e0 nm fW ns fS ksa (B + 7 - k + 1) → (OPE r rc X D 6 (nI n) 33 (4 * rsN r + n) → ENR r R → ENR (stpF rc) R → CTK ksa (mpC R (rsN r) n) ks1) → wp (d + 10) K_X5_takeCatch 45 [] [(0, vr (some (U + 9))), (1, vr (some (tp h1))), (2, vi (nI p))] ha Q := by
    intro ha ksa Ea Ia Na La ct
    have c9a := Ea.1.2.2.2.2.2.2.2.2.1
    rw [bk_X5_takeCatch_45]
    have Eb := Ea.sco (some (tp h1))
    have Lb := La.sco (some (tp h1))
    have xb : FX (fun g z => g = 30706 ∧ z = U + 9) ha (setFP ha 30706 (U + 9) (some (tp h1))) := FX.FP ⟨rfl, rfl⟩
    have Cb := CHN.fx xb (fun a => ⟨fun z => by omega, fun z => by omega⟩) Ia.2.1
    have cb := Ia.2.2.1.fx xb ⟨fun z => by omega, fun z => by omega⟩
    have Kb := Ia.2.2.2.1.fx xb (fun g z => by omega) (fun z => by omega) (fun z => by omega) (fun z => by omega) (fun z => by omega)
    have Fb := Ia.2.2.2.2.fx xb (by have := Ia.2.2.1.2.1; omega) (fun f hf z => by omega)
    have Nb := Na.fx xb (fun q _ z => by omega) (fun z => by omega) (fun z => by omega) (fun z => by omega)
    have c9b : tg (setFP ha 30706 (U + 9) (some (tp h1))) (U + 9) = 8 := c9a
    have Xb : FX (fun g z => ENX T U e0 (tp h1) g z ∨ (g = 30706 ∧ z = U + 9)) h1 (setFP ha 30706 (U + 9) (some (tp h1))) := (Ia.1.mono (fun _ _ z => Or.inl z)).tr (xb.mono (fun _ _ z => Or.inr z))
    refine ⟨c9a, c9b, ?_⟩
    generalize setFP ha 30706 (U + 9) (some (tp h1)) = hb at *
    have htpb : tp h1 ≤ tp hb := Xb.1
    have XEb : FX (EPn T U e0 (tp h1) sc) h1 hb := Xb.mono (fun g z w => by
      rcases w with (w | w | w) | w
      · exact Or.inl (EPW_a w)
      · exact Or.inl (Or.inr (Or.inl w))
      · exact Or.inr w
      · exact Or.inl (Or.inr (Or.inr (Or.inr ⟨w.2, by omega⟩))))
    have g0 : ∀ q i, ¬ (q = 2 ∧ i = 4 * rsN r + n) → (fun q i => if q = 2 ∧ i = 4 * rsN r + n then tp h1 else G1 q i) q i = G1 q i := fun q i hq => if_neg hq
    have gm : (fun q i => if q = 2 ∧ i = 4 * rsN r + n then tp h1 else G1 q i) 2 (4 * rsN r + n) = tp h1 := if_pos ⟨rfl, rfl⟩
    have nw : ENR r R → MBO h h4 h1 U R G (fun q i => if q = 2 ∧ i = 4 * rsN r + n then tp h1 else G1 q i) r rc bs C ks4 ks1 fS (n + 1) W := fun EN => by
      obtain ⟨ENc, m0, hb6, -⟩ := MB EN
      have P := DP EN
      obtain ⟨v20, v21, v22, ew, lb, FR, rl⟩ := st_vals A hr d0 d1 EN
      have FRc := FZ_en ENc Ac
      exact mbo_new (y := tp h1) m0 hn (Nat.le_refl _) smc.2 (noc P.2.2.2.2.2.2.2 smc (by rw [ew]; exact Nat.le_add_right _ _) FRc.1.2.2.1 v21 lb (fun c m => (P.2.2.2.2.1 c m).2) m0.2.2.2.2.2.2.2.2 hb6)
    generalize (fun q i => if q = 2 ∧ i = 4 * rsN r + n then tp h1 else G1 q i) = Gm at *
    have ge : ENR r R → ∀ c, c ∈ cch R (rsB r) → Gm 2 c = G 2 c ∧ G 2 c + 1 < tp h4 ∧ U + 10 ≤ G 2 c := fun EN c hm => by
      have P := DP EN
      have hm2 := hsc (G 2 c) (by rw [P.2.2.2.1]; exact List.mem_map.mpr ⟨c, hm, rfl⟩)
      exact ⟨(nw EN).1.1.2.2 c (P.2.2.2.2.1 c hm).2, hm2⟩
    have nX : ∀ g z, g / 100 % 100 = 3 ∨ g = 603 → z < tp h1 → ¬ (ENX T U e0 (tp h1) g z ∨ (g = 30706 ∧ z = U + 9)) := fun g z hg hz w => by
      rcases w with (w | w | w) | w
      · exact EPW_no (by omega) w
      · exact ELs_no (by omega) w
      · omega
      · omega
    refine nx_block (d := d + 9) (R := R) (h3 := h3) (G := G) (Gm := Gm) (fS0 := fS0) (wk := wk) (so := so) (sc := sc) (sc' := tp h1 :: sc) (X := X) (what := 6) (num := nI n) (q := 33) (i := 4 * rsN r + n) HB hd A hr hD D0 d1 (by omega) gk Ac ec c125 dc o41 MX OX (by decide) (by decide) (by decide) (fun _ => by rw [tn_nI (by omega)]; exact hn) st Eb (CHN.push cb Cb) Kb Lb ens (by omega) hB0 DP (fun EN _ k hk => ?_) (fun EN _ => ?_) ?_ ?_
    · exact (nw EN).2.1 k (by omega)
    · have P := DP EN
      rw [if_pos rfl, tn_nI (by omega)]
      refine ⟨?_, fun c hm OE E2 => ?_⟩
      · rw [List.singleton_append, List.map_cons, gm]
        have : sc = (cch R (rsB r)).map (Gm 2) := by
          rw [P.2.2.2.1]
          exact List.map_congr_left (fun c hm => (ge EN c hm).1.symm)
        rw [← this]
      · rw [List.singleton_append, List.mem_cons] at hm
        rcases hm with hm | hm
        · rw [hm]
          obtain ⟨v33, v34, v35, v36, vj⟩ := VAL OE EN E2
          obtain ⟨v20, v21, v22, ew, lb, FR, rl⟩ := st_vals A hr d0 d1 EN
          unfold SCF
          rw [gm, v34, v36, show (4 * rsN r + n) / 4 = rsN r by omega, v21, tn_nI lb, tn_nI (show k < 2 ^ 31 by omega), ← P.2.2.2.2.2.1]
          refine ⟨by rw [(Fb 20303 (by decide)).2.1]; exact vx, wv, by rw [(Fb 302 (by decide)).1]; rfl, Nb.2.2.2.2.2.1, k4, by omega⟩
        · obtain ⟨e1, e2, e3⟩ := ge EN c hm
          refine SCF.cg (G := G) ?_ e1
          exact (SF EN c hm).fx Xb (by omega) ⟨nX _ _ (by omega) (by omega), nX _ _ (by omega) (by omega), nX _ _ (by omega) (by omega)⟩
    · intro h' rd x' ks' B' ns' fS' n' OE g Ad ed c125' dd Ed Xd Ld ens' fk' crd tx BP'
      obtain ⟨o1, o2, o3, o4, o5, o6, o7, o8, o9, o10, o11, o12, o13, o14, o15, o16⟩ := id OE
      obtain ⟨y1, y2, y3, OWd, FD⟩ := cls_w o2 o4 o5 o6 (s := rsN r) (by omega) o8 o9 g ed dd
      have htpd : tp hb ≤ tp h' := Xd.1
      have cd := cb.fx Xd ⟨EPa_no (by omega), EPa_no (by omega)⟩
      have cyb := cb.2.1
      have xs2 : FX (fun g z => g = 30305 ∧ z = tp h1) h' (setFP h' 30305 (tp h1) (some x')) := FX.FP ⟨rfl, rfl⟩
      have c2' : CO (setFP h' 30305 (tp h1) (some x')) U (tp h1) so := cd.fx xs2 ⟨fun z => by omega, fun z => by omega⟩
      have E3 := Ed.fp (f := 30305) (x := tp h1) (some x') (by omega) (by decide)
      have L3 := LST.fp Ld (f := 30305) (x := tp h1) (some x') (by omega) (by decide)
      have c93 := E3.1.2.2.2.2.2.2.2.2.1
      simp only [psh, bk_X5_takeCatch_51, nn_some]
      refine ⟨cd.2.2.1, c2'.2.2.1, c93, ?_⟩
      rw [c2'.2.2.2.2.2]
      have xz : FX (fun g z => (g = 30305 ∧ z = tp h1) ∨ (g = 30706 ∧ z = U + 9)) h' (setFP (setFP h' 30305 (tp h1) (some x')) 30706 (U + 9) so) := (xs2.mono (fun _ _ z => Or.inl z)).toFP _ (Or.inr ⟨rfl, rfl⟩)
      have Ez := E3.sco so
      have Lz := L3.sco so
      have p305 : fP (setFP (setFP h' 30305 (tp h1) (some x')) 30706 (U + 9) so) 30305 (tp h1) = some x' := by
        show (if 30305 = 30706 ∧ tp h1 = U + 9 then so else if 30305 = 30305 ∧ tp h1 = tp h1 then some x' else _) = _
        rw [if_neg (by omega), if_pos ⟨rfl, rfl⟩]
      have tpz : tp (setFP (setFP h' 30305 (tp h1) (some x')) 30706 (U + 9) so) = tp h' := rfl
      generalize setFP (setFP h' 30305 (tp h1) (some x')) 30706 (U + 9) so = hz at *
      have cz := cd.fx xz ⟨fun z => by omega, fun z => by omega⟩
      have XX : FX (EPn T U e0 (tp h1) sc) h1 hz := (XEb.tr (Xd.mono (fun g z w => by
        rcases w with w | w | ⟨w, w2⟩ | w
        · exact Or.inl (Or.inl w)
        · exact Or.inl (Or.inr (Or.inl w))
        · rcases List.mem_cons.mp w with w | w
          · exact Or.inr ⟨by omega, by omega⟩
          · exact Or.inl (Or.inr (Or.inr (Or.inl ⟨w, w2⟩)))
        · exact Or.inl (Or.inr (Or.inr (Or.inr w)))))).tr (xz.mono (fun g z w => by
        rcases w with w | w
        · exact Or.inr ⟨by omega, by omega⟩
        · exact Or.inl (Or.inr (Or.inr (Or.inr ⟨w.2, by omega⟩)))))
      have keep : ∀ f, f / 100 % 100 = 3 → ¬ f = 10304 → ¬ f = 30305 → fI hz f (tp h1) = fI hb f (tp h1) ∧ fJ hz f (tp h1) = fJ hb f (tp h1) ∧ fP hz f (tp h1) = fP hb f (tp h1) := fun f u1 u2 u3 => by
        have n1 : ¬ ((f = 30305 ∧ tp h1 = tp h1) ∨ (f = 30706 ∧ tp h1 = U + 9)) := by omega
        have n2 : ¬ EPa T U e0 (tp h1 :: sc) f (tp h1) := EPa_no (by omega)
        exact ⟨by rw [xz.fI (by omega) n1, Xd.fI (by omega) n2], by rw [xz.fJ (by omega) n1, Xd.fJ (by omega) n2], by rw [xz.fP (by omega) n1, Xd.fP (by omega) n2]⟩
      refine H1 hz rd ks' B' ns' fS' n' X OE (fun q hq => xq q (by omega) (by omega) (by omega) (by omega)) x32 (fun q hq => ⟨xq q (by omega) (by omega) (by omega) (by omega), by rcases hq with rfl | rfl; exact x30; exact x31⟩) g Ad ed c125' dd Ez XX Lz ens' fk' crd cz (by rw [(keep 30306 (by decide) (by decide) (by decide)).2.2, (Fb 30306 (by decide)).2.2]; rfl) (fun EN => ?_)
      obtain ⟨ENc, ENd, G', bp, cc⟩ := BP' EN
      rw [if_pos rfl, tn_nI (by omega)] at cc
      have E2 := ENc.step (rng_in ec (by omega))
      obtain ⟨v33, v34, v35, v36, vj⟩ := VAL OE EN E2
      obtain ⟨-, m0, hb6, cat0⟩ := MB EN
      have P := DP EN
      obtain ⟨v20, v21, v22, ew, lb, FR, rl⟩ := st_vals A hr d0 d1 EN
      have FE := FZ_en E2 o2
      have hc : ∀ c, c ∈ cch R (rsB r) → c / 4 < rsN r := fun c m => (P.2.2.2.2.1 c m).2
      have m1 := nw EN
      have m2 := mbo_fx m1 Xb (fun g z a1 a2 w => by
        rcases w with (w | w | w) | w
        · rcases w with w | w
          · have := w.1; omega
          · omega
        · rcases w with w | w
          · omega
          · exact Or.inl w.1
        · omega
        · omega) (fun c m => by
        have := ge EN c m
        exact ⟨by omega, nX _ _ (by omega) (by omega)⟩) (ct OE EN E2) htp4
      have PB := pbo_step m1.2.2.2.2.2.2.2.2 (by omega) l1 o2 o4 o5 o6 o7 o9 g ed Ad ENd
      have k1 : rsN rc ≤ rsN rd := by have := FD.1.2.1; omega
      have k2 : nbN rc + 1 ≤ nbN rd := by have := FD.1.2.2.1; omega
      have wt : wtC R (rsN r) n = 2 * k + 3 := by unfold wtC; rw [v36, tn_nI (by omega)]
      have cat : ∀ j, j < n + 1 → Gm 2 (4 * rsN r + j) + 4 < tp hb := fun j hj => by
        by_cases y : j = n
        · rw [y, gm]; exact cyb
        · rw [g0 2 _ (fun z => by omega)]
          have := cat0 j (by omega)
          omega
      obtain ⟨m4, m5, m6, m7, m8, m9⟩ := mbo_step (W' := wtC R (rsN r) n) m2 bp Xd o7 o6 o16 l1 (by omega) k1 k2 (fun a m h1 => by
        rcases List.mem_cons.mp m with m | m
        · exact ⟨n, by omega, by rw [m]; exact gm.symm⟩
        · have := hsc a m; omega) tT hU4 (by omega) (fun c m => by rw [cc]; exact List.mem_append.mpr (Or.inr m)) hc (by rw [wt]; omega) (by omega) cat PB
      have g2 : G' 2 (4 * rsN r + n) = tp h1 := (m6 2 _ (by omega) (by omega) (fun z => absurd rfl z)).trans gm
      have m10 := mbo_fx m4 xz (fun g z a1 a2 w => by
        rcases w with w | w
        · exact Or.inr ⟨by omega, n, by omega, by rw [g2]; exact w.2⟩
        · omega) (fun c m => by
        have := ge EN c m
        exact ⟨by omega, fun w => by omega⟩) CTK.rf (by omega)
      rw [List.append_nil] at m10
      refine ⟨ENd, G', m10, g2, ?_, fun j hj => ?_, fun b hb' => ?_⟩
      · unfold CTN CFH
        rw [g2, v33, v36, v35, m8, m9, m5, show (4 * rsN r + n) / 4 = rsN r by omega, v21, tn_nI lb, tn_nI (show k < 2 ^ 31 by omega)]
        refine ⟨⟨by omega, cz.2.2.1, cz.2.2.2.1, ?_, ?_, ?_, ?_, ?_⟩, rfl, p305, ?_, ⟨⟨by rw [tn_nI (by omega)], by rw [tn_nI (by omega)]; exact k4⟩, ⟨p, rfl, by omega, hp3⟩, fun j hj => ?_⟩, Or.inr ⟨nbN rc, rfl, ?_, ?_, ?_, ?_, ?_⟩⟩
        · refine ((Nb.ep Xd).fx xz (fun q _ z => by omega) (fun z => by omega) (fun z => by omega) (fun z => by omega)).cg (fun i hi' => ?_)
          obtain ⟨b1, b2, b3, b4, b5⟩ := vj i hi'
          exact ⟨b1, b3, b5⟩
        · rw [cz.2.2.2.2.2, CHN.hd CH, P.2.2.2.1, List.head?_map]
          refine om_cg (fun t ht => ?_)
          have ht2 := List.mem_of_mem_head? ht
          rw [m6 2 t (by omega) (by have := hc t ht2; omega) (fun z => absurd rfl z)]
          exact (ge EN t ht2).1.symm
        · rw [(keep 302 (by decide) (by decide) (by decide)).1, (Fb 302 (by decide)).1, ← P.2.2.2.2.2.1]; rfl
        · rw [(keep 20303 (by decide) (by decide) (by decide)).2.1, (Fb 20303 (by decide)).2.1, v34]; exact vx
        · rw [v34]; exact wv
        · rw [xz.fI (by omega) (by omega)]
          have b7 := bp.2.2.2.2.1 (4 * rsN r + n) (by rw [cc]; exact List.mem_append.mpr (Or.inl (List.mem_singleton.mpr rfl)))
          rw [o7, gm, (Fb 10304 (by decide)).1] at b7
          rw [b7]
          cases stR R (rsN rc) (rsN rd) (4 * rsN r + n) <;> rfl
        · obtain ⟨b1, b2, b3, b4, b5⟩ := vj j hj
          rw [← b3]; exact b4
        · rw [ew, ← wc]; exact Nat.le_add_right _ _
        · have := FE.1.2.2.1; omega
        · rw [FE.2.2.1 40 _ (by omega) (by omega) (by omega)]; exact o8
        · rw [FE.2.2.1 41 _ (by omega) (by omega) (by omega)]; exact o9
        · rw [FE.2.2.1 42 _ (by omega) (by omega) (by omega)]; exact o10
      · rw [m6 2 _ (by omega) (by omega) (fun z => absurd rfl z), g0 2 _ (fun z => by omega)]
      · obtain ⟨b1, b2, b3⟩ := m7 b hb'
        exact ⟨b1.trans (g0 1 _ (fun z => absurd z.1 (by decide))), b2.trans (g0 4 _ (fun z => absurd z.1 (by decide))), b3.trans (g0 5 _ (fun z => absurd z.1 (by decide)))⟩
    · intro h' rw x' ks' B' ns' fS' n' gk' bad Ew Xw Lw fk' crw tx
      have cd := cb.fx Xw ⟨EPa_no (by omega), EPa_no (by omega)⟩
      have xs2 : FX (fun g z => g = 30305 ∧ z = tp h1) h' (setFP h' 30305 (tp h1) (some x')) := FX.FP ⟨rfl, rfl⟩
      have c2' : CO (setFP h' 30305 (tp h1) (some x')) U (tp h1) so := cd.fx xs2 ⟨fun z => by omega, fun z => by omega⟩
      have E3 := Ew.fp (f := 30305) (x := tp h1) (some x') (by omega) (by decide)
      have L3 := LST.fp Lw (f := 30305) (x := tp h1) (some x') (by omega) (by decide)
      have c93 := E3.1.2.2.2.2.2.2.2.2.1
      simp only [psh, bk_X5_takeCatch_51, nn_some]
      refine ⟨cd.2.2.1, c2'.2.2.1, c93, ?_⟩
      rw [c2'.2.2.2.2.2]
      have X2' : FX (EPn T U e0 (tp h1) sc) hb h' := Xw.mono (fun g z w => by
        rcases w with w | w | ⟨w, w2⟩ | w
        · exact Or.inl (Or.inl w)
        · exact Or.inl (Or.inr (Or.inl w))
        · rcases List.mem_cons.mp w with w | w
          · exact Or.inr ⟨by omega, by omega⟩
          · exact Or.inl (Or.inr (Or.inr (Or.inl ⟨w, w2⟩)))
        · exact Or.inl (Or.inr (Or.inr (Or.inr w))))
      exact H2 _ rw ks' B' ns' fS' n' gk' bad (E3.sco so) (((XEb.tr X2').toFP _ (Or.inr ⟨Nat.le_refl _, by decide⟩)).toFP _ (Or.inl (Or.inr (Or.inr (Or.inr ⟨rfl, by omega⟩))))) (L3.sco so) fk' crw c2'.2.2.1
  have c911 := E11.1.2.2.2.2.2.2.2.2.1
  have c1111 := E11.1.2.2.2.2.2.2.2.2.2.2
  have c411 := E11.1.2.2.2.1
  rw [bk_X5_takeCatch_34, nn_some, (I11.2.2.2.2 20303 (by decide)).2.1]
  refine ⟨I11.2.2.1.2.2.1, c911, ?_⟩
  rw [show up1 (fun _ => (0 : Int64)) 20303 x 20303 = x from if_pos rfl, p_param c911 E11.2.2.1.2.2.2.2 I11.2.1]
  simp only [psh, bk_X5_takeCatch_38]
  have L11' : LST h11 U e0 nm fW ns fS ks8 (B + 7 - k + 1 + 1) := by rw [show B + 7 - k + 1 + 1 = B + 9 - k by omega]; exact L11
  refine ⟨fun z => T45 h11 ks8 EX I11 N11 (LST.dr 1 L11') (fun OE EN E2 => MIS OE EN E2 ks8 [] CTK.rf ?_), fun z => ?_⟩
  · rw [z]; rfl
  rw [bk_X5_takeCatch_39, c1111, nn_some, show vi 2 = vi (nI 2) from rfl, show vi (-1) = vi (kI 0) from rfl]
  refine ⟨c911, c411, p_note (d := d + 2) E11.1 L11' (by omega) (by omega) (by omega) (by omega) (fun ha ksa La pa' xa ta => ?_)⟩
  simp only [psh]
  exact T45 ha ksa (EX.ls xa) (I11.fx (xa.mono (fun _ _ w => Or.inr (Or.inl w))) tT he) (N11.fx xa (fun q _ => ELs_no (by omega)) (ELs_no (by omega)) (ELs_no (by omega)) (ELs_no (by omega))) La (fun OE EN E2 => MIS OE EN E2 ksa [keyN p 2 0] (CTK.pm pa') (by rw [decide_eq_true z]; rfl))
