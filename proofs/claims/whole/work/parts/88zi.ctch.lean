/-! A catch is read -/
/-- what is held of catch n of the statement, its block is b -/
def CTN (h : AH) (U : Nat) (R : RV) (G : Nat → Nat → Nat) (r : RV) (n b : Nat) : Prop := CFH h U R G (4 * rsN r + n) ∧ ai R 33 (4 * rsN r + n) = nI b ∧ fP h 30305 (G 2 (4 * rsN r + n)) = some (G 1 b) ∧ fI h 10304 (G 2 (4 * rsN r + n)) = b2i (stR R (G 4 b) (G 5 b) (4 * rsN r + n)) ∧ (cnt (ai R 36 (4 * rsN r + n)) 4 ∧ plp (ai R 35 (4 * rsN r + n)) ∧ ∀ j, j < tn (ai R 36 (4 * rsN r + n)) → plp (ai R 38 (4 * (4 * rsN r + n) + j))) ∧ BK R (rsN r) (nI b) 6 (nI n)
theorem p_catch {D d : Nat} (HB : BLC D) {h h3 h4 h1 : AH} {Q : Option V → AH → Prop} {T U e0 l : Nat} {il : Bool} {so : Option Nat} {sc : List Nat} {r rc R : RV} {nk : Nat} {par : Nat → Nat} {wk : Nat → Int64} {pk : Nat → Int32} {nm ns : Nat} {fW fS0 fS : Nat → Nat} {bs C ks4 ks1 : List Nat} {B B0 n W m : Nat} {G G1 : Nat → Nat → Nat} (hd : 20 * (9 - D) ≤ d + 9) (A : RIL r) (hr : rng r) (hD : dN r = D) (D0 : 0 < D) (d1 : ¬ gi r 1451 = 125) (hl : l ≤ D) (gk : goK D m (stpF r) rc) (Ac : RIL rc) (ec : gi rc 1452 = -1) (c125 : gi rc 1451 = 125) (dc : dN rc = D + 1) (o41 : ai rc 41 (rsB rc) = nI (rsN r)) (c32 : ai rc 32 (rsN r) = nI n) (hn : n < 4) (cl : stpF rc = rcF (clA rc) (rsN r)) (t18 : gl (clA rc) 21450 = 426836779880) (l1 : rsN r + 1 ≤ rsN rc) (l2 : nbN r + 1 ≤ nbN rc)
    (E : ES h1 T U e0 1 (clA rc) D l il so) (CH : CHN h1 U sc so) (hsc : ∀ a, a ∈ sc → a + 1 < tp h4 ∧ U + 10 ≤ a) (K : KD h1 (U + 1) nk par wk pk) (L : LST h1 U e0 nm fW ns fS ks1 B) (ens : ns = nsC rc) (cr : B0 ≤ B + 3 * qN (clA rc)) (hB0 : 3 * tn (gi r 1448) + 100 ≤ B0) (htp4 : tp h4 ≤ tp h1) (hU4 : U + 10 ≤ tp h4)
    (DP : ENR r R → DPR h3 R G r (rsB r) sc l il nk wk nm (nsC r) fS0) (SF : ENR r R → ∀ c, c ∈ cch R (rsB r) → SCF h1 R G c) (MB : ENR r R → ENR rc R ∧ MBO h h4 h1 U R G G1 r rc bs C ks4 ks1 fS n W ∧ (∀ b, b ∈ bs → ai R 40 b = 6 → tn (ai R 42 b) < n) ∧ ∀ j, j < n → G1 2 (4 * rsN r + j) + 4 < tp h1)
    (H1 : ∀ h' rd ks' B' ns' fS' n' X, OPE r rc X D 6 (nI n) 33 (4 * rsN r + n) → (∀ q, q = 27 ∨ q = 28 ∨ q = 29 → ai X q = ai rc q) → ai X 32 (rsN r) = nI (n + 1) → (∀ q, q = 30 ∨ q = 31 → ai X q = ai rc q ∧ al X q = al rc q) → goL D n' (stpF rc) rd → RIL rd → gi rd 1452 = -1 → gi rd 1451 = 125 → dN rd = D + 1 → ES h' T U e0 1 (clA rd) D l il so → FX (EPn T U e0 (tp h1) sc) h1 h' → LST h' U e0 nm fW ns' fS' ks' B' → ns' = nsC rd → (∀ k, k < ns → fS' k = fS k) → B0 ≤ B' + 3 * qN (clA rd) → CO h' U (tp h1) so → fP h' 30306 (tp h1) = none → (ENR r R → ENR rd R ∧ ∃ G', MBO h h4 h' U R G G' r rd (bs ++ [nbN rc]) (C ++ mpC R (rsN r) n) ks4 ks' fS' (n + 1) (W + wtC R (rsN r) n) ∧ G' 2 (4 * rsN r + n) = tp h1 ∧ CTN h' U R G' r n (nbN rc) ∧ (∀ j, j < n → G' 2 (4 * rsN r + j) = G1 2 (4 * rsN r + j)) ∧ ∀ b, b < nbN rc → G' 1 b = G1 1 b ∧ G' 4 b = G1 4 b ∧ G' 5 b = G1 5 b) → Q (some (vr (some (tp h1)))) h')
    (H2 : ∀ h' rw ks' B' ns' fS' n', goK D n' (stpF rc) rw → ¬ gi rw 1452 = -1 → ES h' T U e0 1 rw D l il so → FX (EPn T U e0 (tp h1) sc) h1 h' → LST h' U e0 nm fW ns' fS' ks' B' → (∀ k, k < ns → fS' k = fS k) → B0 + D + 1 ≤ B' + 3 * tn (gi r 1448) + 20 → tg h' (tp h1) = 4 → Q (some (vr (some (tp h1)))) h') : wp (d + 10) K_X5_takeCatch 0 [] [(0, vr (some (U + 9)))] h1 Q := by
  have d0 : 0 < dN r := by omega
  have D8 := A.d.2
  obtain ⟨a1, a2, a3, a4, a5, a6, a7, a8, a9, a10, a11⟩ := cla_v Ac ec c125 dc
  obtain ⟨st0, MY, y36, yq, yl⟩ := rc_0 Ac ec c125 dc c32 hn cl t18
  have okr : gi (stpF r) 1452 = -1 := goK_ok gk ec
  obtain ⟨A1, OS1⟩ := turn A hr okr
  obtain ⟨p1, p2, p3, ⟨p4, p4'⟩, -⟩ := id OS1
  have d1s : D ≤ dN (stpF r) := by
    have := (st_seg A hr d0 d1 (n := 0) (r' := stpF r) rfl okr).2.2.2.2.2.2.2.1
    omega
  obtain ⟨-, F1, -⟩ := frk A1 gk ec d1s
  have w1 : wN (stpF r) = wN r := by unfold wN; rw [p1]
  have wc : wN rc = wN r := F1.1.1.trans w1
  have len : gi rc 1448 = gi r 1448 := F1.1.2.2.2.2.1.trans p2
  have lenc : gi (clA rc) 1448 = gi r 1448 := a11.2.1.trans ((gi_adv rc).trans len)
  have ln := rt_len a1.1
  rw [lenc] at ln
  have sm := small A
  have smc := small Ac
  have tT : T < U := by have := E.1.2.1; omega
  have he := L.e0
  have hU : U + 9 < tp h1 := E.1.2.2.1
  have te0 : TE (advF (clA rc)) (tI (advF (clA rc)) 36 (4 * rsN r + n) 0) := TE_tI (by decide)
  have er5 : gi (advF (clA rc)) 1452 = -1 := by rw [gi_adv]; exact a2
  have RT5 := RT_adv a1.1.1
  have l5 : gi (advF (clA rc)) 1448 = gi r 1448 := by rw [gi_adv]; exact lenc
  have kw18 : lN (kwN 18) = 426836779880 := by decide +kernel
  have tk18 : tkn (clA rc) = 18 := (tk_kw a1.1 (by omega)).mpr (by rw [kw18]; exact t18)
  have qY := MY.2.2.2.2.2.2.2.2
  have qY2 : qN (advF (clA rc)) = qN (tI (advF (clA rc)) 36 (4 * rsN r + n) 0) := te0.q.symm
  have aq5 := (a1.adv_q).2 (ne_end a1.1 (by rw [t18]; decide))
  generalize tI (advF (clA rc)) 36 (4 * rsN r + n) 0 = Y at *
  obtain ⟨B, rfl⟩ : ∃ b, B = b + 10 := ⟨B - 10, by omega⟩
  -- a wrong text: what is left
  have WR : ∀ rw, ¬ gi rw 1452 = -1 → TEW rw (stpF rc) → gi rw 1448 = gi r 1448 → ∀ hx, FX (EPn T U e0 (tp h1) sc) h1 hx → ∀ h' ks' B' ns' fS', ES h' T U e0 1 rw D l il so → FX (EPn T U e0 (tp h1) sc) hx h' → LST h' U e0 nm fW ns' fS' ks' B' → (∀ k, k < ns → fS' k = fS k) → B0 + D + 1 ≤ B' + 3 * tn (gi rw 1448) + 20 → tg h' (tp h1) = 4 → Q (some (vr (some (tp h1)))) h' := by
    intro rw bad tw lw hx Xx h' ks' B' ns' fS' E' X' L' fk cr' t'
    exact H2 h' (stpF rc) ks' B' ns' fS' 0 rfl (by rw [tw.1]; exact bad) (E'.te tw) (Xx.tr X') L' fk (by rw [← lw]; exact cr') t'
  refine p_newC (d := d) (B := B + 9) E L (fun h2 E2 L2 c2 F2 N2 X2 tp2 => ?_)
  have I2 : CIP h1 h2 T U e0 sc so nk par wk pk (tp h1) (up1 (up1 (fun _ => 0) 309 (-1)) 302 (nI l)) (fun _ => 0) (up1 (up1 (fun _ => none) 30300 (some (tp h1 + 1))) 30301 so) := ⟨X2.mono (fun _ _ z => z.elim), CHN.fx X2 (fun a => ⟨fun z => z, fun z => z⟩) CH, c2, K.fx X2 (fun g z => z) (fun z => z) (fun z => z) (fun z => z) (fun z => z), F2⟩
  have c92 := E2.1.2.2.2.2.2.2.2.2.1
  rw [bk_X5_takeCatch_7, show vi 18 = vi (nI 18) from rfl]
  refine ⟨c92, p_take (d := d + 3) E2 (by omega) (fun h5 E5 w5 => ?_)⟩
  rw [decide_eq_true tk18, gT_t a2] at E5
  have c95 := E5.1.2.2.2.2.2.2.2.2.1
  simp only [psh]
  rw [bk_X5_takeCatch_11, show vi 22 = vi (nI 22) from rfl]
  refine ⟨c95, p_take (d := d + 3) E5 (by omega) (fun h6 E6 w6 => ?_)⟩
  have I6 := (I2.fx w5.ct tT he).fx w6.ct tT he
  have L6 := (L2.pw w5).pw w6
  have N6 := (N2.pw w5).pw w6
  have c96 := E6.1.2.2.2.2.2.2.2.2.1
  have s22 := tk_sign RT5 (c := 40) (by decide)
  rw [show sgT 40 = 22 from rfl] at s22
  simp only [psh]
  rw [bk_X5_takeCatch_14, nn_some, I6.2.2.1.2.2.2.1, show vi 26 = vi (nI 26) from rfl]
  refine ⟨I6.2.2.1.2.2.1, c96, ?_⟩
  by_cases z40 : tkn (advF (clA rc)) = 22
  rotate_left
  · -- no (
    rw [decide_eq_false z40, gT_f er5] at E6
    have bad : ¬ gi (faiF (advF (clA rc))) 1452 = -1 := (fai_w RT5 er5).1
    have tw : TEW (faiF (advF (clA rc))) (stpF rc) := by
      rw [st0]
      unfold rcB
      rw [if_neg (fun z => z40 (s22.mpr (te0.2.2.2.1.symm.trans z)))]
      exact fai_tew te0 er5 MY.2.1 RT5
    have lw : gi (faiF (advF (clA rc))) 1448 = gi r 1448 := by rw [gi_fai]; exact l5
    refine p_namesW (d := d + 2) (by omega) (by omega) E6 bad N6 (fun h7 k wd pc E7 N7 w7 => ?_)
    have k4 := N7.1.2.2.2.2.2.2.1
    have I7 := I6.fx w7.ct tT he
    have L7 : LST h7 U e0 nm fW ns fS ks1 (B + 9) := L6.nn w7
    simp only [psh]
    exact ctw_19 (B := B + 7 - k) HB hd (by omega) E7 bad I7.2.1 I7.2.2.1 I7.2.2.2.1 N7 (by rw [show B + 7 - k + 2 + k = B + 9 by omega]; exact L7) (by rw [lw]; omega) (by rw [lw]; exact hB0) (WR _ bad tw lw h7 (ENX_en I7.1))
  rw [decide_eq_true z40, gT_t er5] at E6
  have y40 : gi Y 1451 = 40 := te0.2.2.2.1.trans (s22.mp z40)
  have er6 : gi (advF (advF (clA rc))) 1452 = -1 := by rw [gi_adv]; exact er5
  have lY : gi Y 1448 = gi r 1448 := te0.2.1.trans l5
  have kg := (nl_keep (qc := 36) (qw := 37) (qa := 38) (i := 4 * rsN r + n) (sep := 124) (by decide) (by decide) 5 Y).2.2 1448 (by decide) (by decide) (by decide) (by decide) (by decide)
  refine p_names (d := d + 2) (qc := 36) (qw := 37) (qa := 38) (i := 4 * rsN r + n) (sep := 124) (X0 := Y) (by decide) rfl (by omega) (by omega) (by decide) (by decide) (by decide) MY.2.1 y36 E6 er6 (te0.sy.adv) N6 ?_ ?_
  rotate_left
  · -- names that are wrong
    intro h7 aw k wd pc E7 bad tw7 ok7 N7 w7
    have tw : TEW aw (stpF rc) := by
      rw [st0]
      unfold rcB
      rw [if_pos y40, if_pos ok7]
      exact tw7
    have lw : gi aw 1448 = gi r 1448 := tw7.2.2.1.symm.trans (kg.trans lY)
    have k4 := N7.1.2.2.2.2.2.2.1
    have I7 := I6.fx w7.ct tT he
    simp only [psh]
    exact ctw_19 (B := B + 7 - k) HB hd (by omega) E7 bad I7.2.1 I7.2.2.1 I7.2.2.2.1 N7 (by rw [show B + 7 - k + 2 + k = B + 9 by omega]; exact L6.nn w7) (by rw [lw]; omega) (by rw [lw]; exact hB0) (WR _ bad tw lw h7 (ENX_en I7.1))
  intro h7 aw k wd pc E7 e7 te7 ok7 N7 w7 c7 k0 k4 da
  have I7 := I6.fx w7.ct tT he
  have L7 : LST h7 U e0 nm fW ns fS ks1 (B + 9 - k + k) := by rw [show B + 9 - k + k = B + 9 by omega]; exact L6.nn w7
  have c97 := E7.1.2.2.2.2.2.2.2.2.1
  have lw : gi aw 1448 = gi r 1448 := te7.2.1.trans (kg.trans lY)
  simp only [psh]
  rw [bk_X5_takeCatch_19, nn_some, I7.2.2.1.2.2.2.1]
  refine ⟨I7.2.2.1.2.2.1, c97, p_know (d := d + 1) (by omega) (by omega) E7 I7.2.2.2.1 N7 L7 (fun h8 ks8 E8 N8 L8 pm8 x8 tp8 => ?_)⟩
  have I8 := I7.fx (x8.mono (E' := ECT T U e0 (tp h1)) (fun g z w => by
    rcases w with w | w
    · exact Or.inr (Or.inl w)
    · exact Or.inr (Or.inr (by omega)))) tT he
  have c98 := E8.1.2.2.2.2.2.2.2.2.1
  have c10 := E8.1.2.2.2.2.2.2.2.2.2.1
  have tg8 : tg h8 T = 10 := E8.2.1.1
  obtain ⟨p, hp1, hp2, hp3⟩ := E8.pl
  have pa : gi aw 1449 = nI p := by rw [← (E8.2.2.2.2 e7).1.2.1]; exact hp1
  have RT7 := (E8.2.2.2.2 e7).2
  simp only [psh]
  rw [bk_X5_takeCatch_23, c10, nn_some, hp1]
  refine ⟨c98, tg8, c98, p_takeName (d := d + 3) E8 (fun h9 x E9 w9 val => ?_)⟩
  have I9 := I8.fx w9.ct tT he
  have L9 := L8.pw w9
  have n27 := tk_name RT7
  rw [te7.okN] at n27
  have eC : stpF rc = rcC (nlF 36 37 38 (4 * rsN r + n) 124 5 Y).1 (rsN r) (4 * rsN r + n) := by
    rw [st0]
    unfold rcB
    rw [if_pos y40, if_neg (by rw [ok7]; decide)]
  simp only [psh]
  by_cases z27 : tkn aw = 27
  rotate_left
  · -- no name
    rw [decide_eq_false z27, gT_f e7] at E9
    have bad : ¬ gi (faiF aw) 1452 = -1 := (fai_w RT7 e7).1
    have tw : TEW (faiF aw) (stpF rc) := by
      rw [eC]
      unfold rcC
      have : okN (nlF 36 37 38 (4 * rsN r + n) 124 5 Y).1 = false := by
        cases y : okN (nlF 36 37 38 (4 * rsN r + n) 124 5 Y).1 with
        | true => exact absurd (n27.mpr y) z27
        | false => rfl
      rw [if_pos this]
      refine fai_tew te7.sy e7 ?_ RT7
      have := (MD_nlf (qc := 36) (qw := 37) (qa := 38) (i := 4 * rsN r + n) (sep := 124) (by decide) (by decide) (by decide) (by decide) MY (by rw [y40]; decide) y36).2 ok7
      exact this.1.2.1
    have lw2 : gi (faiF aw) 1448 = gi r 1448 := by rw [gi_fai]; exact lw
    exact ctw_30 (B := B + 7 - k) HB hd (by omega) E9 bad I9.2.1 I9.2.2.1 I9.2.2.2.1 (by rw [show B + 7 - k + 2 = B + 9 - k by omega]; exact L9) (by rw [lw2]; omega) (by rw [lw2]; exact hB0) ⟨by omega, hp3⟩ (WR _ bad tw lw2 h9 (ENX_en I9.1))
  rw [decide_eq_true z27, gT_t e7] at E9
  obtain ⟨vx, wv⟩ := val e7 z27
  have on : okN (nlF 36 37 38 (4 * rsN r + n) 124 5 Y).1 = true := n27.mp z27
  have e9 : gi (advF aw) 1452 = -1 := by rw [gi_adv]; exact e7
  have RT9 := RT_adv RT7.1
  have c99 := E9.1.2.2.2.2.2.2.2.2.1
  rw [bk_X5_takeCatch_30, nn_some, show vi 23 = vi (nI 23) from rfl]
  have xs : FX (fun g z => g = 20303 ∧ z = tp h1) h9 (setFJ h9 20303 (tp h1) x) := FX.FJ ⟨rfl, rfl⟩
  have E10 := E9.fj (f := 20303) (x := tp h1) x (by omega) (by decide)
  have L10 := LST.fj L9 (f := 20303) (x := tp h1) x (by omega) (by decide)
  have I10 : CIP h1 (setFJ h9 20303 (tp h1) x) T U e0 sc so nk par wk pk (tp h1) (up1 (up1 (fun _ => 0) 309 (-1)) 302 (nI l)) (up1 (fun _ => 0) 20303 x) (up1 (up1 (fun _ => none) 30300 (some (tp h1 + 1))) 30301 so) := ⟨I9.1.tr (xs.mono (fun g z w => Or.inr (Or.inr ⟨by omega, by omega⟩))), CHN.fx xs (fun a => ⟨fun z => by omega, fun z => by omega⟩) I9.2.1, I9.2.2.1.fx xs ⟨fun z => by omega, fun z => by omega⟩, I9.2.2.2.1.fx xs (fun g z => by omega) (fun z => by omega) (fun z => by omega) (fun z => by omega) (fun z => by omega), I9.2.2.2.2.sJ 20303 x⟩
  have c910 : tg (setFJ h9 20303 (tp h1) x) (U + 9) = 8 := c99
  have N9 := N8.fx w9.1 (fun q _ => EPW_no (by omega)) (EPW_no (by omega)) (EPW_no (by omega)) (EPW_no (by omega))
  have N10 := N9.fx xs (fun q _ z => by omega) (fun z => by omega) (fun z => by omega) (fun z => by omega)
  refine ⟨I9.2.2.1.2.2.1, c910, ?_⟩
  generalize setFJ h9 20303 (tp h1) x = h10 at *
  refine p_take (d := d + 3) E10 (by omega) (fun h11 E11 w11 => ?_)
  have I11 := I10.fx w11.ct tT he
  have L11 := L10.pw w11
  have N11 := N10.fx w11.1 (fun q _ => EPW_no (by omega)) (EPW_no (by omega)) (EPW_no (by omega)) (EPW_no (by omega))
  have s23 := tk_sign RT9 (c := 41) (by decide)
  rw [show sgT 41 = 23 from rfl] at s23
  have te9 : TE (advF aw) (namF (nlF 36 37 38 (4 * rsN r + n) 124 5 Y).1) := (te7.sy.adv).tr TE_nam
  simp only [psh]
  by_cases z23 : tkn (advF aw) = 23
  rotate_left
  · -- no )
    rw [decide_eq_false z23, gT_f e9] at E11
    have bad : ¬ gi (faiF (advF aw)) 1452 = -1 := (fai_w RT9 e9).1
    have tw : TEW (faiF (advF aw)) (stpF rc) := by
      rw [eC]
      unfold rcC
      rw [if_neg (by rw [on]; decide)]
      unfold rcD
      rw [if_neg (fun z => z23 (s23.mpr (te9.2.2.2.1.symm.trans z)))]
      refine fai_tew (te9.tr (TE_tL.tr (TE_tI (by decide)))) e9 ?_ RT9
      have := (MD_nlf (qc := 36) (qw := 37) (qa := 38) (i := 4 * rsN r + n) (sep := 124) (by decide) (by decide) (by decide) (by decide) MY (by rw [y40]; decide) y36).2 ok7
      have N5 := (this.1.nam on).2.1
      unfold rcP
      rw [gi_tI, gi_tL]; exact N5
    have lw2 : gi (faiF (advF aw)) 1448 = gi r 1448 := by rw [gi_fai, gi_adv]; exact lw
    exact ctw_34 (B := B + 7 - k) HB hd (by omega) E11 bad I11.2.1 I11.2.2.1 I11.2.2.2.1 (by rw [show B + 7 - k + 2 = B + 9 - k by omega]; exact L11) (by rw [lw2]; omega) (by rw [lw2]; exact hB0) ⟨by omega, hp3⟩ (WR _ bad tw lw2 h11 (ENX_en I11.1))
  rw [decide_eq_true z23, gT_t e9] at E11
  have y41 : gi (namF (nlF 36 37 38 (4 * rsN r + n) 124 5 Y).1) 1451 = 41 := te9.2.2.2.1.trans (s23.mp z23)
  obtain ⟨X, st, MX, teX, x32, xq, x36, x38, x37, x34, x35, x30, x31⟩ := rc_3 MY st0 y36 yq yl c32 hn y40 ok7 c7 k4 on y41
  have hi := nl_hi (qc := 36) (qw := 37) (qa := 38) (i := 4 * rsN r + n) (sep := 124) (lo := qN Y) (by decide) (by decide) (by decide) 5 0 Y MY.1.1 y36 rfl (fun j hj => by omega) (Nat.le_refl _) ok7
  rw [c7, tn_nI (by omega)] at hi
  have te11 : TE (advF (advF aw)) X := (te9.adv).tr teX
  have e11 : gi (advF (advF aw)) 1452 = -1 := by rw [gi_adv]; exact e9
  have EX := E11.te (TEW.of te11 (by rw [MX.2.1]; exact e11.symm))
  have qX := MX.2.2.2.2.2.2.2.2
  have qZX : qN (nlF 36 37 38 (4 * rsN r + n) 124 5 Y).1 ≤ qN X := by
    have b1 := te7.q
    have b2 := (rt_adv_q RT7).1
    have b3 := (rt_adv_q RT9).1
    have b4 := te11.q
    omega
  sorry
