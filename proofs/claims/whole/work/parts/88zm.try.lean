/-! try -/
theorem rsK_try (X : RV) (s : Nat) : rsK X s (lN (kwN 9)) = if gi X 1451 = 40 then (if (arF (tI X 19 s (nI 9)) s 41).2 = false then (arF (tI X 19 s (nI 9)) s 41).1 else opB (arF (tI X 19 s (nI 9)) s 41).1 26 s 5) else opB (tI X 19 s (nI 9)) 26 s 5 := by
  have e : lN (kwN 9) = 7631481 := by decide +kernel
  rw [e]; rfl
theorem opd_q {r X1 : RV} {c : Nat} {what : Int32} (d1 : ¬ gi r 1451 = 125) (M : MD r (dN r) c (rsN r + 1) X1) (O : OWN X1 what (nI (rsN r))) (n6 : ¬ what = 6) (st : stpF r = opB X1 26 (rsN r) what) (ok : gi (stpF r) 1452 = -1) : qN X1 + 1 ≤ qN (stpF r) := by
  have := (opq (q := 26) (i := rsN r) (num := 0) (v := opV X1) M (Or.inl ⟨rfl, Or.inr d1⟩) ⟨by omega, by omega⟩ O (Or.inr (Or.inl ⟨rfl, by omega⟩)) (by decide) (by decide) (fun z => absurd z n6)).1
  rw [show tI (opF X1 what (nI (rsN r)) 0) 26 (rsN r) (opV X1) = stpF r from st.symm] at this
  obtain ⟨-, -, y⟩ := this
  obtain ⟨-, y2, y3⟩ := y M.2.1
  cases zo : okO X1 with
  | false =>
    have w := y2 zo
    rw [ok, M.1.q.1] at w
    exact absurd w.symm (nI_ne_m1 (by have := M.1.q.2.1; omega))
  | true =>
    obtain ⟨-, -, y4, -⟩ := y3 zo
    rw [y4.q]
    exact (M.1.adv_q).2 (by rw [okO_123 zo]; decide)
/-- the rest of a try in a text that is wrong -/
theorem try_w19 {D d : Nat} (HB : BLC D) {h7 : AH} {Q : Option V → AH → Prop} {T U e0 l : Nat} {il : Bool} {so : Option Nat} {sc : List Nat} {rw : RV} {nk : Nat} {par : Nat → Nat} {wk : Nat → Int64} {pk : Nat → Int32} {nm ns : Nat} {fW fS : Nat → Nat} {ks : List Nat} {B B0 y : Nat} {wh : Int32} (hd : 20 * (9 - D) ≤ d + 9) (hl : l ≤ D + 1) (E : ES h7 T U e0 1 rw D l il so) (bad : ¬ gi rw 1452 = -1) (C : CHN h7 U sc so) (K : KD h7 (U + 1) nk par wk pk) (L : LST h7 U e0 nm fW ns fS ks (B + 1)) (cr : B0 + D + 1 ≤ B + 3 * tn (gi rw 1448) + 20) (hB0 : 3 * tn (gi rw 1448) + 100 ≤ B0) (hy : U + 10 ≤ y) (ty : tg h7 y = 9) (hy2 : y < tp h7) (H : ∀ h' ks' B' ns' fS', ES h' T U e0 1 rw D l il so → FX (fun g z => EPa T U e0 sc g z ∨ (g = 30809 ∧ z = y)) h7 h' → LST h' U e0 nm fW ns' fS' ks' B' → (∀ k, k < ns → fS' k = fS k) → B0 + D + 1 ≤ B' + 3 * tn (gi rw 1448) + 20 → Q none h') : wp (d + 11) K_X5_takeTry 19 [] [(0, vr (some (U + 9))), (1, vr (some y)), (2, vi wh)] h7 Q := by
  have c9 := E.1.2.2.2.2.2.2.2.2.1
  rw [bk_X5_takeTry_19]
  refine ⟨c9, ?_⟩
  refine HB (d + 10) h7 _ T U e0 l il so sc rw rw rw 0 nk par wk pk nm fW ns fS ks B B0 (fun _ _ => 0) (by omega) hl E C K L ⟨rfl, rfl, fun z => absurd z bad⟩ (fun z => absurd z bad) (fun _ => cr) hB0 (fun z => absurd z bad) (fun z => absurd z bad) ?_ ?_
  · intro _ _ _ _ _ _ _ _ z
    exact absurd z bad
  · intro h' rw' x ks' B' ns' fS' hh bad' E' X' L' fk cr' tx
    have e : gi rw' 1452 = gi rw 1452 := by
      rcases hh with ⟨-, z⟩ | ⟨z, -⟩
      · exact z
      · exact absurd z bad
    have E2 := (es_wrong E X' E' e bad).fp (f := 30809) (x := y) (some x) hy (by decide)
    have L2 := LST.fp L' (f := 30809) (x := y) (some x) hy (by decide)
    have X2 : FX (fun g z => EPa T U e0 sc g z ∨ (g = 30809 ∧ z = y)) h7 (setFP h' 30809 y (some x)) := (X'.mono (fun _ _ z => Or.inl z)).toFP _ (Or.inr ⟨rfl, rfl⟩)
    simp only [psh, bk_X5_takeTry_22, nn_some]
    refine ⟨by rw [X'.tg hy2]; exact ty, ?_⟩
    exact try_bad E2 bad (fun h5 E5 w5 => H h5 ks' B' ns' fS' E5 (X2.tr (w5.1.mono (fun _ _ z => Or.inl (EPW_a z)))) (L2.pw w5) fk cr')
theorem sc_9 {D : Nat} (HB : BLC D) : SC D 9 := by
  intro d h h3 Q T U e0 l il so sc r R nk par wk pk nm fW fS ks B B0 G hd A hr hD D0 d1 hl CH hsc K hs hn E3 L3 hU X3 t9 ⟨htp, ntg⟩ F3 cr hB0 DP H
  obtain ⟨d, rfl⟩ : ∃ j, d = j + 12 := ⟨d - 12, by have := A.d.2; omega⟩
  have d0 : 0 < dN r := by omega
  have D8 := A.d.2
  have c9 := E3.1.2.2.2.2.2.2.2.2.1
  obtain ⟨tk, k10⟩ := srt_kw hs (by omega)
  obtain ⟨p, g1, g2, g3⟩ := E3.pl
  have pq : gi r 1449 = nI p := by rw [← (E3.2.2.2.2 hr.1).1.2.1]; exact g1
  have cg := cr_ge A cr hB0
  obtain ⟨B, rfl⟩ : ∃ b, B = b + 3 := ⟨B - 3, by omega⟩
  obtain ⟨st, ne, n120⟩ := stp_kw A d0 d1 hs (by omega) hn
  rw [rsK_try] at st
  obtain ⟨M1, ho⟩ := MD_rsA (MD.start A hr.1) d0 n120
  have M2 := M1.adv (by rw [gi_rsA]; exact ne)
  have M3 : MD r (dN r) (0 + 1) (rsN r + 1) (tI (advF (rsA r)) 19 (rsN r) (nI 9)) := MDtI M2 _ _ (by decide)
  have te : TE (advF r) (tI (advF (rsA r)) 19 (rsN r) (nI 9)) := (TE_rsA.adv).tr (TE_tI (by decide))
  have er : gi (advF r) 1452 = -1 := by rw [gi_adv]; exact hr.1
  have nv := new_vals A
  have x19 : ai (tI (advF (rsA r)) 19 (rsN r) (nI 9)) 19 (rsN r) = nI 9 := by rw [ai_tI, if_pos ⟨rfl, rfl⟩]
  have xq : ∀ q, ¬ q = 19 → ai (tI (advF (rsA r)) 19 (rsN r) (nI 9)) q = ai (rsA r) q := fun q hq => by rw [ai_ne hq, ai_adv]
  have g51 : gi (advF (rsA r)) 1451 = gi (tI (advF (rsA r)) 19 (rsN r) (nI 9)) 1451 := rfl
  rw [g51] at st
  have ho3 : ∀ j, j < dN r → ¬ ai (tI (advF (rsA r)) 19 (rsN r) (nI 9)) 41 (obN (tI (advF (rsA r)) 19 (rsN r) (nI 9)) j) = nI (rsN r) := fun j hj => by
    have := ho j hj
    unfold obN at this ⊢
    rw [xq 41 (by decide), xq 46 (by decide)]; exact this
  have RT1 := RT_adv A.1.1
  have lY : gi (tI (advF (rsA r)) 19 (rsN r) (nI 9)) 1448 = gi r 1448 := M3.2.2.2.1
  rw [if_neg (by omega), bk_X5_takeStatement_47]
  refine ⟨c9, p_take E3 (by omega) (fun h4 E4 w4 => ?_)⟩
  rw [decide_eq_true tk, gT_t hr.1] at E4
  simp only [psh]
  refine st_sw (by omega) ?_
  have e : (if (9 : Nat) = 0 then 80 else swAt [68, 68, 68, 52, 57, 57, 72, 80, 63, 76] (9 - 1) 80) = 63 := rfl
  rw [e]
  generalize tI (advF (rsA r)) 19 (rsN r) (nI 9) = Y at *
  have L4 := L3.pw w4
  have t94 : tg h4 (tp h) = 9 := by rw [w4.1.tg htp]; exact t9
  have htp4 : tp h < tp h4 := by rw [w4.2.1]; exact htp
  have nt4 : tg h4 (tp h4 - 1) = 9 ∨ tg h4 (tp h4 - 1) = 109 := by rw [w4.2.1, w4.1.tg (by omega)]; exact ntg
  have F4 := F3.fx w4.1 htp (fun f hf => EPW_no (by omega))
  have X4 : FX (ENX T U e0 (tp h)) h h4 := (X3.mono (fun _ _ z => Or.inr z)).tr (w4.1.mono (fun _ _ z => Or.inl z))
  have CH4 : CHN h4 U sc so := CHN.ep CH (w4.ep (e0 := e0) (sc := sc))
  have tT : T < U := by have := E3.1.2.1; omega
  have he := L3.e0
  have K4 : KD h4 (U + 1) nk par wk pk := K.ep (w4.ep (e0 := e0) (sc := sc)) tT L3.e0 (fun a m => (hsc a m).2)
  have c94 := E4.1.2.2.2.2.2.2.2.2.1
  have hsc2 : ENR r R → ∀ c, c ∈ cch R (rsB r) → G 2 c + 1 < tp h ∧ U + 10 ≤ G 2 c := fun EN c m => by
    have P := DP EN
    exact hsc _ (by rw [P.2.2.2.1]; exact List.mem_map.mpr ⟨c, m, rfl⟩)
  have sf4 : ENR r R → ∀ c, c ∈ cch R (rsB r) → SCF h4 R G c := fun EN c m => by
    have hm2 := hsc2 EN c m
    have h33 := X3.1
    exact ((DP EN).2.2.2.2.1 c m).1.pw w4 (by omega)
  have sm := small A
  have len := rt_len A.1
  rw [bk_X5_takeStatement_63]
  refine ⟨c94, ?_⟩
  rw [bk_X5_takeTry_0]
  refine ⟨(p_newN (d := d + 10) (Q := fun _ _ => True) (wd := fun _ => 0) (pc := fun _ => 0) (B := B + 2) E4 L4 (fun _ _ _ _ _ _ => trivial)).1, (p_newN (d := d + 10) (Q := fun _ _ => True) (wd := fun _ => 0) (pc := fun _ => 0) (B := B + 2) E4 L4 (fun _ _ _ _ _ _ => trivial)).2.1, ?_⟩
  rw [bk_X5_takeTry_2, nn_some]
  refine ⟨(p_newN (d := d + 10) (Q := fun _ _ => True) (wd := fun _ => 0) (pc := fun _ => 0) (B := B + 2) E4 L4 (fun _ _ _ _ _ _ => trivial)).2.2.1, (p_newN (d := d + 10) (wd := fun _ => 0) (pc := fun _ => 0) (B := B + 2) E4 L4 (fun h5 E5 L5 N5 X5 tp5 => ?_)).2.2.2⟩
  simp only [psh, bk_X5_takeTry_4, nn_some]
  have t95 : tg h5 (tp h) = 9 := by rw [X5.tg (by omega)]; exact t94
  have c95 := E5.1.2.2.2.2.2.2.2.2.1
  refine ⟨t95, c95, ?_⟩
  have xs : FX (fun g y => g = 30811 ∧ y = tp h) h5 (setFP h5 30811 (tp h) (some (tp h4))) := FX.FP ⟨rfl, rfl⟩
  have E6 := E5.fp (f := 30811) (x := tp h) (some (tp h4)) hU (by decide)
  have L6 := LST.fp L5 (f := 30811) (x := tp h) (some (tp h4)) hU (by decide)
  have F6 := (F4.fx X5 (by omega) (fun f hf z => z)).sP 30811 (some (tp h4))
  have N6 : NDr (setFP h5 30811 (tp h) (some (tp h4))) (tp h4) 0 1 (fun _ => 0) (fun _ => 0) := ⟨N5.1.fx xs (fun q _ z => by omega) (fun z => by omega) (fun z => by omega) (fun z => by omega), fun j hj => by omega⟩
  have X46 : FX (fun g y => EPW T U g y ∨ (g = 30811 ∧ y = tp h) ∨ (tp h4 ≤ y ∧ (g = 603 ∨ g = 90001))) h4 (setFP h5 30811 (tp h) (some (tp h4))) := (X5.mono (fun _ _ z => z.elim)).tr (xs.mono (fun _ _ z => Or.inr (Or.inl z)))
  have t96 : tg (setFP h5 30811 (tp h) (some (tp h4))) (tp h) = 9 := t95
  have tp6 : tp (setFP h5 30811 (tp h) (some (tp h4))) = tp h4 + 4 := tp5
  generalize setFP h5 30811 (tp h) (some (tp h4)) = h6 at *
  -- what is common to all heaps from here on
  have CX : ∀ h7, FX (fun g y => EPW T U g y ∨ (g = 30811 ∧ y = tp h) ∨ (tp h4 ≤ y ∧ (g = 603 ∨ g = 90001))) h4 h7 → CHN h7 U sc so ∧ KD h7 (U + 1) nk par wk pk ∧ FX (EPn T U e0 (tp h) sc) h h7 ∧ (∀ a, a < tp h → fI h7 10304 a = fI h 10304 a) ∧ (ENR r R → ∀ c, c ∈ cch R (rsB r) → SCF h7 R G c) := fun h7 x => by
    have no : ∀ g y, ¬ (g = 903 ∨ g = 904 ∨ g = 905 ∨ g = 20906 ∨ g = 702) → ¬ g = 30811 → y < tp h4 ∨ (¬ g = 603 ∧ ¬ g = 90001) → ¬ (EPW T U g y ∨ (g = 30811 ∧ y = tp h) ∨ (tp h4 ≤ y ∧ (g = 603 ∨ g = 90001))) := fun g y h1 h2 h3 w => by
      rcases w with w | w | w
      · exact EPW_no h1 w
      · omega
      · omega
    have hU4 : U + 9 < tp h4 := E4.1.2.2.1
    refine ⟨CHN.fx x (fun a => ⟨no _ _ (by omega) (by omega) (by omega), no _ _ (by omega) (by omega) (by omega)⟩) CH4, K4.fx x (fun g w => ?_) (no _ _ (by omega) (by omega) (by omega)) (no _ _ (by omega) (by omega) (by omega)) (no _ _ (by omega) (by omega) (by omega)) (no _ _ (by omega) (by omega) (by omega)), (ENX_en X4).tr (x.mono (fun g y w => ?_)), fun a ha => ?_, fun EN c m => ?_⟩
    · rcases w with w | w | w
      · rcases w with w | w
        · have := w.1; omega
        · omega
      · omega
      · omega
    · rcases w with w | w | w
      · exact Or.inl (EPW_a w)
      · exact Or.inr ⟨by omega, by omega⟩
      · exact Or.inr ⟨by omega, by omega⟩
    · rw [x.fI (by omega) (no _ _ (by omega) (by omega) (by omega))]
      exact X4.fI (by omega) (ENX_set (by omega))
    · have hm2 := hsc2 EN c m
      exact (sf4 EN c m).fx x (by omega) ⟨no _ _ (by omega) (by omega) (by omega), no _ _ (by omega) (by omega) (by omega), no _ _ (by omega) (by omega) (by omega)⟩
  -- a wrong text
  have TW : ∀ h7 rw wh b, ES h7 T U e0 1 rw D l il so → ¬ gi rw 1452 = -1 → TEW rw (stpF r) → gi rw 1448 = gi r 1448 → FX (fun g y => EPW T U g y ∨ (g = 30811 ∧ y = tp h) ∨ (tp h4 ≤ y ∧ (g = 603 ∨ g = 90001))) h4 h7 → LST h7 U e0 nm fW (nsC r + 1) (up1 fS (nsC r) (tp h)) ks (b + 1) → B + 1 ≤ b → tg h7 (tp h) = 9 → wp (d + 11) K_X5_takeTry 19 [] [(0, vr (some (U + 9))), (1, vr (some (tp h))), (2, vi wh)] h7 (fun v h1 => wp (d + 12) K_X5_takeStatement 66 (psh v []) [(0, vr (some (U + 9))), (1, vi (nI 9)), (2, vr (some (tp h)))] h1 Q) := by
    intro h7 rw wh b E7 bad tw lw X7 L7 hb t7
    obtain ⟨x1, x2, x3, x4, x5⟩ := CX h7 X7
    have tp7 := X7.1
    refine try_w19 (B := b) (B0 := B0) HB (by omega) (by omega) E7 bad x1 x2 L7 (by rw [lw]; omega) (by rw [lw]; exact hB0) hU t7 (by omega) (fun h' ks' B' ns' fS' E' X' L' fk cr' => ?_)
    simp only [psh, bk_X5_takeStatement_66]
    have bad2 : ¬ gi (stpF r) 1452 = -1 := by rw [tw.1]; exact bad
    have tp' := X'.1
    have XX : FX (EPn T U e0 (tp h) sc) h h' := x3.tr (X'.mono (fun g y w => by
      rcases w with w | w
      · exact Or.inl w
      · exact Or.inr ⟨by omega, by omega⟩))
    refine H h' (stpF r) ks' B' ns' fS' 0 rfl (E'.te tw) (EPn_end XX) L' (fun k hk => ?_) (fun z => absurd z bad2) (fun _ => by rw [lw] at cr'; omega) ⟨by rw [X'.tg (by omega)]; exact t7, by omega⟩ (fun EN => absurd (EN.step hr).right bad2)
    rw [fk k (by omega)]
    unfold up1; rw [if_neg (by omega)]
  -- the blocks
  have TB : ∀ h7 X1 c kn wd pc wh b, MD r (dN r) c (rsN r + 1) X1 → 1 + 2 * kn ≤ c → stpF r = opB X1 26 (rsN r) 5 → (∀ q, ¬ q = 29 → ¬ q = 31 → ai X1 q = ai Y q) → ai X1 29 (rsN r) = nI kn → kn ≤ 4 → (∀ j, j < kn → wd j = conv (al X1 30 (4 * rsN r + j)) ∧ WV (al X1 30 (4 * rsN r + j)) ∧ pc j = ai X1 31 (4 * rsN r + j)) → ES h7 T U e0 1 X1 D l il so → FX (fun g y => EPW T U g y ∨ (g = 30811 ∧ y = tp h) ∨ (tp h4 ≤ y ∧ (g = 603 ∨ g = 90001))) h4 h7 → tp h7 = tp h4 + 4 → LST h7 U e0 nm fW (nsC r + 1) (up1 fS (nsC r) (tp h)) ks (b + 1) → B + 1 ≤ b → NDr h7 (tp h4) kn 1 wd pc → FO h7 8 (tp h) (vS0 (nI 9) (gi r 1449) (nI nm - 1) (nI l)) (fun _ => 0) (up1 (fun _ => none) 30811 (some (tp h4))) → tg h7 (tp h) = 9 → (wh = 0 ↔ kn = 0) → wp (d + 11) K_X5_takeTry 19 [] [(0, vr (some (U + 9))), (1, vr (some (tp h))), (2, vi wh)] h7 (fun v h1 => wp (d + 12) K_X5_takeStatement 66 (psh v []) [(0, vr (some (U + 9))), (1, vi (nI 9)), (2, vr (some (tp h)))] h1 Q) := by
    intro h7 X1 c kn wd pc wh b M hc st x1q x29 kn4 xd E7 X7 tp7 L7 hb N7 F7 t7 hwh
    obtain ⟨x1, x2, x3, x4, x5⟩ := CX h7 X7
    have c97 := E7.1.2.2.2.2.2.2.2.2.1
    have x119 : ai X1 19 (rsN r) = nI 9 := by rw [x1q 19 (by decide) (by decide)]; exact x19
    have ow : OWN X1 5 (nI (rsN r)) := own_of M (by decide) (by rw [x1q 32 (by decide) (by decide), xq 32 (by decide), (nv 32).2.2 (by omega)]; exact ⟨rfl, by decide⟩) (fun z => absurd z (by decide)) (by rw [x1q 41 (by decide) (by decide), xq 41 (by decide)]) (by rw [x1q 46 (by decide) (by decide), xq 46 (by decide)]) ho
    have qX := M.2.2.2.2.2.2.2.2
    have HF : ∀ h' r' ks' B' ns' fS' n, goK D n (stpF r) r' → ES h' T U e0 1 r' D l il so → FX (EPa T U e0 sc) h h' → LST h' U e0 nm fW ns' fS' ks' B' → (∀ k, k < nsC r → fS' k = fS k) → (gi r' 1452 = -1 → ns' = nsC r' ∧ nsC r < ns' ∧ B0 ≤ B' + 3 * qN r' ∧ dN r' = D) → (¬ gi r' 1452 = -1 → B0 + D ≤ B' + 3 * tn (gi r 1448) + 20) → (tg h' (tp h) = 9 ∧ tp h < tp h') → (ENR r R → ENR r' R ∧ ∃ G', DPO h h' U R G G' r r' (tp h) ks ks' fS') → wp (d + 12) K_X5_takeStatement 66 (psh none []) [(0, vr (some (U + 9))), (1, vi (nI 9)), (2, vr (some (tp h)))] h' Q := by
      intro h' r' ks' B' ns' fS' n a1 a2 a3 a4 a5 a6 a7 a8 a9
      simp only [psh, bk_X5_takeStatement_66]
      exact H h' r' ks' B' ns' fS' n a1 a2 a3 a4 a5 a6 a7 a8 a9
    rw [bk_X5_takeTry_19]
    refine ⟨c97, st_block (d := d + 10) (R := R) (h := h) (h3 := h3) (G := G) (wk := wk) (l := l) (il := il) (fS := fS) (what := 5) HB (by omega) A hr hD D0 d1 (by omega) M ow (by decide) (by decide) st E7 x1 x2 L7 (by omega) hB0 (by rw [if_neg (by decide), Nat.zero_add]) (by rw [if_neg (by decide), if_neg (by decide)]) DP x5 ?_ ?_⟩
    · intro h' rc x ks' B' ns' fS' n OD g Ac ec c125 dc Ec Xc Lc ens fk crc tx BP
      obtain ⟨q1, q2, q3, q4, q5, q6, q7, q8, q9, q10, q11, q12⟩ := id OD
      obtain ⟨z1, z2, z3, OW, FC⟩ := cls_v hD q2 q4 q5 q6 q7 q8 q9 g ec dc sm.1
      have l1 : rsN r + 1 ≤ rsN rc := by have := FC.1.2.1; omega
      have l2 : nbN r + 1 ≤ nbN rc := by have := FC.1.2.2.1; omega
      have w3 : wN (stpF r) = wN r := by unfold wN; rw [q3.1]
      have o41 : ai rc 41 (rsB rc) = nI (rsN r) := by
        rw [z1, FC.2.2.1 41 _ (by omega) (by omega) (by omega)]; exact q9
      have htp' : tp h7 ≤ tp h' := Xc.1
      have t9' : tg h' (tp h) = 9 := by rw [Xc.tg (by omega)]; exact t7
      obtain ⟨Gm, hG⟩ : ∃ Gm, ENR r R → ENR rc R ∧ MBO h h7 h' U R G Gm r rc [nbN r] [] ks ks' fS' 0 (2 * kn) ∧ Gm 1 (nbN r) = x := by
        by_cases EN : ENR r R
        · obtain ⟨ENc, G', bp, cc⟩ := BP EN
          have P := pbo_1 q2 q4 q5 q6 q7 q9 g ec Ac ENc
          have hq := opd_q d1 M ow (by decide) st q1
          obtain ⟨m1, m2⟩ := mbo_1 (W := 2 * kn) bp q7 q6 w3 l1 l2 cc (by omega) P
          exact ⟨G', fun _ => ⟨ENc, m1, m2⟩⟩
        · exact ⟨fun _ _ => 0, fun z => absurd z EN⟩
      have E2 := Ec.fp (f := 30809) (x := tp h) (some x) hU (by decide)
      have L2 := LST.fp Lc (f := 30809) (x := tp h) (some x) hU (by decide)
      have F2 := (F7.fx Xc (by omega) (fun f hf => EPa_no (by omega))).sP 30809 (some x)
      have xs : FX (fun g y => g = 30809 ∧ y = tp h) h' (setFP h' 30809 (tp h) (some x)) := FX.FP ⟨rfl, rfl⟩
      have t92 : tg (setFP h' 30809 (tp h) (some x)) (tp h) = 9 := t9'
      have nt2 : tg (setFP h' 30809 (tp h) (some x)) (tp h4 - 1) = 9 ∨ tg (setFP h' 30809 (tp h) (some x)) (tp h4 - 1) = 109 := by
        show tg h' _ = _ ∨ tg h' _ = _
        rw [Xc.tg (by omega), X7.tg (by omega)]; exact nt4
      have tp2 : tp (setFP h' 30809 (tp h) (some x)) = tp h' := rfl
      simp only [psh, bk_X5_takeTry_22, nn_some]
      refine ⟨t9', ?_⟩
      generalize setFP h' 30809 (tp h) (some x) = h2 at *
      have tl : ∀ q, q = 27 ∨ q = 28 ∨ q = 29 ∨ q = 32 → ai rc q (rsN r) = ai X1 q (rsN r) := fun q hq => by
        rw [OW.1 q hq, (q12 q (by omega) (by omega)).1]
      refine try_loop HB (x := x) (kn := kn) (N := tp h4) (wd := wd) (pc := pc) (h4 := h7) (X1 := X1) (h3 := h3) (R := R) (G := G) (fS := fS) (ks := ks) (nk := nk) (par := par) (wk := wk) (pk := pk) (B0 := B0) (nm := nm) (fW := fW) (by omega) A hr hD D0 d1 hl hsc hU (by omega) hB0 ⟨p, pq, by omega, by omega⟩ DP OD x119 kn4 (by omega) xd (fun EN c m => x4 _ (by have := hsc2 EN c m; omega)) HF 4 0 rfl h2 rc ks' B' ns' fS' n wh none (up1 (up1 (fun _ => none) 30811 (some (tp h4))) 30809 (some x)) Gm ⟨⟨goL_K g, Ac, ec, c125, dc, o41, by rw [if_pos rfl]; exact z2, l1, l2⟩, ⟨⟨?_, ?_, ?_, ?_⟩, fun q j hq hj => ?_⟩, ⟨E2, ?_, by omega, ?_, ?_, ⟨?_, N7.2⟩, F2, t92, nt2⟩, ⟨L2, ens, fk, crc⟩, ⟨⟨fun z => ⟨rfl, hwh.mp z⟩, fun z => hwh.mpr z.2⟩, Or.inl ⟨rfl, rfl⟩⟩, ⟨⟨rfl, rfl, rfl, rfl, rfl⟩, fun _ => rfl, fun z => by omega⟩, fun EN => ?_⟩
      · rw [tl 27 (by omega), x1q 27 (by decide) (by decide), xq 27 (by decide)]; exact (nv 27).2.1 (by omega)
      · rw [tl 28 (by omega), x1q 28 (by decide) (by decide), xq 28 (by decide)]; exact (nv 28).2.1 (by omega)
      · rw [tl 29 (by omega)]; exact x29
      · rw [tl 32 (by omega), x1q 32 (by decide) (by decide), xq 32 (by decide)]; exact (nv 32).2.2 (by omega)
      · obtain ⟨s3, s4⟩ := OW.2 q j hq hj
        exact ⟨by rw [s3, (q12 q (by omega) (by omega)).1], by rw [s4, (q12 q (by omega) (by omega)).2]⟩
      · exact (x3.tr (EPa_en Xc)).tr (xs.mono (fun g y z => Or.inr ⟨by omega, by omega⟩))
      · exact CHN.fx xs (fun a => ⟨fun z => by omega, fun z => by omega⟩) (CHN.ep x1 Xc)
      · exact (x2.ep Xc tT he (fun a m => (hsc a m).2)).fx xs (fun g z => by omega) (fun z => by omega) (fun z => by omega) (fun z => by omega) (fun z => by omega)
      · exact (N7.1.ep Xc).fx xs (fun q _ z => by omega) (fun z => by omega) (fun z => by omega) (fun z => by omega)
      · obtain ⟨ENc, m1, m2⟩ := hG EN
        have m3 := mbo_fx m1 xs (fun g y h1 h2 z => by omega) (fun c m => by
          have := hsc2 EN c m
          exact ⟨by omega, fun z => by omega⟩) CTK.rf htp'
        refine ⟨fun c m => ?_, ENc, m3, fun i hi => by omega, m2⟩
        have := hsc2 EN c m
        exact ((x5 EN c m).fx Xc (by omega) ⟨EPa_no (by omega), EPa_no (by omega), EPa_no (by omega)⟩).fx xs (by omega) ⟨fun z => by omega, fun z => by omega, fun z => by omega⟩
    · intro h' rw x ks' B' ns' fS' n gk bad Ew Xw Lw fk crw tx
      have t9' : tg h' (tp h) = 9 := by rw [Xw.tg (by omega)]; exact t7
      have htp' : tp h7 ≤ tp h' := Xw.1
      have E2 := Ew.fp (f := 30809) (x := tp h) (some x) hU (by decide)
      have L2 := LST.fp Lw (f := 30809) (x := tp h) (some x) hU (by decide)
      simp only [psh, bk_X5_takeTry_22, nn_some]
      refine ⟨t9', ?_⟩
      refine try_bad E2 bad (fun h5 E5 w5 => ?_)
      exact HF h5 rw ks' B' ns' fS' n gk E5 (EPn_end (((x3.tr (EPa_en Xw)).toFP _ (Or.inr ⟨Nat.le_refl _, by decide⟩)).tr (w5.1.mono (fun _ _ z => Or.inl (EPW_a z))))) (L2.pw w5) fk (fun z => absurd z bad) (fun _ => by omega) ⟨by rw [w5.1.tg (by show tp h < tp h'; omega)]; exact t9', by rw [w5.2.1]; show tp h < tp h'; omega⟩ (fun EN => absurd ((EN.step hr).go (goK_N gk)).right bad)
  have s22 := tk_sign RT1 (c := 40) (by decide)
  rw [show sgT 40 = 22 from rfl] at s22
  rw [show vi 22 = vi (nI 22) from rfl]
  refine p_skip (d := d + 4) E6 (by omega) (fun _ t22 h8 E8 w8 => ?_) (fun n22 => ?_)
  · -- names in ( )
    have y40 : gi Y 1451 = 40 := te.2.2.2.1.trans (s22.mp t22)
    rw [if_pos y40] at st
    have er2 : gi (advF (advF r)) 1452 = -1 := by rw [gi_adv]; exact er
    have N8 := N6.pw w8
    have L8 := L6.pw w8
    have F8 := F6.fx w8.1 (by omega) (fun f hf => EPW_no (by omega))
    have X48 := X46.tr (w8.1.mono (fun _ _ z => Or.inl z))
    have t98 : tg h8 (tp h) = 9 := by rw [w8.1.tg (by omega)]; exact t96
    have c98 := E8.1.2.2.2.2.2.2.2.2.1
    have y29 : ai Y 29 (rsN r) = nI 0 := by rw [xq 29 (by decide)]; exact (nv 29).2.2 (by omega)
    have p8 : fP h8 30811 (tp h) = some (tp h4) := (F8 30811 (by decide)).2.2.trans (if_pos rfl)
    have kg := (nl_keep (qc := 29) (qw := 30) (qa := 31) (i := rsN r) (sep := 44) (by decide) (by decide) 5 Y).2
    have mz := MD_nl29 (sep := 44) (s := rsN r) (by decide) M3 ho3 (by rw [y40]; decide) y29
    simp only [psh]
    rw [bk_X5_takeTry_8]
    refine ⟨fun z => absurd z (by decide), fun _ => ?_⟩
    rw [bk_X5_takeTry_11, nn_some, p8, show vi 25 = vi (nI 25) from rfl]
    refine ⟨t98, c98, p_names (d := d + 3) (qc := 29) (qw := 30) (qa := 31) (i := rsN r) (sep := 44) (X0 := Y) (by decide) rfl (by omega) (by omega) (by decide) (by decide) (by decide) M3.2.1 y29 E8 er2 (te.sy.adv) N8 ?_ ?_⟩
    · intro h9 aw k wd pc E9 e9 te9 ok9 N9 w9 c9' k0 k4 da
      have MZ := (mz.2 ok9).1.1
      rw [c9', tn_nI (by omega)] at MZ
      have zq := kg.1
      have lw : gi aw 1448 = gi r 1448 := te9.2.1.trans ((kg.2 1448 (by decide) (by decide) (by decide) (by decide) (by decide)).trans lY)
      unfold arF at st
      rw [if_neg (show ¬ (nlF 29 30 31 (rsN r) 44 5 Y).2 = false by rw [ok9]; decide)] at st
      generalize (nlF 29 30 31 (rsN r) 44 5 Y).1 = Z at *
      have X49 := X48.tr (w9.1.mono (E' := fun g y => EPW T U g y ∨ (g = 30811 ∧ y = tp h) ∨ (tp h4 ≤ y ∧ (g = 603 ∨ g = 90001))) (fun g z w => by
        rcases w with w | w
        · exact Or.inl w
        · unfold Jvm.Pilot.CThrowRulesLaw_law_r5179_b2991a.EN at w
          exact Or.inr (Or.inr (by omega))))
      have tp9 := w9.2.1
      have tp8 := w8.2.1
      have L9 := L8.nn w9
      have n9 : ∀ g, g / 100 % 100 = 8 → ¬ ENN T U (tp h4) g (tp h) := fun g hg z => by
        rcases z with z | z
        · exact EPW_no (by omega) z
        · unfold Jvm.Pilot.CThrowRulesLaw_law_r5179_b2991a.EN at z
          omega
      have F9 := F8.fx w9.1 (by omega) n9
      have t99 : tg h9 (tp h) = 9 := by rw [w9.1.tg (by omega)]; exact t98
      have RT9 := (E9.2.2.2.2 e9).2
      have s23 := tk_sign RT9 (c := 41) (by decide)
      rw [show sgT 41 = 23 from rfl] at s23
      simp only [psh]
      rw [bk_X5_takeTry_16, show vi 23 = vi (nI 23) from rfl]
      refine ⟨E9.1.2.2.2.2.2.2.2.2.1, p_take (d := d + 4) E9 (by omega) (fun h10 E10 w10 => ?_)⟩
      have X410 := X49.tr (w10.1.mono (fun _ _ z => Or.inl z))
      have t910 : tg h10 (tp h) = 9 := by rw [w10.1.tg (by omega)]; exact t99
      have L10 := L9.pw w10
      simp only [psh]
      by_cases z23 : tkn aw = 23
      · rw [decide_eq_true z23, gT_t e9] at E10
        have y41 : gi Z 1451 = 41 := te9.2.2.2.1.symm.trans (s23.mp z23)
        have tz : takF Z 41 = advF Z := by unfold takF; rw [if_pos y41]
        rw [tz] at st
        rw [if_neg (by rw [decide_eq_true y41]; exact fun z => Bool.noConfusion z)] at st
        have M1' := MZ.adv (by rw [y41]; decide)
        have e10 : gi (advF aw) 1452 = -1 := by rw [gi_adv]; exact e9
        have te10 : TE (advF aw) (advF Z) := te9.sy.adv
        refine TB h10 (advF Z) _ k wd pc 1 (B + 1) M1' (by omega) st (fun q h1 h2 => by rw [ai_adv, zq q h1 h2]) (by rw [ai_adv]; exact c9') k4 (fun j hj => ?_) (E10.te (TEW.of te10 (by rw [M1'.2.1]; exact e10.symm))) X410 (by have := w10.2.1; omega) L10 (Nat.le_refl _) (N9.pw w10) (F9.fx w10.1 (by omega) (fun f hf => EPW_no (by omega))) t910 ⟨fun z => absurd z (by decide), fun z => by omega⟩
        obtain ⟨b1, b2, b3⟩ := da j hj
        rw [al_adv, ai_adv]
        exact ⟨b1, b2, b3⟩
      · rw [decide_eq_false z23, gT_f e9] at E10
        have n41 : ¬ gi Z 1451 = 41 := fun y => z23 (s23.mpr (te9.2.2.2.1.trans y))
        have tz : takF Z 41 = faiF Z := by unfold takF; rw [if_neg n41]
        rw [tz] at st
        rw [if_pos (decide_eq_false n41)] at st
        refine TW h10 (faiF aw) 1 (B + 1) E10 (fai_w RT9 e9).1 ?_ (by rw [gi_fai]; exact lw) X410 L10 (Nat.le_refl _) t910
        rw [st]
        exact fai_tew te9.sy e9 MZ.2.1 RT9
    · intro h9 aw k wd pc E9 bad tw9 ok9 N9 w9
      have lw : gi aw 1448 = gi r 1448 := tw9.2.2.1.symm.trans ((kg.2 1448 (by decide) (by decide) (by decide) (by decide) (by decide)).trans lY)
      unfold arF at st
      rw [if_pos ok9] at st
      rw [if_pos rfl] at st
      have X49 := X48.tr (w9.1.mono (E' := fun g y => EPW T U g y ∨ (g = 30811 ∧ y = tp h) ∨ (tp h4 ≤ y ∧ (g = 603 ∨ g = 90001))) (fun g z w => by
        rcases w with w | w
        · exact Or.inl w
        · unfold Jvm.Pilot.CThrowRulesLaw_law_r5179_b2991a.EN at w
          exact Or.inr (Or.inr (by omega))))
      have L9 := L8.nn w9
      have tp8 := w8.2.1
      have t99 : tg h9 (tp h) = 9 := by rw [w9.1.tg (by omega)]; exact t98
      simp only [psh]
      rw [bk_X5_takeTry_16, show vi 23 = vi (nI 23) from rfl]
      refine ⟨E9.1.2.2.2.2.2.2.2.2.1, p_take (d := d + 4) E9 (by omega) (fun h10 E10 w10 => ?_)⟩
      rw [gT_w bad] at E10
      simp only [psh]
      exact TW h10 aw 1 (B + 1) E10 bad (by rw [st]; exact tw9) lw (X49.tr (w10.1.mono (fun _ _ z => Or.inl z))) (L9.pw w10) (Nat.le_refl _) (by rw [w10.1.tg (by have := w9.2.1; omega)]; exact t99)
  · -- no ( )
    have n40 : ¬ gi Y 1451 = 40 := fun z => n22 er (s22.mpr (te.2.2.2.1.symm.trans z))
    rw [if_neg n40] at st
    simp only [psh]
    rw [bk_X5_takeTry_8]
    refine ⟨fun _ => ?_, fun z => absurd rfl z⟩
    refine TB h6 Y _ 0 (fun _ => 0) (fun _ => 0) 0 (B + 1) M3 (by omega) st (fun q _ _ => rfl) (by rw [xq 29 (by decide)]; exact (nv 29).2.2 (by omega)) (by omega) (fun j hj => by omega) (E6.te (TEW.of te (by rw [M3.2.1]; exact er.symm))) X46 tp6 L6 (Nat.le_refl _) N6 F6 t96 ⟨fun _ => rfl, fun _ => rfl⟩
