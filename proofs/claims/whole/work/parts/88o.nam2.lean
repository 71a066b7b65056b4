/-! throw, set: behind the name -/
theorem rsK_nam (X : RV) (s : Nat) {k : Nat} (hk : k = 2 ∨ k = 3) : rsK X s (lN (kwN k)) = if okN X = false then faiF (tI X 19 s (nI k)) else takF (rsW (namF (tI X 19 s (nI k))) s) 59 := by
  rcases hk with hk | hk <;> subst hk
  · have e : lN (kwN 2) = 499968536439 := by decide +kernel
    rw [e]; rfl
  · have e : lN (kwN 3) = 7562612 := by decide +kernel
    rw [e]; rfl
theorem stp_nam {r : RV} (A : RIL r) (d0 : 0 < dN r) (d1 : ¬ gi r 1451 = 125) {k : Nat} (hk : k = 2 ∨ k = 3) (hs : srt r = some k) (hn : nsC r < 120) : stpF r = if okN (advF (rsA r)) = false then faiF (tI (advF (rsA r)) 19 (rsN r) (nI k)) else takF (rsW (namF (tI (advF (rsA r)) 19 (rsN r) (nI k))) (rsN r)) 59 := by
  rw [(stp_kw A d0 d1 hs (by omega) hn).1, rsK_nam _ _ hk]
theorem TE_rsW {X : RV} {s : Nat} : TE X (rsW X s) := TE_tL.tr (TE_tI (by decide))
theorem sc_ntail {D k : Nat} (hk : k = 1 ∨ k = 2 ∨ k = 3) {d : Nat} {h h3 h5 : AH} {Q : Option V → AH → Prop} {T U e0 l : Nat} {il : Bool} {so : Option Nat} {sc : List Nat} {r R : RV} {nm : Nat} {fW fS : Nat → Nat} {ks ks5 : List Nat} {B B0 : Nat} {G : Nat → Nat → Nat} {nk pn : Nat} {wk : Nat → Int64} {v' : Nat → Int32} {y : Int64} {o : Option Nat} (hd : 7 ≤ d) (A : RIL r) (hr : rng r) (hD : dN r = D) (D0 : 0 < D) (d1 : ¬ gi r 1451 = 125) (hs : srt r = some k) (hn : nsC r < 120) (st : stpF r = if okN (advF (rsA r)) = false then faiF (tI (advF (rsA r)) 19 (rsN r) (nI k)) else takF (rsW (namF (tI (advF (rsA r)) 19 (rsN r) (nI k))) (rsN r)) 59)
    (E5 : ES h5 T U e0 1 (gT (decide (tkn (advF r) = 27)) (advF r)) D l il so) (L5 : LST h5 U e0 nm fW (nsC r + 1) (up1 fS (nsC r) (tp h)) ks5 B) (hU : U + 10 ≤ tp h) (X5 : FX (EPn T U e0 (tp h) sc) h h5) (t9 : tg h5 (tp h) = 9) (htp : tp h < tp h5) (F5 : FO h5 8 (tp h) v' (up1 (fun _ => 0) 20805 y) (up1 (fun _ => none) 30808 o))
    (hv : ∀ f, ¬ f = 806 → ¬ f = 807 → v' f = vS0 (nI k) (gi r 1449) (nI nm - 1) (nI l) f) (v6 : v' 806 = nI pn) (p1 : 0 < pn) (p2 : pn ≤ 2000) (hpn : gi (advF r) 1449 = nI pn) (hy : gi (advF r) 1452 = -1 → tkn (advF r) = 27 → y = conv (gl (advF r) 21450) ∧ WV (gl (advF r) 21450)) (pp : plp (gi r 1449)) (cr : B0 ≤ B + 3 + 3 * qN r)
    (DP : ENR r R → DPR h3 R G r (rsB r) sc l il nk wk nm (nsC r) fS)
    (DQ : ENR r R → tkn (advF r) = 27 → ENR (stpF r) R → RIL (stpF r) → pn < qN (stpF r) → nkN (stpF r) = nkN r → ai R 19 (rsN r) = nI k → al R 24 (rsN r) = gl (advF r) 21450 → ai R 25 (rsN r) = nI pn → ai R 21 (rsN r) = nI (rsB r) → rsB r < nbN r → nbN r ≤ nbN R → wN R = wN r → v' 807 = (if ai R 19 (rsN r) = 2 ∧ prS R (rsN r) = none then oI (kN R (wN R) (nkN R) (al R 24 (rsN r)) (ai R 25 (rsN r))) else -1) ∧ o = (if ai R 19 (rsN r) = 2 ∨ ai R 19 (rsN r) = 3 then (prS R (rsN r)).map (G 2) else none) ∧ CTK ks5 (mpS R (rsN r)) ks ∧ ∀ c, c ∈ cch R (rsB r) → fI h5 10304 (G 2 c) = (if stR R (rsN r) (rsN r + 1) c then 1 else fI h 10304 (G 2 c)))
    (hsc : ∀ a, a ∈ sc → a + 1 < tp h ∧ U + 10 ≤ a)
    (H : ∀ h' r' ks' B' ns' fS' n, goK D n (stpF r) r' → ES h' T U e0 1 r' D l il so → FX (EPa T U e0 sc) h h' → LST h' U e0 nm fW ns' fS' ks' B' → (∀ k, k < nsC r → fS' k = fS k) → (gi r' 1452 = -1 → ns' = nsC r' ∧ nsC r < ns' ∧ B0 ≤ B' + 3 * qN r' ∧ dN r' = D) → (¬ gi r' 1452 = -1 → B0 + D ≤ B' + 3 * tn (gi r 1448) + 20) → (tg h' (tp h) = 9 ∧ tp h < tp h') → (ENR r R → ENR r' R ∧ ∃ G', DPO h h' U R G G' r r' (tp h) ks ks' fS') → Q (some (vr (some (tp h)))) h') :
    wp d K_X5_takeStatement 71 [] [(0, vr (some (U + 9))), (1, vi (nI k)), (2, vr (some (tp h)))] h5 Q := by
  obtain ⟨d, rfl⟩ : ∃ j, d = j + 7 := ⟨d - 7, by omega⟩
  have d0 : 0 < dN r := by omega
  have D8 := A.d.2
  obtain ⟨-, ne, n120⟩ := stp_kw A d0 d1 hs (by omega) hn
  obtain ⟨M1, ho⟩ := MD_rsA (MD.start A hr.1) d0 n120
  have M2 := M1.adv (by rw [gi_rsA]; exact ne)
  have M3 : MD r (dN r) (0 + 1) (rsN r + 1) (tI (advF (rsA r)) 19 (rsN r) (nI k)) := MDtI M2 _ _ (by decide)
  have te : TE (advF r) (tI (advF (rsA r)) 19 (rsN r) (nI k)) := (TE_rsA.adv).tr (TE_tI (by decide))
  have er : gi (advF r) 1452 = -1 := by rw [gi_adv]; exact hr.1
  have RT1 := RT_adv A.1.1
  have q1 : qN r < qN (advF r) := (A.adv_q).2 ne
  have c9 := E5.1.2.2.2.2.2.2.2.2.1
  have okX : okN (advF (rsA r)) = decide (tkn (advF r) = 27) := by
    have e1 : okN (advF (rsA r)) = okN (advF r) := (TE_rsA.adv).okN
    rw [e1]
    cases z : okN (advF r) with
    | true => exact (decide_eq_true ((tk_name RT1).mpr z)).symm
    | false => exact (decide_eq_false (fun w => by rw [(tk_name RT1).mp w] at z; cases z)).symm
  rw [bk_X5_takeStatement_71, bk_X5_takeStatement_80]
  refine ⟨c9, ?_⟩
  rw [show vi 24 = vi (nI 24) from rfl]
  refine p_take E5 (by omega) (fun h6 E6 w6 => ?_)
  simp only [psh, bk_X5_takeStatement_83]
  have X6 : FX (EPn T U e0 (tp h) sc) h h6 := X5.tr (w6.1.mono (fun _ _ z => Or.inl (EPW_a z)))
  have F6 := F5.fx w6.1 htp (fun f hf => EPW_no (by omega))
  have t96 : tg h6 (tp h) = 9 := by rw [w6.1.tg htp]; exact t9
  have htp6 : tp h < tp h6 := by rw [w6.2.1]; exact htp
  have fk : ∀ j, j < nsC r → up1 fS (nsC r) (tp h) j = fS j := fun j hj => by unfold up1; rw [if_neg (by omega)]
  by_cases nmd : tkn (advF r) = 27
  · -- a name
    rw [okX, decide_eq_true nmd, if_neg (by decide)] at st
    rw [decide_eq_true nmd, gT_t er] at E6
    have eX3 : okN (tI (advF (rsA r)) 19 (rsN r) (nI k)) = true := by
      show okN (advF (rsA r)) = true
      rw [okX]; exact decide_eq_true nmd
    have N1 := M3.nam eX3
    have N2 : MD r (dN r) (0 + 1 + 1) (rsN r + 1) (rsW (namF (tI (advF (rsA r)) 19 (rsN r) (nI k))) (rsN r)) := MDtI (MDtL N1 _ _ _) _ _ (by decide)
    have te2 : TE (advF (advF r)) (rsW (namF (tI (advF (rsA r)) 19 (rsN r) (nI k))) (rsN r)) := (te.adv).tr (TE_nam.tr TE_rsW)
    have er2 : gi (advF (advF r)) 1452 = -1 := by rw [gi_adv]; exact er
    have RT2 := RT_adv RT1.1
    obtain ⟨tw, ok⟩ := tak_tew te2 er2 N2.2.1 RT2 (c := 59) (t := 24) (by decide) rfl
    rw [← st] at tw ok
    have q2 : qN (advF r) ≤ qN (advF (advF r)) := by
      have := te.q
      have a1 := (M3.1.adv_q).1
      have a2 := (te.adv).q
      omega
    have fin : gi (stpF r) 1452 = -1 → stpF r = advF (rsW (namF (tI (advF (rsA r)) 19 (rsN r) (nI k))) (rsN r)) ∧ MD r (dN r) (0 + 1 + 1 + 1) (rsN r + 1) (stpF r) := fun z => by
      obtain ⟨y1, y2, y3⟩ := N2.tak (s := 59) (by decide) (by rw [← st]; exact z)
      rw [st, y2]
      exact ⟨rfl, y3⟩
    refine H h6 (stpF r) ks5 B _ _ 0 rfl (E6.te tw) (EPn_end X6) (L5.pw w6) fk (fun z => ?_) (fun z => ?_) ⟨t96, htp6⟩ (fun EN => ⟨EN.step hr, ?_⟩)
    · obtain ⟨-, M4⟩ := fin z
      have e1 := M4.2.2.2.2.2.2.2.1
      have e2 := M4.2.2.2.2.2.2.2.2
      have w := M4.w
      have e3 : rsN (stpF r) = wN r * 120 + nsC (stpF r) := by rw [← w]; rfl
      have e4 : rsN r = wN r * 120 + nsC r := rfl
      exact ⟨by omega, by omega, by omega, by rw [M4.2.2.2.2.2.1]; exact hD⟩
    · have e : gi (stpF r) 1452 = gi (advF (advF r)) 1449 := by
        have : ¬ gi (advF (advF r)) 1451 = 59 := fun y => z (ok.mpr y)
        rw [tw.1, decide_eq_false (show ¬ tkn (advF (advF r)) = 24 from fun y => this ((tk_sign RT2 (c := 59) (by decide)).mp y)), gT_f er2]
        exact (fai_w RT2 er2).2
      have ln := rt_len A.1
      omega
    · have P := DP EN
      have z := (EN.step hr).right
      obtain ⟨es, M4⟩ := fin z
      obtain ⟨v20, v21, v22, ew, lb, FR, rl⟩ := st_vals A hr d0 d1 EN
      have CL := (st_cls A hr d0 d1 (n := 0) (r' := stpF r) rfl z M4.2.2.2.2.2.1).1
      have A1 := M4.1
      obtain ⟨c1, -⟩ := cls_en (EN.step hr) A1 CL
      have nv := new_vals A
      have r' : ∀ q, ¬ q = 19 → ¬ q = 25 → ai (stpF r) q (rsN r) = ai (rsA r) q (rsN r) := fun q hq hq2 => by
        rw [es, ai_adv]
        unfold rsW
        rw [ai_ne hq2, ai_tL, ai_nam, ai_ne hq]; exact (nv q).1
      have v19 : ai R 19 (rsN r) = nI k := by
        rw [(FR.2.1 19 _ (by omega) rl).1, es, ai_adv]
        unfold rsW
        rw [ai_ne (by decide), ai_tL, ai_nam, ai_tI, if_pos ⟨rfl, rfl⟩]
      have v24 : al R 24 (rsN r) = gl (advF r) 21450 := by
        rw [(FR.2.1 24 _ (by omega) rl).2, es, al_adv]
        unfold rsW
        rw [al_tI, al_tL, if_pos ⟨rfl, rfl⟩, nam_w]
        exact te.2.2.2.2.1
      have v25 : ai R 25 (rsN r) = nI pn := by
        rw [(FR.2.1 25 _ (by omega) rl).1, es, ai_adv]
        unfold rsW
        rw [ai_tI, if_pos ⟨rfl, rfl⟩, nam_a]
        exact te.2.2.1.trans hpn
      have v26 : ai R 26 (rsN r) = -1 := by rw [(FR.2.1 26 _ (by omega) rl).1, r' 26 (by decide) (by decide)]; exact (nv 26).2.1 (by omega)
      have v27 : ai R 27 (rsN r) = -1 := by rw [c1 27 (by omega), r' 27 (by decide) (by decide)]; exact (nv 27).2.1 (by omega)
      have v28 : ai R 28 (rsN r) = -1 := by rw [c1 28 (by omega), r' 28 (by decide) (by decide)]; exact (nv 28).2.1 (by omega)
      have v29 : ai R 29 (rsN r) = nI 0 := by rw [c1 29 (by omega), r' 29 (by decide) (by decide)]; exact (nv 29).2.2 (by omega)
      have v32 : ai R 32 (rsN r) = nI 0 := by rw [c1 32 (by omega), r' 32 (by decide) (by decide)]; exact (nv 32).2.2 (by omega)
      have nk' : ∀ j, j < 20 → ¬ j = k → ¬ ai R 19 (rsN r) = nI j := fun j hj hjk e => by
        rw [v19] at e
        have := congrArg tn e
        rw [tn_nI (by omega), tn_nI (by omega)] at this
        omega
      have n7 : ¬ ai R 19 (rsN r) = 7 := nk' 7 (by omega) (by omega)
      have n9 : ¬ ai R 19 (rsN r) = 9 := nk' 9 (by omega) (by omega)
      have n10 : ¬ ai R 19 (rsN r) = 10 := nk' 10 (by omega) (by omega)
      have nkk : nkN (stpF r) = nkN r := by
        unfold nkN
        rw [M4.w, (lo_turn (ow_turn (RIL_pre A)) (dN_0 d0) (q := 2) (by omega) _).1]
      have qq : pn < qN (stpF r) := by
        have e2 := (N2.adv (by
          have := N2.tak (s := 59) (by decide) (by rw [← st]; exact z)
          rw [this.1]; decide)).2.2.2.2.2.2.2.2
        have a2 := (te2.adv).q
        have e5 : qN (advF r) = pn := by unfold qN; rw [hpn, tn_nI (by omega)]
        have a3 := ((N2.1).adv_q).2 (by
          have := N2.tak (s := 59) (by decide) (by rw [← st]; exact z)
          rw [this.1]; decide)
        have a4 := te2.q
        rw [es]
        omega
      have lbn : rsB r < nbN r := (A.o (j := dN r - 1) (by omega)).2.2.1
      obtain ⟨w7, wo, ct, sets⟩ := DQ EN nmd (EN.step hr) A1 qq nkk v19 v24 v25 v21 lbn (FZ_en EN A).1.2.2.1 ew
      obtain ⟨p1', p2', p3, p4, p5, p6, p7, p8⟩ := P
      obtain ⟨y1, y2⟩ := hy er nmd
      refine leaf_dpo (k := k) A hr d0 d1 EN M4.nb (fun c m => (p5 c m).2) p3 rfl ?_ ?_ htp6 ⟨v26, v27, v28, v29, v32⟩ v19 (by omega) ⟨by rw [v20]; exact pp, fun _ => ?_, fun i hi => ?_, fun i hi => ?_⟩ (fun c m => ?_) ct
      · have g0 : (fun q i => if q = 0 ∧ i = rsN r then tp h else G q i) 0 (rsN r) = tp h := by simp
        have g2 : (fun q i => if q = 0 ∧ i = rsN r then tp h else G q i) 2 = G 2 := by funext i; simp
        unfold SFF
        rw [g0, g2]
        have f := fun g hg => F6 g hg
        refine ⟨⟨hU, t96⟩, ⟨?_, ?_, ?_, ?_⟩, fun _ => ⟨?_, ?_, ?_⟩, ?_, ?_, ?_, ?_, ?_, ?_, ?_⟩
        · rw [(f 800 (by decide)).1, v19, hv 800 (by decide) (by decide)]; rfl
        · rw [(f 801 (by decide)).1, v20, hv 801 (by decide) (by decide)]; rfl
        · rw [(f 802 (by decide)).1, v22, ← p2', hv 802 (by decide) (by decide)]; rfl
        · rw [(f 803 (by decide)).1, v21, tn_nI lb, hv 803 (by decide) (by decide), p6]; rfl
        · rw [(f 20805 (by decide)).2.1, v24, show up1 (fun _ => 0) 20805 y 20805 = _ from if_pos rfl]; exact y1
        · rw [v24]; exact y2
        · rw [(f 806 (by decide)).1, v6, v25]
        · rw [(f 807 (by decide)).1]; exact w7
        · rw [(f 30808 (by decide)).2.2, show up1 (fun _ => none) 30808 o 30808 = o from if_pos rfl]; exact wo
        · rw [(f 30809 (by decide)).2.2, v26]; rfl
        · rw [(f 30810 (by decide)).2.2, if_neg n9, v27]; rfl
        · rw [if_neg, (f 30811 (by decide)).2.2]
          · rfl
          · rintro (y | y)
            · exact n9 y
            · exact n10 y
        · rw [(f 30812 (by decide)).2.2, v32, if_neg (by decide)]; rfl
        · exact ⟨by rw [(f 10813 (by decide)).1, hv 10813 (by decide) (by decide), decide_eq_false n7]; rfl, by rw [(f 814 (by decide)).1, hv 814 (by decide) (by decide)]; rfl⟩
      · exact (F6 30804 (by decide)).2.2
      · rw [v25]; exact ⟨pn, rfl, p1, p2⟩
      · rw [v29] at hi; have : tn (nI 0) = 0 := rfl; omega
      · rw [v32] at hi; have : tn (nI 0) = 0 := rfl; omega
      · have hm : G 2 c ∈ sc := by rw [p4]; exact List.mem_map.mpr ⟨c, m, rfl⟩
        have hm2 := hsc _ hm
        rw [← sets c m]
        exact w6.1.fI (by omega) (EPW_no (by omega))
  · -- no name
    rw [okX, decide_eq_false nmd, if_pos rfl] at st
    rw [decide_eq_false nmd, gT_f er] at E6
    have w1 := fai_w RT1 er
    have e6 : ∀ c, gT c (faiF (advF r)) = faiF (advF r) := fun c => by unfold gT; rw [if_neg w1.1]
    rw [e6] at E6
    have tw : TEW (faiF (advF r)) (stpF r) := by rw [st]; exact fai_tew te er M3.2.1 RT1
    have bad : ¬ gi (stpF r) 1452 = -1 := by rw [tw.1]; exact w1.1
    refine H h6 (stpF r) ks5 B _ _ 0 rfl (E6.te tw) (EPn_end X6) (L5.pw w6) fk (fun z => absurd z bad) (fun z => ?_) ⟨t96, htp6⟩ (fun EN => absurd (EN.step hr).right bad)
    have ln := rt_len A.1
    omega
