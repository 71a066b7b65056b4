/-! Reading a block: the contract -/
theorem LST.e0 {h : AH} {U e0 nm ns B : Nat} {fW fS : Nat → Nat} {ks : List Nat} (l : LST h U e0 nm fW ns fS ks B) : e0 < U := by
  obtain ⟨_, _, _, _, _, _, _, _, ⟨_, _, _, z⟩, _⟩ := l
  exact z
theorem DPR.fx {h h' : AH} {R : RV} {G : Nat → Nat → Nat} {r : RV} {b : Nat} {sc : List Nat} {l : Nat} {il : Bool} {nk : Nat} {wk : Nat → Int64} {nm ns : Nat} {fS : Nat → Nat} {E : Nat → Nat → Prop} (P : DPR h R G r b sc l il nk wk nm ns fS) (x : FX E h h') (hc : ∀ c, c ∈ cch R b → G 2 c + 1 < tp h) (n : ∀ c, c ∈ cch R b → ¬ E 20303 (G 2 c) ∧ ¬ E 302 (G 2 c) ∧ ¬ E 603 (G 2 c + 1)) : DPR h' R G r b sc l il nk wk nm ns fS := by
  obtain ⟨p1, p2, p3, p4, p5, p6⟩ := P
  refine ⟨p1, p2, p3, p4, fun c m => ?_, p6⟩
  obtain ⟨⟨q1, q2, q3, q4, q5⟩, q6⟩ := p5 c m
  have l1 := hc c m
  obtain ⟨n1, n2, n3⟩ := n c m
  exact ⟨⟨by rw [x.fJ (by omega) n1]; exact q1, q2, by rw [x.fI (by omega) n2]; exact q3, by rw [x.fI l1 n3]; exact q4, q5⟩, q6⟩
theorem blc_of {D : Nat} (hD : D ≤ 8) (S : D < 8 → STC (D + 1)) : BLC D := by
  intro d h Q T U e0 l il so sc r1 r2 R b nk par wk pk nm fW ns fS ks B B0 G hd hl E CH K L O hB1 hB2 hB0 hn DP HR HW
  obtain ⟨d, rfl⟩ : ∃ k, d = k + 20 := ⟨d - 20, by omega⟩
  have ht : T + 2 < U := E.1.2.1
  have he : e0 < U := L.e0
  have hU : U + 9 < tp h := E.1.2.2.1
  have hsc : ∀ a, a ∈ sc → U + 10 ≤ a ∧ a + 1 < tp h := fun a m => ⟨(CH.mem a m).1, (CH.mem a m).2.1⟩
  -- the end
  have EX : ∀ (h1 : AH) (rr : RV) (x : Nat) (last : Option Nat) (n : Int32) ns' fS' ks' B', ES h1 T U e0 1 rr (D + 1) l il so → LST h1 U e0 nm fW ns' fS' ks' B' → (∀ h2, ES h2 T U e0 1 (gT (decide (tkn rr = 21)) rr) D l il so → LST h2 U e0 nm fW ns' fS' ks' B' → FX (EPa T U e0 sc) h1 h2 → tp h2 = tp h1 → FX (fun g y => y = T ∨ y = U + 9) h1 h2 → Q (some (vr (some x))) h2) → wp (d + 20) K_X5_takeBlock 53 [] [(0, vr (some (U + 9))), (1, vr (some x)), (2, vr last), (3, vi n)] h1 Q := by
    intro h1 rr x last n ns' fS' ks' B' E1 L1 H
    have c9 := E1.1.2.2.2.2.2.2.2.2.1
    rw [bk_X5_takeBlock_53, E1.2.2.1.2.1, nI_pred]
    have E2 : ES (setFI h1 703 (U + 9) (nI D)) T U e0 1 rr D l il so := E1.br
    have x2 : FX (fun g y => y = U + 9 ∧ (g = 703 ∨ g = 704 ∨ g = 10705 ∨ g = 30706)) h1 (setFI h1 703 (U + 9) (nI D)) := FX.FI ⟨rfl, Or.inl rfl⟩
    have L2 := L1.ps x2 rfl rfl
    refine ⟨c9, c9, c9, ?_⟩
    rw [show vi 21 = vi (nI 21) from rfl]
    refine p_take E2 (by omega) (fun h3 E3 w3 => ?_)
    simp only [psh, bk_X5_takeBlock_62]
    refine H h3 E3 (L2.pw w3) ((x2.mono (fun g y z => Or.inr (Or.inr (Or.inr ⟨z.1, by omega⟩)))).tr w3.ep) w3.2.1 ((x2.mono (fun g y z => Or.inr z.1)).tr (w3.1.mono (fun g y z => by
      rcases z with z | z
      · exact Or.inl z.1
      · exact Or.inr z.1)))
  -- a text that is wrong
  have WX : ∀ (h1 : AH) (rw' : RV) (x : Nat) (last : Option Nat) (n : Int32) ns' fS' ks' B', ES h1 T U e0 1 rw' (D + 1) l il so → ¬ gi rw' 1452 = -1 → ((¬ gi r1 1452 = -1 ∧ gi rw' 1452 = gi r1 1452) ∨ (gi r1 1452 = -1 ∧ ∃ n, goL D n r2 rw')) → FX (EPa T U e0 sc) h h1 → LST h1 U e0 nm fW ns' fS' ks' B' → (∀ k, k < ns → fS' k = fS k) → B0 + D + 1 ≤ B' + 3 * tn (gi r1 1448) + 20 → (tg h1 x = 3 ∧ x < tp h1 ∧ tp h ≤ x) → wp (d + 20) K_X5_takeBlock 26 [] [(0, vr (some (U + 9))), (1, vr (some x)), (2, vr last), (3, vi n)] h1 Q := by
    intro h1 rw' x last n ns' fS' ks' B' E1 wr re X1 L1 f1 cr ob
    have c9 := E1.1.2.2.2.2.2.2.2.2.1
    have go : wp (d + 20) K_X5_takeBlock 53 [] [(0, vr (some (U + 9))), (1, vr (some x)), (2, vr last), (3, vi n)] h1 Q := by
      refine EX h1 rw' x last n ns' fS' ks' B' E1 L1 (fun h2 E2 L2 X2 t2 X3 => ?_)
      rw [gT_w wr] at E2
      exact HW h2 rw' x ks' B' ns' fS' re wr E2 (X1.tr X2) L2 f1 cr ⟨by rw [X2.tg ob.2.1]; exact ob.1, by omega, ob.2.2⟩
    rw [bk_X5_takeBlock_26]
    refine ⟨fun _ => go, fun _ => ?_⟩
    rw [bk_X5_takeBlock_29, E1.2.2.1.1]
    exact ⟨c9, fun _ => go, fun z => absurd wr z⟩
  -- the statements
  have LP : ∀ x, tp h ≤ x → (gi r1 1452 = -1) → okO r1 = true → D < 8 → ∀ f, ∀ (rr : RV) (h1 : AH) (last : Option Nat) (n : Nat) fS1 ks1 B1 k, 120 - nsC rr = f → RIL rr → gi rr 1452 = -1 → dN rr = D + 1 → ai rr 46 D = ai r2 46 D → goL D k r2 rr → FZ r2 rr → ES h1 T U e0 1 rr (D + 1) l il so → FX (EPa T U e0 sc) h h1 → LST h1 U e0 nm fW (nsC rr) fS1 ks1 B1 → (∀ j, j < ns → fS1 j = fS j) → ns ≤ nsC rr → n ≤ nsC rr - ns → B0 ≤ B1 + 3 * qN rr → (tg h1 x = 3 ∧ x < tp h1) → fI h1 200 x = gi r1 1449 → (last = none ∨ ∃ y, last = some y ∧ tg h1 y = 9 ∧ tp h ≤ y ∧ y < tp h1) → (ENR r2 R → ENR rr R ∧ ∃ G1, LPD h h1 U R G G1 r2 rr b x last ks ks1 fS1) → wp (d + 20) K_X5_takeBlock 26 [] [(0, vr (some (U + 9))), (1, vr (some x)), (2, vr last), (3, vi (nI n))] h1 Q := by
    intro x hx0 er1 ok1 D8 f
    obtain ⟨on1, on2, on3⟩ := O
    obtain ⟨oa, -, ob⟩ := on3 er1
    obtain ⟨oR, orr, oT, oD, oB, oN, o45, o44, o43⟩ := ob ok1
    induction f using Nat.strongRecOn with
    | ind f ih =>
      intro rr h1 last n fS1 ks1 B1 k hf A er hdn h46 gl F E1 X1 L1 f1 hns hnn cr ob1 p200 hlast DT
      have c9 := E1.1.2.2.2.2.2.2.2.2.1
      have s120 := A.s.2
      have eb : rsB rr = b := by
        rw [← oB]
        show obN rr (dN rr - 1) = obN r2 (dN r2 - 1)
        rw [hdn, oD]
        show tn (ai rr 46 D) = tn (ai r2 46 D)
        rw [h46]
      rw [bk_X5_takeBlock_26, lt120]
      refine ⟨fun z => absurd z (by rw [nI_ltI (by omega) (by omega)]; omega), fun _ => ?_⟩
      rw [bk_X5_takeBlock_29, E1.2.2.1.1]
      refine ⟨c9, fun z => absurd er z, fun _ => ?_⟩
      rw [bk_X5_takeBlock_33, show vi 21 = vi (nI 21) from rfl, p_at E1 (by omega)]
      refine ⟨c9, ?_⟩
      simp only [psh, bk_X5_takeBlock_36, b2i_0]
      have rt := (E1.2.2.2.2 er).2
      have t21 : tkn rr = 21 ↔ gi rr 1451 = 125 := tk_sign rt (c := 125) (by decide)
      refine ⟨fun z => ?_, fun z => ?_⟩
      · -- the block ends
        have z := bf z
        rw [Bool.and_eq_true, decide_eq_true_eq, decide_eq_true_eq] at z
        have g125 := t21.mp z.2
        refine EX h1 rr x last (nI n) _ _ _ _ E1 L1 (fun h2 E2 L2 X2 t2 X3 => ?_)
        rw [decide_eq_true z.2, gT_t er] at E2
        have te : TE (advF rr) (clA rr) := TE.adv (TE_sI (by decide) (by decide) (by decide) (by decide))
        have cl52 : gi (clA rr) 1452 = -1 := by unfold clA; rw [gi_adv, gi_sI, if_neg (by decide)]; exact er
        have E3 := E2.te (TEW.of te (by rw [cl52, gi_adv]; exact er.symm))
        have pop := RIL_pop A g125 (by omega)
        have q1 := pop.2.2.1
        refine HR h2 rr x ks1 B1 _ fS1 k er1 ok1 gl A er g125 hdn E3 (X1.tr X2) L2 rfl f1 (by omega) ⟨by rw [X2.tg ob1.2]; exact ob1.1, by omega, hx0⟩ (fun EN => ?_)
        obtain ⟨EN1, G1, LD⟩ := DT EN
        refine ⟨EN1, ?_⟩
        have FR := FZ_en EN oR
        have P := DP er1 ok1 EN
        obtain ⟨pp, hp1, hp2, hp3⟩ := E.pl
        have K1 := (E.2.2.2.2 er1).1.2.1
        have r43 : ai R 43 b = gi r1 1449 := by rw [FR.2.2.1 43 b (by omega) (by omega) (by omega)]; exact o43
        refine bpo_end (T := T) A er g125 (by omega) eb EN1 F LD X3 t2 (by omega) (by omega) hx0 ob1.2 ob1.1 (by rw [r43]; exact p200) ⟨pp, by rw [r43, ← K1]; exact hp1, by omega, by omega⟩ (by have := F.1.2.2.1; omega) (fun c m => ?_)
        have : G 2 c ∈ sc := by rw [P.2.2.2.1]; exact List.mem_map.mpr ⟨c, m, rfl⟩
        have := hsc _ this
        have := X1.1
        exact ⟨by omega, by omega⟩
      · -- a statement
        have z : ¬ tkn rr = 21 := fun y => z (by simp [er, y])
        have d125 : ¬ gi rr 1451 = 125 := fun y => z (t21.mpr y)
        have rg : rng rr := rng_in er (by omega)
        rw [bk_X5_takeBlock_37]
        refine ⟨c9, ?_⟩
        have CH1 : CHN h1 U sc so := CH.ep X1
        have K1 : KD h1 (U + 1) nk par wk pk := K.ep X1 (by omega) he (fun a m => (hsc a m).1)
        obtain ⟨G1, DT1⟩ : ∃ G1, ENR r2 R → LPD h h1 U R G G1 r2 rr b x last ks ks1 fS1 := by
          by_cases EN : ENR r2 R
          · obtain ⟨-, G1, LD⟩ := DT EN
            exact ⟨G1, fun _ => LD⟩
          · exact ⟨G, fun z => absurd z EN⟩
        refine S D8 (d + 19) h1 _ T U e0 l il so sc rr R nk par wk pk nm fW (nsC rr) fS1 ks1 B1 B0 G1 (by omega) A rg hdn d125 (by omega) E1 CH1 K1 L1 rfl cr (by rw [F.1.2.2.2.2.1, on1]; exact hB0) (fun EN => ?_) (fun h2 r' x2 ks2 B2 ns2 fS2 n2 gk E2 X2 L2 f2 rt2 wr2 ob2 DO => ?_)
        · -- what is known there
          have EN2 : ENR r2 R := by
            have g := goK_N (goL_K gl)
            obtain ⟨m, gm, e⟩ := EN
            exact ⟨k + m, goN_tr g gm, e⟩
          rw [eb]
          have LD := DT1 EN2
          obtain ⟨l1, l2, -⟩ := LD
          obtain ⟨⟨p1, p1b⟩, p2, p3, p4, p5, p6, p7, p8⟩ := DP er1 ok1 EN2
          have ew : wN rr = wN r2 := F.1.1
          have fq := F.1.2.2.2.1
          have frs := F.1.2.1
          have lo := goK_lo (goL_K gl)
          have qr := A.q
          have q2 := oR.q
          refine ⟨⟨?_, fun k' hk => ?_⟩, ?_, fun k' hk => ?_, ?_, fun c m => ?_, p6, p7, p8⟩
          · rw [p1]; unfold nkN; rw [ew, (lo 2 _ (by omega)).1]
          · rw [ew]
            obtain ⟨y1, y2, y3⟩ := p1b k' hk
            refine ⟨y1, y2, ?_⟩
            rw [q2.1] at y3
            rw [qr.1]
            refine Int32.lt_of_lt_of_le y3 ?_
            rw [nI_leI (by omega) (by omega)]; exact fq
          · rw [p2]; unfold nmN; rw [ew, (lo 8 _ (by omega)).1]
          · rw [ew]; exact l2 k' hk
          · rw [p4]
            exact List.map_congr_left (fun c m => (l1.2.2 c (p5 c m).2).symm)
          · obtain ⟨⟨y1, y2, y3, y4, y5, y6⟩, y7⟩ := p5 c m
            have gc : G1 2 c = G 2 c := l1.2.2 c y7
            have hm : G 2 c ∈ sc := by rw [p4]; exact List.mem_map.mpr ⟨c, m, rfl⟩
            have hm2 := hsc _ hm
            unfold SCF
            rw [gc, X1.fJ (by omega) (EPa_no (by omega)), X1.fI (by omega) (EPa_no (by omega)), X1.fI (by omega) (EPa_no (by omega))]
            exact ⟨⟨y1, y2, y3, y4, y5, y6⟩, by omega⟩
        · simp only [psh, bk_X5_takeBlock_39]
          -- one more turn and what is above it
          have gl2 : goL D (1 + n2) rr r' := by
            have a : goL D 1 rr (stpF rr) := ⟨rg, RIL_pre A, by omega, fun y => absurd y d125, rfl⟩
            exact goL_tr a (goK_L gk)
          have gl3 := goL_tr gl gl2
          -- the state behind the link
          have fin : ∀ (h3 : AH), FX (fun g y => (g = 30201 ∧ y = x) ∨ (g = 30804 ∧ last = some y)) h2 h3 → tp h3 = tp h2 → rc h3 = rc h2 → rs h3 = rs h2 → ((last = none ∧ h3 = setFP h2 30201 x (some x2)) ∨ ∃ y, last = some y ∧ h3 = setFP h2 30804 y (some x2)) → wp (d + 20) K_X5_takeBlock 49 [] [(0, vr (some (U + 9))), (1, vr (some x)), (2, vr last), (3, vi (nI n)), (4, vr (some x2))] h3 Q := by
            intro h3 X3 t3 r3 s3 H3
            have tpx := X1.1
            have tpx2 := X2.1
            have inn : ∀ g y, ((g = 30201 ∧ y = x) ∨ (g = 30804 ∧ last = some y)) → tp h ≤ y ∧ y < tp h1 ∧ (g = 30201 ∨ g = 30804) := fun g y q => by
              rcases q with ⟨q1, q2⟩ | ⟨q1, q2⟩
              · exact ⟨by omega, by omega, by omega⟩
              · rcases hlast with q3 | ⟨y', q3, q4, q5, q6⟩
                · rw [q3] at q2; cases q2
                · rw [q3] at q2; cases q2; exact ⟨q5, q6, by omega⟩
            have nwe : NWE U (fun g y => (g = 30201 ∧ y = x) ∨ (g = 30804 ∧ last = some y)) := fun g y q => by
              have := inn g y q
              exact ⟨by omega, by omega⟩
            have E3 := E2.nw X3 nwe
            have L3 := LST.nw 0 L2 X3 nwe (by omega) (by omega)
            have X13 : FX (EPa T U e0 sc) h h3 := by
              have : FX (EPn T U e0 (tp h) sc) h h3 := (EPa_en (X1.tr X2)).tr (X3.mono (fun g y q => Or.inr (by have := inn g y q; omega)))
              exact EPn_end this
            have ob3 : tg h3 x = 3 ∧ x < tp h3 ∧ tp h ≤ x := ⟨by rw [X3.tg (by omega), X2.tg ob1.2]; exact ob1.1, by omega, hx0⟩
            rw [bk_X5_takeBlock_49, nI_1]
            refine wp_cut 4 ?_
            show wp (d + 20) K_X5_takeBlock 26 [] [(0, vr (some (U + 9))), (1, vr (some x)), (2, vr (some x2)), (3, vi (nI (n + 1)))] h3 Q
            have ff : ∀ j, j < ns → fS2 j = fS j := fun j hj => (f2 j (by omega)).trans (f1 j hj)
            by_cases er' : gi r' 1452 = -1
            · obtain ⟨e1, e2, e3, e4⟩ := rt2 er'
              have seg := st_seg A rg (by omega) d125 (by rw [hdn]; exact gk) er'
              obtain ⟨okA, A1, O1, A2, F1, F2, KP, pd, p46⟩ := seg
              have FF := (F.tr F1).tr F2
              rw [e1] at L3 e2
              refine ih (120 - nsC r') ?_ r' h3 (some x2) (n + 1) fS2 ks2 B2 _ rfl A2 er' e4 ?_ gl3 FF E3 X13 L3 ff (by omega) (by omega) e3 ⟨ob3.1, ob3.2.1⟩ ?_ (Or.inr ⟨x2, rfl, ?_, by omega, by omega⟩) (fun EN => ?_)
              · have := A2.s.2; omega
              · rw [KP.2.1 D (by omega), p46 D (by omega)]; exact h46
              · rw [X3.fI (by omega) (fun q => by have := inn _ _ q; omega), X2.fI ob1.2 (EPa_no (by omega))]; exact p200
              · rw [X3.tg ob2.2.1]; exact ob2.1
              · obtain ⟨EN1, -⟩ := DT EN
                obtain ⟨EN2, G2, DD⟩ := DO EN1
                refine ⟨EN2, ?_⟩
                have LD := DT1 EN
                have P := DP er1 ok1 EN
                exact lpd_step (T := T) (e0 := e0) (sc := sc) A er (by omega) d125 (by rw [hdn]; exact gk) er' eb EN2 F oN LD DD X2 (by omega) he (fun a m => by have := hsc a m; omega) (by omega) ob1.2 (fun c m => ⟨(P.2.2.2.2.1 c m).2, by
                  have : G 2 c ∈ sc := by rw [P.2.2.2.1]; exact List.mem_map.mpr ⟨c, m, rfl⟩
                  have := hsc _ this
                  omega⟩) H3
            · have wr := wr2 er'
              exact WX h3 r' x (some x2) _ ns2 fS2 ks2 B2 E3 er' (Or.inr ⟨er1, _, gl3⟩) X13 L3 ff (by
                have e1 : gi rr 1448 = gi r1 1448 := F.1.2.2.2.2.1.trans on1
                rw [e1] at wr
                omega) ob3
          refine ⟨fun q => ?_, fun q => ?_⟩
          · rcases hlast with y | ⟨y, e1, e2, e3, e4⟩
            · exact absurd y q
            · rw [bk_X5_takeBlock_46, e1, nn_some]
              refine ⟨by rw [X2.tg e4]; exact e2, ?_⟩
              rw [← e1]
              exact fin _ (FX.FP (Or.inr ⟨rfl, e1⟩)) rfl rfl rfl (Or.inr ⟨y, e1, rfl⟩)
          · rw [bk_X5_takeBlock_42, nn_some]
            exact ⟨by rw [X2.tg ob1.2]; exact ob1.1, fin _ (FX.FP (Or.inl ⟨rfl, rfl⟩)) rfl rfl rfl (Or.inl ⟨q, rfl⟩)⟩
  -- from the new block on
  have M6 : ∀ (h0 : AH) (r0 : RV), ES h0 T U e0 1 r0 D l il so → PW T U h h0 → ((r0 = r1 ∧ D < 8) ∨ (r0 = gT false r1 ∧ D = 8)) → wp (d + 20) K_X5_takeBlock 6 [] [(0, vr (some (U + 9)))] h0 Q := by
    intro h0 r0 E0 w0 hr0
    have L0 := L.pw w0
    have room := L0.room
    rw [bk_X5_takeBlock_6]
    refine ⟨by omega, by omega, ?_⟩
    have E1 := E0.newO 2 4 (by decide)
    have L1 := LST.newO L0 2 4 (by decide) (by decide)
    have tx : tg (newO h0 2 4) (tp h0) = 3 := by rw [tg_newO, if_pos rfl]
    have c9 := E1.1.2.2.2.2.2.2.2.2.1
    have c10 := E1.1.2.2.2.2.2.2.2.2.2.1
    have tT : tg (newO h0 2 4) T = 10 := E1.2.1.1
    have xo : FX (EPn T U e0 (tp h) sc) h (newO h0 2 4) := w0.en.tr (FX.O (by decide))
    have tp0 : tp h0 = tp h := w0.2.1
    have xU : U + 10 ≤ tp h0 := by omega
    rw [bk_X5_takeBlock_7, c10, nn_some, nn_some, bk_X0_init_0]
    refine ⟨c9, tT, tx, tx, ?_⟩
    simp only [psh, bk_X5_takeBlock_12]
    have E2 := E1.fi (f := 200) (x := tp h0) (fI (newO h0 2 4) 905 T) xU (by decide)
    have L2 := LST.fi L1 (f := 200) (x := tp h0) (fI (newO h0 2 4) 905 T) xU (by decide)
    have x2 : FX (EPn T U e0 (tp h) sc) h (setFI (newO h0 2 4) 200 (tp h0) (fI (newO h0 2 4) 905 T)) := xo.tr (en_FI (by omega) (by decide))
    have v200 : fI (setFI (newO h0 2 4) 200 (tp h0) (fI (newO h0 2 4) 905 T)) 200 (tp h0) = fI h0 905 T := by
      rw [fFI_same, fI_newO, if_neg (by omega)]
    have f201 : fP (setFI (newO h0 2 4) 200 (tp h0) (fI (newO h0 2 4) 905 T)) 30201 (tp h0) = none := by
      show fP (newO h0 2 4) 30201 (tp h0) = none
      rw [fP_newO, if_pos ⟨rfl, by decide⟩]
    have i2 : ∀ y, y < tp h → fI (setFI (newO h0 2 4) 200 (tp h0) (fI (newO h0 2 4) 905 T)) 10304 y = fI h 10304 y := fun y hy => by
      rw [fI_setFI, if_neg (by omega), fI_newO, if_neg (by omega), w0.1.fI hy (EPW_no (by omega))]
    have tx2 : tg (setFI (newO h0 2 4) 200 (tp h0) (fI (newO h0 2 4) 905 T)) (tp h0) = 3 := tx
    have tpx2 : tp (setFI (newO h0 2 4) 200 (tp h0) (fI (newO h0 2 4) 905 T)) = tp h0 + 1 := rfl
    generalize setFI (newO h0 2 4) 200 (tp h0) (fI (newO h0 2 4) 905 T) = h2 at *
    refine ⟨E2.1.2.2.2.2.2.2.2.2.1, ?_⟩
    rw [show vi 20 = vi (nI 20) from rfl]
    refine p_take E2 (by omega) (fun h4 E4 w4 => ?_)
    have L4 := L2.pw w4
    have c94 := E4.1.2.2.2.2.2.2.2.2.1
    simp only [psh, bk_X5_takeBlock_16]
    rw [E4.2.2.1.2.1, nI_1]
    refine ⟨c94, c94, ?_⟩
    have E5 : ES (setFI h4 703 (U + 9) (nI (D + 1))) T U e0 1 (gT (decide (tkn r0 = 20)) r0) (D + 1) l il so := E4.br
    have x5 : FX (fun g y => y = U + 9 ∧ (g = 703 ∨ g = 704 ∨ g = 10705 ∨ g = 30706)) h4 (setFI h4 703 (U + 9) (nI (D + 1))) := FX.FI ⟨rfl, Or.inl rfl⟩
    have L5 := L4.ps x5 rfl rfl
    have X5 : FX (EPa T U e0 sc) h (setFI h4 703 (U + 9) (nI (D + 1))) := EPn_end (x2.tr (w4.en.tr (x5.mono (fun g y z => Or.inl (Or.inr (Or.inr (Or.inr ⟨z.1, by omega⟩)))))))
    have tp5 : tp (setFI h4 703 (U + 9) (nI (D + 1))) = tp h0 + 1 := by show tp h4 = _; rw [w4.2.1, tpx2]
    have sg : ∀ g, g / 100 % 100 = 2 → ¬ EPW T U g (tp h0) := fun g hg => EPW_no (by omega)
    have tx5 : tg (setFI h4 703 (U + 9) (nI (D + 1))) (tp h0) = 3 := by show tg h4 (tp h0) = 3; rw [w4.1.tg (by omega)]; exact tx2
    have v5 : fI (setFI h4 703 (U + 9) (nI (D + 1))) 200 (tp h0) = fI h0 905 T := by
      rw [fI_setFI, if_neg (by omega), w4.1.fI (by omega) (sg _ (by decide))]; exact v200
    have f5 : fP (setFI h4 703 (U + 9) (nI (D + 1))) 30201 (tp h0) = none := by
      show fP h4 30201 (tp h0) = none
      rw [w4.1.fP (by omega) (sg _ (by decide))]; exact f201
    have i5 : ∀ y, y < tp h → U + 10 ≤ y → fI (setFI h4 703 (U + 9) (nI (D + 1))) 10304 y = fI h 10304 y := fun y h6 h7 => by
      rw [fI_setFI, if_neg (by omega), w4.1.fI (by omega) (EPW_no (by omega))]
      exact i2 y h6
    generalize setFI h4 703 (U + 9) (nI (D + 1)) = h5 at *
    have hx0 : tp h ≤ tp h0 := by omega
    have ff : ∀ k, k < ns → fS k = fS k := fun _ _ => rfl
    by_cases er1 : gi r1 1452 = -1
    · obtain ⟨on1, on2, on3⟩ := O
      obtain ⟨oa, of, ot⟩ := on3 er1
      have K1 := E.2.2.2.2 er1
      have t20 : tkn r1 = 20 ↔ gi r1 1451 = 123 := tk_sign K1.2 (c := 123) (by decide)
      obtain ⟨wf, we⟩ := fai_w K1.2 er1
      -- the block can't stand here
      have bad : okO r1 = false → gT (decide (tkn r0 = 20)) r0 = faiF r1 → wp (d + 20) K_X5_takeBlock 26 [] [(0, vr (some (U + 9))), (1, vr (some (tp h0))), (2, vr none), (3, vi 0)] h5 Q := fun ok e => by
        have g2 := of ok
        rw [e] at E5
        have E6 := E5.te (r' := r2) ⟨by rw [g2, we], fun z => absurd z wf, by rw [on1, TE_fai.2.1], by rw [on2]; rfl⟩
        have hq := hB1 er1
        have tq : tn (gi r2 1452) = qN r1 := by rw [g2]; rfl
        refine WX h5 r2 (tp h0) none 0 ns fS ks B E6 (by rw [g2, ← we]; exact wf) (Or.inr ⟨er1, 0, rfl⟩) X5 L5 ff (by have := rt_len K1.2; omega) ⟨tx5, by omega, hx0⟩
      rcases hr0 with ⟨e0', D8⟩ | ⟨e0', D8⟩
      · subst e0'
        by_cases ok : okO r0 = true
        · have s123 := okO_123 ok
          have tk : tkn r0 = 20 := t20.mpr s123
          rw [decide_eq_true tk, gT_t er1] at E5
          obtain ⟨oR, orr, oT, oD, oB, oN, o45, o44, o43⟩ := ot ok
          have E6 := E5.te (TEW.of oT (by rw [orr, gi_adv]; exact er1.symm))
          have hns := hn er1 ok
          have nq : qN r0 < qN (advF r0) := by
            have := adv_q K1.2.1
            obtain ⟨⟨p, n, hp, hn', l1, l2⟩, ⟨q, e, l, l3, -⟩, -⟩ := K1.2
            have := l3 (by rw [s123]; decide)
            unfold qN at *
            rw [e, tn_nI (by rw [hp, tn_nI (by omega)] at l; omega)]
            omega
          have q2 : qN r2 = qN (advF r0) := oT.q
          have hq := hB1 er1
          refine LP (tp h0) hx0 er1 ok D8 (120 - nsC r2) r2 h5 none 0 fS ks B 0 rfl oR orr oD rfl rfl FZ.rf E6 X5 (by rw [← hns]; exact L5) ff (by omega) (by omega) (by omega) ⟨tx5, by omega⟩ ?_ (Or.inl rfl) (fun EN => ⟨EN, ?_⟩)
          · rw [v5]; exact (E0.2.2.2.2 er1).1.2.1
          · have P := DP er1 ok EN
            refine ⟨fun q i => if q = 1 ∧ i = b then tp h0 else if q = 4 ∧ i = b then rsN r2 else G q i, ⟨fun s _ => ⟨?_, ?_, ?_⟩, fun i hi => ⟨?_, ?_, ?_⟩, fun c _ => ?_⟩, fun k hk => ?_, ⟨?_, ?_⟩, fun c m => ?_, ?_, ?_, Or.inl ⟨rfl, oN, rfl, f5, o45, o44⟩⟩
            · simp
            · simp
            · simp
            · simp [show ¬ i = b by omega]
            · simp [show ¬ i = b by omega]
            · simp
            · simp
            · have := P.2.2.1 k (by omega)
              simp [this]
            · simp
            · simp
            · rw [stR_nil]
              have hm : G 2 c ∈ sc := by rw [P.2.2.2.1]; exact List.mem_map.mpr ⟨c, m, rfl⟩
              have := hsc _ hm
              rw [i5 _ (by omega) this.1]
              simp
            · rw [Nat.sub_self]; exact CTK.rf
            · rw [Nat.sub_self, Nat.sub_self]; show 0 + 2 * 0 + qN r2 ≤ qN r2; omega
        · have ok' : okO r0 = false := by cases y : okO r0 <;> simp_all
          refine bad ok' ?_
          have : ¬ tkn r0 = 20 := fun y => by
            have := t20.mp y
            refine ok ?_
            unfold okO
            rw [this, oa]
            have : ¬ nI D = 8 := by rw [show (8 : Int32) = nI 8 from rfl, nI_eq (by omega) (by omega)]; omega
            simp [this]
          rw [decide_eq_false this, gT_f er1]
      · have ok' : okO r1 = false := by
          unfold okO
          rw [oa, D8]
          have : (nI 8 : Int32) = 8 := rfl
          simp [this]
        refine bad ok' ?_
        rw [e0', gT_f er1, gT_w wf]
    · have e : r0 = r1 := by
        rcases hr0 with ⟨e, -⟩ | ⟨e, -⟩
        · exact e
        · rw [e, gT_w er1]
      rw [e, gT_w er1] at E5
      exact WX h5 r1 (tp h0) none 0 ns fS ks B E5 er1 (Or.inl ⟨er1, rfl⟩) X5 L5 ff (hB2 er1) ⟨tx5, by omega, hx0⟩
  have c9 := E.1.2.2.2.2.2.2.2.2.1
  rw [bk_X5_takeBlock_0, E.2.2.1.2.1]
  refine ⟨c9, fun z => ?_, fun z => ?_⟩
  · rw [show (8 : Int32) = nI 8 from rfl, nI_ltI (by omega) (by omega)] at z
    exact M6 h r1 E PW.rf (Or.inl ⟨rfl, z⟩)
  · rw [show (8 : Int32) = nI 8 from rfl, nI_ltI (by omega) (by omega)] at z
    rw [bk_X5_takeBlock_4]
    refine ⟨c9, p_refuse E (fun h0 E0 w0 => ?_)⟩
    simp only [psh]
    exact M6 h0 _ E0 w0 (Or.inr ⟨rfl, by omega⟩)
