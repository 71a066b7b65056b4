/-! Walking: try -/
section
variable {d : Nat} {h0 h : AH} {Q : Option V → AH → Prop} {U V' e0 W : Nat} {R rB r : RV} {C L : Nat → Int32} {G : Nat → Nat → Nat} {fW par : Nat → Nat} {wk : Nat → Int64} {pk : Nat → Int32} {fS : Nat → Nat} {ks : List Nat} {dp : Nat → Nat} {D : Nat → Prop} {f j s m : Nat}
/-- the end of a try -/
theorem wtry_fin (N : WEN h0 U V' e0 W R C L G fW par wk pk fS ks rB dp) (IH : GOB h0 W U R G rB dp m) (X : SCX R G j s) (hm : G 5 j - G 4 j ≤ m + 1) (e19 : ai R 19 s = 9) (hf : f ≤ dp j) (hD : DAN R D j) {rA r0 : RV} {vA : Int32} (S : WKS h0 W U R G rB D h rA) (e68 : gi rA 11468 = 0) (e69 : gi rA 1469 = nI (f + 1)) (fk : FRK (f + 1) r0 rA) (M : MOD R j vA rA)
    (H : ∀ h' v r', GW R (finF rA s) r' → WKS h0 W U R G rB D h' r' → (EDL v r' ∨ SEN R f j r0 r' v) → Q (some (vi v)) h') : wp (d + 8 * m + 25) K_X9_goTry 17 [] [(0, vr (some W)), (1, vr (some (G 0 s))), (2, vi vA)] h Q := by
  obtain ⟨T, K, n12, n120, n1024, w2⟩ := N.t
  have hs := X.2.1
  obtain ⟨SI, JS⟩ := N.si S hs
  have hg := N.hg S
  obtain ⟨w1, w2', w3⟩ := N.w S
  have nk16 := K.2.1
  obtain ⟨shp, sm, s240⟩ := N.shp hs
  have r28 : ai rA 28 s = ai R 28 s := (hg_s hg (q := 28) (by omega) hs n120).1
  have s31 : s < 2 ^ 31 := by have := hs.2; omega
  rw [bk_X9_goTry_17]
  refine ⟨fun _ => ?_, fun z => absurd (M.one nk16).2.2.2.1 z⟩
  rw [bk_X9_goTry_22, nn_some, SI.2.2.2.2.2.2.1, if_pos e19]
  refine ⟨SI.1.1, w1, ?_⟩
  cases e28 : oN (ai R 28 s) with
  | none =>
    have z28 : ai R 28 s = -1 := by
      unfold oN at e28
      split at e28
      · assumption
      · cases e28
    have ef : finF rA s = rA := by unfold finF; rw [if_pos (by rw [r28]; exact z28)]
    rw [ef] at H
    rw [show Option.map (G 1) none = none from rfl, bk_X9_goThrough_0]
    refine ⟨fun y => absurd rfl y, fun _ => ?_⟩
    rw [bk_X9_goThrough_2]
    simp only [psh]
    rw [bk_X9_goTry_26]
    refine ⟨fun y => absurd rfl y, fun _ => ?_⟩
    rw [bk_X9_goTry_30, bk_X9_goTry_33]
    exact H h vA rA GW.rf S (Or.inr ⟨e68, e69, fk, M⟩)
  | some b =>
    obtain ⟨n28, t28⟩ := oN_some e28
    have mb := kid_mem (s := s) (Or.inr (Or.inr (Or.inl e28)))
    obtain ⟨k1, k2, k3, k4, k5, k6, k7, k8⟩ := kid_f N X.1 X.2.1 X.2.2.1 X.2.2.2.1 X.2.2.2.2 mb
    have ro : ai R 40 b = 7 := by
      obtain ⟨k0, z0, z00, B6, B7, B8, -⟩ := shp
      exact (B8.some sm e28).2.2.2.1
    have ec : fcN rA = f + 1 := by unfold fcN; rw [e69, tn_nI (by omega)]
    have ef : finF rA s = pusF (sI (tI (tI rA 54 (f + 1) (gi rA 1466)) 55 (f + 1) (gi rA 1467)) 1466 0) b := by
      unfold finF
      rw [if_neg (by rw [r28]; exact n28), r28, t28, ec]
    rw [ef] at H
    have S1 : WKS h0 W U R G rB D h (sI (tI (tI rA 54 (f + 1) (gi rA 1466)) 55 (f + 1) (gi rA 1467)) 1466 0) := S.cg (((KPW.rf.t _ (by decide)).t _ (by decide)).s _ (by decide)) rfl rfl (fun _ _ => rfl)
    have c1 : gi (sI (tI (tI rA 54 (f + 1) (gi rA 1466)) 55 (f + 1) (gi rA 1467)) 1466 0) 1466 = 0 := by rw [gi_sI, if_pos rfl]
    have c2 : gi (sI (tI (tI rA 54 (f + 1) (gi rA 1466)) 55 (f + 1) (gi rA 1467)) 1466 0) 11468 = 0 := by rw [gi_sI, if_neg (by decide)]; exact e68
    have c3 : gi (sI (tI (tI rA 54 (f + 1) (gi rA 1466)) 55 (f + 1) (gi rA 1467)) 1466 0) 1469 = nI (f + 1) := by rw [gi_sI, if_neg (by decide)]; exact e69
    have c4 : ai (sI (tI (tI rA 54 (f + 1) (gi rA 1466)) 55 (f + 1) (gi rA 1467)) 1466 0) 54 (f + 1) = gi rA 1466 := by rw [ai_sI, ai_tI, if_neg (by omega), ai_tI, if_pos ⟨rfl, rfl⟩]
    have c5 : ai (sI (tI (tI rA 54 (f + 1) (gi rA 1466)) 55 (f + 1) (gi rA 1467)) 1466 0) 55 (f + 1) = gi rA 1467 := by rw [ai_sI, ai_tI, if_pos ⟨rfl, rfl⟩]
    have c6 : FRK (f + 1) rA (sI (tI (tI rA 54 (f + 1) (gi rA 1466)) 55 (f + 1) (gi rA 1467)) 1466 0) := fun q i _ _ hi => by rw [ai_sI, ai_tI, if_neg (by omega), ai_tI, if_neg (by omega)]
    generalize sI (tI (tI rA 54 (f + 1) (gi rA 1466)) 55 (f + 1) (gi rA 1467)) 1466 0 = r1 at *
    refine wk_kid N IH X hm mb S1 c1 c2 c3 hf hD (fun z => by rw [ro] at z; exact absurd z (by decide)) (fun z => by rw [ro] at z; exact absurd z (by decide)) (by omega) (fun h2 v r2 g2 S2 B2 => ?_)
    simp only [psh]
    rw [bk_X9_goTry_26]
    rcases B2 with B2 | B2
    · have ev := B2.1
      rw [ev]
      refine ⟨fun _ => ?_, fun z => absurd (by decide) z⟩
      rw [bk_X9_goTry_32, bk_X9_goTry_33]
      rw [ev] at B2
      exact H h2 _ r2 g2 S2 (Or.inl B2)
    · have hg2 := N.hg S2
      have e40 : ai r2 40 b = 7 := by rw [hg_b hg2 (by omega) k7.1 k7.2 n1024]; exact ro
      have g3 := lv_turn N S2 k1 (show f + 1 < 15 by omega) B2 (fun z => by rw [ro] at z; exact absurd z (by decide)) (fun z => by rw [ro] at z; exact absurd z (by decide))
      rw [lvF_7 (show ai (sI r2 1469 (nI (f + 1))) 40 b = 7 from e40)] at g3
      obtain ⟨b1, b2, b3, b4, b54, b55, b5, b6, b7⟩ := B2
      have fk3 : FRK (f + 1) r0 r2 := (fk.tr c6).tr b3
      have tu : tgF R 2048 b = tgF R 2048 j := by
        rw [tg_up T.2.2.2.1 k7.1 k7.2 k2, if_neg (by rw [ro]; decide), if_neg (by rw [ro]; decide)]
      have mo := b5.one nk16
      by_cases z : gi r2 1466 = 0
      · have ev := mo.2.2.1.mpr z
        rw [ev]
        refine ⟨fun y => absurd rfl y, fun _ => ?_⟩
        rw [bk_X9_goTry_30, bk_X9_goTry_33]
        have el : lvLs (sI r2 1469 (nI (f + 1))) (f + 1) = sI (sI (sI r2 1469 (nI (f + 1))) 1466 (gi rA 1466)) 1467 (gi rA 1467) := by
          unfold lvLs
          rw [if_pos (show gi (sI r2 1469 (nI (f + 1))) 1466 = 0 by rw [gi_sI, if_neg (by decide)]; exact z)]
          show sI (sI (sI r2 1469 (nI (f + 1))) 1466 (ai r2 54 (f + 1))) 1467 (ai r2 55 (f + 1)) = _
          rw [b54, b55, c4, c5]
        rw [el] at g3
        refine H h2 vA _ (g2.tr g3) (S2.cg (((KPW.rf.s _ (by decide)).s _ (by decide)).s _ (by decide)) rfl rfl (fun _ _ => rfl)) (Or.inr ⟨?_, ?_, fk3.cg (fun _ _ _ => rfl), M.cg ?_ ?_⟩)
        · rw [gi_sI, if_neg (by decide), gi_sI, if_neg (by decide), gi_sI, if_neg (by decide)]; exact b1
        · rw [gi_sI, if_neg (by decide), gi_sI, if_neg (by decide), gi_sI, if_pos rfl]
        · rw [gi_sI, if_neg (by decide), gi_sI, if_pos rfl]
        · rw [gi_sI, if_pos rfl]
      · refine ⟨fun _ => ?_, fun y => absurd (fun q => z (mo.2.2.1.mp q)) y⟩
        rw [bk_X9_goTry_32, bk_X9_goTry_33]
        have el : lvLs (sI r2 1469 (nI (f + 1))) (f + 1) = sI r2 1469 (nI (f + 1)) := by
          unfold lvLs
          rw [if_neg (show ¬ gi (sI r2 1469 (nI (f + 1))) 1466 = 0 by rw [gi_sI, if_neg (by decide)]; exact z)]
        rw [el] at g3
        refine H h2 v _ (g2.tr g3) (S2.cg (KPW.rf.s _ (by decide)) rfl rfl (fun _ _ => rfl)) (Or.inr ⟨?_, ?_, fk3.cg (fun _ _ _ => rfl), (b5.up tu).cg ?_ ?_⟩)
        · rw [gi_sI, if_neg (by decide)]; exact b1
        · rw [gi_sI, if_pos rfl]
        · rw [gi_sI, if_neg (by decide)]
        · rw [gi_sI, if_neg (by decide)]
theorem go_try (N : WEN h0 U V' e0 W R C L G fW par wk pk fS ks rB dp) (IH : GOB h0 W U R G rB dp m) (X : SCX R G j s) (hm : G 5 j - G 4 j ≤ m + 1) (A : AST h0 W U R G rB dp D f j h r) (e19 : ai R 19 s = 9) (H : FIN h0 W U R G rB D f j s r Q) : wp (d + 8 * m + 26) K_X9_goOver 51 [] [(0, vr (some W)), (1, vr (some (G 0 s)))] h Q := by
  obtain ⟨T, K, n12, n120, n1024, w2⟩ := N.t
  obtain ⟨S, a1, a2, a3, a4, a5⟩ := A
  have hs := X.2.1
  obtain ⟨SI, JS⟩ := N.si S hs
  have hg := N.hg S
  obtain ⟨w1, w2', w3⟩ := N.w S
  have nk16 := K.2.1
  have r19 : ai r 19 s = ai R 19 s := (hg_s hg (q := 19) (by omega) hs n120).1
  have r26 : ai r 26 s = ai R 26 s := (hg_s hg (q := 26) (by omega) hs n120).1
  obtain ⟨shp, sm, s240⟩ := N.shp hs
  have s31 : s < 2 ^ 31 := by have := hs.2; omega
  obtain ⟨b, q1, q2, q3, q4, q5⟩ := kid_26 N hs (k := 9) e19 (by omega)
  obtain ⟨k1, k2, k3, k4, k5, k6, k7, k8⟩ := kid_f N X.1 X.2.1 X.2.2.1 X.2.2.2.1 X.2.2.2.2 q3
  have eb : begF r (wN R) (nkN R) (nmN R) s = pusF r b := by rw [begF_9 (by rw [r19]; exact e19), r26, q5]
  have ro : ai R 40 b = 5 := q4
  unfold FIN at H
  rw [eb] at H
  have n4 : tn (ai R 32 s) ≤ 4 := (T.2.1 s hs.1 hs.2).1.2.1.2
  rw [bk_X9_goOver_51]
  refine ⟨w1, ?_⟩
  rw [bk_X9_goTry_0, nn_some, SI.2.2.2.2.2.1, q2]
  refine ⟨SI.1.1, w1, ?_⟩
  refine wk_kid N IH X hm q3 S a1 a2 a3 a4 a5 (fun z => by rw [ro] at z; exact absurd z (by decide)) (fun z => by rw [ro] at z; exact absurd z (by decide)) (by omega) (fun h2 v r2 g2 S2 B2 => ?_)
  simp only [psh]
  rw [bk_X9_goTry_4]
  rcases B2 with B2 | B2
  · have ev := B2.1
    rw [ev]
    refine ⟨fun _ => ?_, fun z => absurd rfl z⟩
    rw [bk_X9_goTry_17]
    refine ⟨fun z => absurd rfl z, fun _ => ?_⟩
    rw [bk_X9_goTry_20]
    simp only [psh]
    rw [bk_X9_goOver_54]
    rw [ev] at B2
    exact H h2 _ r2 g2 S2 (Or.inl B2)
  · have hg2 := N.hg S2
    have e40 : ai r2 40 b = 5 := by rw [hg_b hg2 (by omega) k7.1 k7.2 n1024]; exact ro
    have e41 : tn (ai r2 41 b) = s := by rw [hg_b hg2 (by omega) k7.1 k7.2 n1024, k3, tn_nI s31]
    have B0 := B2
    obtain ⟨b1, b2, b3, b4, -, -, b5, b6, b7⟩ := B2
    have tu : tgF R 2048 b = tgF R 2048 j := by
      rw [tg_up T.2.2.2.1 k7.1 k7.2 k2, if_neg (by rw [ro]; decide), if_neg (by rw [ro]; decide)]
    obtain ⟨SI2, JS2⟩ := N.si S2 hs
    refine ⟨fun z => absurd z (b5.one nk16).2.2.2.1, fun _ => ?_⟩
    rw [bk_X9_goTry_8, nn_some, SI2.2.2.2.2.2.2.2.1, if_pos (Or.inl e19)]
    refine ⟨SI2.1.1, (N.w S2).1, ?_⟩
    refine wk_close (d := d + 8 * m + 17) (r := sI r2 1469 (nI (f + 1))) (b := b) N hs e19 (S2.cg (KPW.rf.s _ (by decide)) rfl rfl (fun _ _ => rfl)) (b5.cg (by rw [gi_sI, if_neg (by decide)]) (by rw [gi_sI, if_neg (by decide)])) (fun h3 v3 S3 M3 d3 => ?_)
    have g4 := lv_turn N S2 k1 (show f + 1 < 15 by omega) B0 (fun z => by rw [ro] at z; exact absurd z (by decide)) (fun _ y => by
      rw [k3, tn_nI s31] at y ⊢
      obtain ⟨k, -, p1, p2⟩ := (M3.one nk16).1 y
      exact ⟨k, p1, p2⟩)
    rw [lvF_5 (show ai (sI r2 1469 (nI (f + 1))) 40 b = 5 from e40), show ai (sI r2 1469 (nI (f + 1))) 41 b = ai r2 41 b from rfl, e41] at g4
    generalize lvCl (sI r2 1469 (nI (f + 1))) (wN R) (nkN R) (nmN R) s = r3 at *
    have c1 : gi r3 11468 = 0 := by rw [d3.2.2 11468 (by decide) (by decide), gi_sI, if_neg (by decide)]; exact b1
    have c2 : gi r3 1469 = nI (f + 1) := by rw [d3.2.2 1469 (by decide) (by decide), gi_sI, if_pos rfl]
    have c3 : FRK (f + 1) r r3 := b3.cg (fun q _ _ => by rw [d3.1]; rfl)
    have hg3 := N.hg S3
    have FI : ∀ h5 r5 v5, WKS h0 W U R G rB D h5 r5 → gi r5 11468 = 0 → gi r5 1469 = nI (f + 1) → FRK (f + 1) r r5 → MOD R j v5 r5 → GW R r2 (finF r5 s) → wp (d + 8 * m + 25) K_X9_goTry 17 [] [(0, vr (some W)), (1, vr (some (G 0 s))), (2, vi v5)] h5 (fun v h1 => wp (d + 8 * m + 26) K_X9_goOver 54 (psh v []) [(0, vr (some W)), (1, vr (some (G 0 s)))] h1 Q) := fun h5 r5 v5 S5 p1 p2 p3 p4 p5 => by
      refine wtry_fin N IH X hm e19 a4 a5 S5 p1 p2 p3 p4 (fun h6 v6 r6 g6 S6 E6 => ?_)
      simp only [psh]
      rw [bk_X9_goOver_54]
      exact H h6 v6 r6 (g2.tr (p5.tr g6)) S6 E6
    simp only [psh]
    rw [bk_X9_goTry_15, nn_some]
    refine ⟨(N.w S3).1, ?_⟩
    by_cases m1 : gi r3 1466 = 1
    · obtain ⟨k, ek, hk, e67⟩ := (M3.one nk16).1 m1
      rw [ek] at M3 ⊢
      refine wk_catch (d := d + 8 * m + 19) N hs S3 hk e67 (fun ec => ?_) (fun i ec hi => ?_)
      · have g5 : GW R r2 (finF r3 s) := by
          unfold lvB1 at g4
          rw [if_pos m1, ec] at g4
          exact g4
        simp only [psh]
        rw [bk_X9_goTry_16]
        exact FI h3 r3 _ S3 c1 c2 c3 (M3.up tu) g5
      · obtain ⟨k0, z0, z00, B6, B7, B8, B9, -⟩ := shp
        obtain ⟨bk, nb⟩ := B9 i hi
        rcases bk with bk | ⟨b', f1, f2, f3, f4, f5, f6⟩
        · exact absurd bk nb
        have eo : oN (ai R 33 (4 * s + i)) = some b' := by rw [f1, oN_nI (by omega)]
        have t33 : tn (ai R 33 (4 * s + i)) = b' := by rw [f1, tn_nI (by omega)]
        have mb' : b' ∈ kids R s := kid_mem (Or.inr (Or.inr (Or.inr ⟨i, hi, t33⟩)))
        have epc : prC R b' = 4 * s + i := by unfold prC; rw [f5, f6, tn_nI s31, tn_nI (by omega)]
        have hc : CRG R (4 * s + i) := ⟨s, i, rfl, hs, hi, by omega⟩
        obtain ⟨u1, u2, u3, u4, u5, u6, u7, u8⟩ := kid_f N X.1 X.2.1 X.2.2.1 X.2.2.2.1 X.2.2.2.2 mb'
        have cf := (N.cat S3 hc).1
        have g5 : GW R r2 (pusF (sI (tI r3 56 (4 * s + i) (gi r3 1467)) 1466 0) b') := by
          unfold lvB1 at g4
          rw [if_pos m1, ec] at g4
          have g4 : GW R r2 (pusF (sI (tI r3 56 (4 * s + i) (gi r3 1467)) 1466 0) (tn (ai r3 33 (4 * s + i)))) := g4
          rw [(hg_s4 hg3 (q := 33) (by omega) hs n120 (by omega)).1, t33] at g4
          exact g4
        have S4 := S3.put N hc hk (r' := sI (tI r3 56 (4 * s + i) (gi r3 1467)) 1466 0) ((KPW.rf.t _ (by decide)).s _ (by decide)) rfl rfl (fun x hx => by rw [ai_sI, ai_tI, if_neg (fun z => hx z.2)]) (by rw [ai_sI, ai_tI, if_pos ⟨rfl, rfl⟩, e67])
        have x1 : gi (sI (tI r3 56 (4 * s + i) (gi r3 1467)) 1466 0) 1466 = 0 := by rw [gi_sI, if_pos rfl]
        have x2 : gi (sI (tI r3 56 (4 * s + i) (gi r3 1467)) 1466 0) 11468 = 0 := by rw [gi_sI, if_neg (by decide)]; exact c1
        have x3 : gi (sI (tI r3 56 (4 * s + i) (gi r3 1467)) 1466 0) 1469 = nI (f + 1) := by rw [gi_sI, if_neg (by decide)]; exact c2
        have x4 : FRK (f + 1) r (sI (tI r3 56 (4 * s + i) (gi r3 1467)) 1466 0) := c3.cg (fun q y1 y2 => by rw [show ai (sI (tI r3 56 (4 * s + i) (gi r3 1467)) 1466 0) q = ai (tI r3 56 (4 * s + i) (gi r3 1467)) q from rfl, ai_ne (by omega)])
        generalize sI (tI r3 56 (4 * s + i) (gi r3 1467)) 1466 0 = r4 at *
        have e305 : fP (setFI h3 309 (G 2 (4 * s + i)) (nI k)) 30305 (G 2 (4 * s + i)) = some (G 1 b') := cf.2.1.trans (by rw [eo]; rfl)
        rw [bk_X9_goCatch_21, nn_some, nn_some, e305]
        refine ⟨cf.1.2.1, cf.1.2.1, (N.w S3).1, ?_⟩
        refine wk_kid N IH X hm mb' S4 x1 x2 x3 a4 (fun m q an z => Or.inl (a5 m q an z)) (fun _ => Or.inr epc) (fun z => by rw [f4] at z; exact absurd z (by decide)) (by omega) (fun h5 v5 r5 g6 S5 B5 => ?_)
        have S5' := S5.less (D' := D) (fun x hx => Or.inl hx)
        simp only [psh]
        rw [bk_X9_goCatch_28]
        simp only [psh]
        rw [bk_X9_goTry_16]
        rcases B5 with B5 | B5
        · have ev := B5.1
          rw [ev, bk_X9_goTry_17]
          refine ⟨fun z => absurd rfl z, fun _ => ?_⟩
          rw [bk_X9_goTry_20]
          simp only [psh]
          rw [bk_X9_goOver_54]
          rw [ev] at B5
          exact H h5 _ r5 (g2.tr (g5.tr g6)) S5' (Or.inl B5)
        · have hg5 := N.hg S5
          have e40' : ai r5 40 b' = 6 := by rw [hg_b hg5 (by omega) u7.1 u7.2 n1024]; exact f4
          have e41' : tn (ai r5 41 b') = s := by rw [hg_b hg5 (by omega) u7.1 u7.2 n1024, u3, tn_nI s31]
          have g7 := lv_turn N S5 u1 (show f + 1 < 15 by omega) B5 (fun z => by rw [f4] at z; exact absurd z (by decide)) (fun z => by rw [f4] at z; exact absurd z (by decide))
          rw [lvF_6 (show ai (sI r5 1469 (nI (f + 1))) 40 b' = 6 from e40'), show ai (sI r5 1469 (nI (f + 1))) 41 b' = ai r5 41 b' from rfl, e41'] at g7
          obtain ⟨y1, y2, y3, y4, -, -, y5, y6, y7⟩ := B5
          have tu' : tgF R 2048 b' = tgF R 2048 j := by
            rw [tg_up T.2.2.2.1 u7.1 u7.2 u2, if_neg (by rw [f4]; decide), if_neg (by rw [f4]; decide)]
          refine FI h5 (sI r5 1469 (nI (f + 1))) v5 (S5'.cg (KPW.rf.s _ (by decide)) rfl rfl (fun _ _ => rfl)) ?_ ?_ ((x4.tr y3).cg (fun _ _ _ => rfl)) ((y5.up tu').cg ?_ ?_) (g5.tr (g6.tr g7))
          · rw [gi_sI, if_neg (by decide)]; exact y1
          · rw [gi_sI, if_pos rfl]
          · rw [gi_sI, if_neg (by decide)]
          · rw [gi_sI, if_neg (by decide)]
    · have g5 : GW R r2 (finF r3 s) := by
        unfold lvB1 at g4
        rw [if_neg m1] at g4
        exact g4
      rw [bk_X9_goCatch_0]
      refine ⟨fun _ => ?_, fun z => absurd ((M3.one nk16).2.1 m1) z⟩
      rw [bk_X9_goCatch_5]
      simp only [psh]
      rw [bk_X9_goTry_16]
      exact FI h3 r3 _ S3 c1 c2 c3 (M3.up tu) g5
end
