/-! A text is read: the beginning -/
theorem p_read0 {d : Nat} {h : AH} {Q : Option V → AH → Prop} {a T e0 n w B : Nat} {r R : RV} (ta : tg h a = 14) (ha : a < tp h) (pT : fP h 31300 a = some T) (S : STK h e0) (ST : ∀ i, i < 4 → ∃ s v, STR h i (lenS.getD i 0) (bytS.getD i []) s v ∧ v < tp h) (TT : TS h T (ai r 1) n) (hn : gi r 1401 = nI n) (n2 : n ≤ 2000) (hw : w < 2) (hB : B ≤ 16000) (hB2 : 3 * n + 100 ≤ B) (r1 : 40000 + 6 * B + 10 ≤ rc h) (r2 : 200000 + 60 * B + 90 ≤ rs h) (hd : 180 ≤ d + 9)
    (HR : ∀ h' hb r' nk' par' wk' pk' nm' fW' ns' fS' ks' B' G' n', goN n' (rdI r w) r' → gi r' 1451 = -1 → TOS hb T (tp h) e0 R (tp h + 10) (B + 3 * qN (rdI r w)) h' r' nk' par' wk' pk' nm' fW' ns' fS' ks' B' G' → FX (fun g y => ET T g y ∨ (g = 90003 ∧ y = e0)) h h' → wp (d + 12) K_X11_read 11 [vi (-1)] [(0, vr (some a)), (1, vr (some (tp h)))] h' Q)
    (HW : ∀ h' r' nm' fW' ns' fS' ks' B' n', goN n' (rdI r w) r' → ¬ gi r' 1452 = -1 → ES h' T (tp h) e0 0 r' 0 0 false none → LST h' (tp h) e0 nm' fW' ns' fS' ks' B' → B + 3 * qN (rdI r w) ≤ B' + 3 * n + 20 → FX (fun g y => ET T g y ∨ (g = 90003 ∧ y = e0)) h h' → wp (d + 12) K_X11_read 11 [vi (gi r' 1452)] [(0, vr (some a)), (1, vr (some (tp h)))] h' Q) : wp (d + 12) K_X11_read 0 [] [(0, vr (some a))] h Q := by
  have tT : T + 2 < tp h := TT.2.1
  have he : e0 < tp h := S.2.2.2.1
  have SV : SGV h (tp h) := by
    obtain ⟨s, v, s1⟩ := TT.2.2.2.2.2.2.2.2.2.2.2.2
    exact ⟨s, v, s1.1, s1.2.2.2.2.2.2.2.1, s1.2.2.1, s1.2.2.2.2.2.2.2.2.1⟩
  obtain ⟨P, g47, g48, g52, g55, g02, ea, el⟩ := rdY_v (w := w) hn n2
  obtain ⟨A, er, dr, wv, k4, m0, s0, b0, len, ai1, bw⟩ := ril_0 (w := w) hn n2 hw
  have aY : ai (rdY r w) 1 = ai r 1 := by rw [ea, cr_lo _ _ (by decide)]; rfl
  rw [bk_X11_read_0]
  refine ⟨by omega, by omega, ?_⟩
  have t11 : tg (newO h 10 4) (tp h) = 11 := by rw [tg_newO, if_pos rfl]
  have x1 : FX (fun g y => tp h ≤ y ∧ g / 100 % 100 < 20) h (newO h 10 4) := FX.O (by decide)
  have tp1 : tp (newO h 10 4) = tp h + 1 := tp_newO h 10 4
  have c1 := rc_newO h 10 4
  have q1 := rs_newO h 10 4
  generalize newO h 10 4 = h1 at *
  have noS : ∀ g y, g = 39800 ∨ g = 36900 ∨ g = 46901 ∨ g = 9901 ∨ g = 9900 ∨ g = 39900 → ¬ (tp h ≤ y ∧ g / 100 % 100 < 20) := fun g y hg z => by omega
  have S1 := S.fx x1 (fun y => noS _ _ (by omega)) (fun y => noS _ _ (by omega)) (fun y => noS _ _ (by omega))
  rw [bk_X11_read_1, nn_some]
  refine ⟨t11, u_init (d := d + 5) (e0 := e0) t11 tp1 S1 he (fun i hi => ?_) (by omega) (by omega) (fun h2 par wk pk K2 vals uf al2 x2 tp2 c2 q2 => ?_)⟩
  · obtain ⟨s, v, s1, s2⟩ := ST i hi
    exact ⟨s, v, s1.fx x1 (fun y => noS _ _ (by omega)) (fun y => noS _ _ (by omega)) (fun y => noS _ _ (by omega)) (fun y => noS _ _ (by omega)) (fun z => by omega) (fun y => noS _ _ (by omega)), s2⟩
  have X2 : FX (fun g y => tp h ≤ y ∧ g / 100 % 100 < 20) h h2 := x1.tr (x2.mono (fun g y z => by omega))
  simp only [psh]
  rw [bk_X11_read_3]
  refine ⟨by omega, by omega, ?_⟩
  have t8 : tg (newO h2 7 7) (tp h + 9) = 8 := by rw [tg_newO, if_pos (by omega)]
  have X3 : FX (fun g y => tp h ≤ y ∧ g / 100 % 100 < 20) h (newO h2 7 7) := X2.tr (FX.O (by decide))
  have y3 : FX (fun g y => y = tp h + 9 ∧ g / 100 % 100 = 7) h2 (newO h2 7 7) := FX.O (by decide)
  have f3 := FO.new h2 7 7
  have tp3 : tp (newO h2 7 7) = tp h + 10 := by rw [tp_newO]; omega
  have c3 := rc_newO h2 7 7
  have q3 := rs_newO h2 7 7
  rw [tp2] at f3 ⊢
  generalize newO h2 7 7 = h3 at *
  have ta3 : tg h3 a = 14 := by rw [X3.tg ha]; exact ta
  have pT3 : fP h3 31300 a = some T := by rw [X3.fP ha (fun z => by omega)]; exact pT
  rw [bk_X11_read_5, nn_some, pT3]
  refine ⟨ta3, t8, ?_⟩
  rw [bk_X5_init_0, bk_X5_init_11]
  refine ⟨t8, t8, t8, ?_⟩
  simp only [psh]
  have X4 : FX (fun g y => tp h ≤ y ∧ g / 100 % 100 < 20) h (setFP (setFP (setFI h3 702 (tp h + 9) (-1)) 30700 (tp h + 9) (some T)) 30701 (tp h + 9) (some (tp h))) := ((X3.toFI _ ⟨by omega, by decide⟩).toFP _ ⟨by omega, by decide⟩).toFP _ ⟨by omega, by decide⟩
  have y4 : FX (fun g y => y = tp h + 9 ∧ g / 100 % 100 = 7) h2 (setFP (setFP (setFI h3 702 (tp h + 9) (-1)) 30700 (tp h + 9) (some T)) 30701 (tp h + 9) (some (tp h))) := ((y3.toFI _ ⟨rfl, by decide⟩).toFP _ ⟨rfl, by decide⟩).toFP _ ⟨rfl, by decide⟩
  have f4 := ((f3.sI 702 (-1)).sP 30700 (some T)).sP 30701 (some (tp h))
  have t84 : tg (setFP (setFP (setFI h3 702 (tp h + 9) (-1)) 30700 (tp h + 9) (some T)) 30701 (tp h + 9) (some (tp h))) (tp h + 9) = 8 := t8
  have tp4 : tp (setFP (setFP (setFI h3 702 (tp h + 9) (-1)) 30700 (tp h + 9) (some T)) 30701 (tp h + 9) (some (tp h))) = tp h + 10 := tp3
  have c4 : rc (setFP (setFP (setFI h3 702 (tp h + 9) (-1)) 30700 (tp h + 9) (some T)) 30701 (tp h + 9) (some (tp h))) = rc h3 := rfl
  have q4 : rs (setFP (setFP (setFI h3 702 (tp h + 9) (-1)) 30700 (tp h + 9) (some T)) 30701 (tp h + 9) (some (tp h))) = rs h3 := rfl
  generalize setFP (setFP (setFI h3 702 (tp h + 9) (-1)) 30700 (tp h + 9) (some T)) 30701 (tp h + 9) (some (tp h)) = h4 at *
  have p700 : fP h4 30700 (tp h + 9) = some T := by rw [(f4 30700 (by decide)).2.2]; rfl
  have p701 : fP h4 30701 (tp h + 9) = some (tp h) := by rw [(f4 30701 (by decide)).2.2]; rfl
  have tT4 : tg h4 T = 10 := by rw [X4.tg (by omega)]; exact TT.1
  rw [bk_X11_read_10, nn_some]
  refine ⟨t84, ?_⟩
  rw [bk_X5_parse_0, p700, nn_some]
  refine ⟨t84, tT4, ?_⟩
  rw [bk_X7_start_0]
  have X5 : FX (fun g y => (tp h ≤ y ∧ g / 100 % 100 < 20) ∨ ET T g y) h (setFI h4 903 T 0) := (X4.mono (fun _ _ z => Or.inl z)).toFI _ (Or.inr ⟨rfl, Or.inl rfl⟩)
  have TT5 : TS (setFI h4 903 T 0) T (ai r 1) n := TT.fy SV X5 (fun z => by rcases z with z | z; omega; unfold ET at z; omega) (fun z => by rcases z with z | z; omega; unfold ET at z; omega) (fun z => by rcases z with z | z; omega; unfold ET at z; omega) (fun z => by rcases z with z | z; omega; unfold ET at z; omega) (fun z => by rcases z with z | z; omega; unfold ET at z; omega) (fun y => ⟨fun z => by rcases z with z | z; omega; unfold ET at z; omega, fun z => by rcases z with z | z; omega; unfold ET at z; omega, fun z => by rcases z with z | z; omega; unfold ET at z; omega, fun z => by rcases z with z | z; omega; unfold ET at z; omega, fun z => by rcases z with z | z; omega; unfold ET at z; omega⟩) (fun y hy z => by rcases z with z | z; omega; unfold ET at z; omega)
  have i5 : fI (setFI h4 903 T 0) 903 T = 0 := fFI_same _ _ _ _
  have w5 : TW T h4 (setFI h4 903 T 0) := TW.FI (Or.inl rfl)
  refine ⟨tT4, tT4, ?_⟩
  generalize setFI h4 903 T 0 = h5 at *
  refine p_advance (d := d + 4) (r := rdY r w) (by rw [aY, g48, tn_nI (by omega)]; exact TT5) P (by rw [g47]; exact i5) (fun h6 w6 tk => ?_)
  rw [← rd_is] at tk
  have W := w5.tr w6
  simp only [psh, bk_X7_start_5]
  rw [bk_X5_parse_3, lt0]
  -- the state at the first token
  have Xw : FX (fun g y => ET T g y) h4 h6 := W.1
  have nU : ∀ g y, tp h ≤ y → ¬ ET T g y := fun g y hy z => by unfold ET at z; omega
  have X6 : FX (fun g y => (tp h ≤ y ∧ g / 100 % 100 < 20) ∨ ET T g y) h h6 := (X4.mono (fun _ _ z => Or.inl z)).tr (Xw.mono (fun _ _ z => Or.inr z))
  have Y6 : FX (fun g y => (y = tp h + 9 ∧ g / 100 % 100 = 7) ∨ ET T g y) h2 h6 := (y4.mono (fun _ _ z => Or.inl z)).tr (Xw.mono (fun _ _ z => Or.inr z))
  have nY : ∀ g y, tp h ≤ y → ¬ y = tp h + 9 → ¬ ((y = tp h + 9 ∧ g / 100 % 100 = 7) ∨ ET T g y) := fun g y h1 h2 z => by
    rcases z with z | z
    · omega
    · exact nU g y h1 z
  have noX : ∀ g y, g = 39800 ∨ g = 36900 ∨ g = 46901 ∨ g = 9901 ∨ g = 9900 ∨ g = 39900 → ¬ ((tp h ≤ y ∧ g / 100 % 100 < 20) ∨ ET T g y) := fun g y hg z => by
    rcases z with z | z
    · omega
    · unfold ET at z; omega
  have S6 := S.fx X6 (fun y => noX _ _ (by omega)) (fun y => noX _ _ (by omega)) (fun y => noX _ _ (by omega))
  have tp6 : tp h6 = tp h + 10 := by rw [W.2.1]; exact tp4
  have f6 : FO h6 7 (tp h + 9) _ _ _ := f4.fx Xw (by omega) (fun f hf => nU _ _ (by omega))
  have K6 : KD h6 (tp h + 1) 4 par wk pk := K2.fx Y6 (fun g => nY _ _ (by omega) (by omega)) (nY _ _ (by omega) (by omega)) (nY _ _ (by omega) (by omega)) (nY _ _ (by omega) (by omega)) (nY _ _ (by omega) (by omega))
  have A6 := al2.1.fx Y6 (nY _ _ (by omega) (by omega)) (nY _ _ (by omega) (by omega)) (Or.inl rfl)
  have A7 := al2.2.1.fx Y6 (nY _ _ (by omega) (by omega)) (nY _ _ (by omega) (by omega)) (Or.inl rfl)
  have A8 := al2.2.2.fx Y6 (nY _ _ (by omega) (by omega)) (nY _ _ (by omega) (by omega)) (Or.inl rfl)
  have SV6 : SGV h6 (tp h) := by
    obtain ⟨s, v, s1, s2, s3, s4⟩ := SV
    exact ⟨s, v, by rw [(X6.2.2.1 39800 5 (Or.inr (by decide)) (noX _ _ (by omega))).2.2]; exact s1, by omega, by rw [X6.fP s2 (noX _ _ (by omega))]; exact s3, s4⟩
  have C6 : CXT h6 T (tp h) e0 := ⟨⟨S6, SV6⟩, tT, by omega, by rw [Y6.tg (by omega)]; exact uf.1, by rw [Y6.fP (by omega) (nY _ _ (by omega) (by omega))]; exact uf.2.1, by rw [Y6.fP (by omega) (nY _ _ (by omega) (by omega))]; exact uf.2.2.1, by rw [Y6.fP (by omega) (nY _ _ (by omega) (by omega))]; exact uf.2.2.2.1, by rw [Y6.fP (by omega) (nY _ _ (by omega) (by omega))]; exact uf.2.2.2.2, by rw [Xw.tg (by omega)]; exact t84, by rw [Xw.fP (by omega) (nU _ _ (by omega))]; exact p700, by rw [Xw.fP (by omega) (nU _ _ (by omega))]; exact p701⟩
  have q6 := A.q
  have E6 : ES h6 T (tp h) e0 0 (rdI r w) 0 0 false none := ⟨C6, tk.1, ⟨by rw [(f6 702 (by decide)).1, er]; rfl, by rw [(f6 703 (by decide)).1]; rfl, by rw [(f6 704 (by decide)).1]; rfl, by rw [(f6 10705 (by decide)).1]; rfl, by rw [(f6 30706 (by decide)).2.2]; rfl⟩, ⟨qN (rdI r w), by rw [tk.2.1]; exact q6.1, by omega, q6.2.1⟩, fun _ => ⟨tk, A.1⟩⟩
  have ln0 : ln h6 e0 = 0 := S6.2.2.1
  have c6 := W.2.2.1
  have q6' := W.2.2.2
  have L6 : LST h6 (tp h) e0 0 (fun _ => 0) 0 (fun _ => 0) [] B := ⟨e0, e0, e0, A6, A7, ⟨fun _ => 0, A8, fun i hi => absurd hi (Nat.not_lt_zero _)⟩, ⟨fun i hi => by omega, fun i hi => by omega⟩, ⟨by simp [leL], fun k hk => by cases hk⟩, ⟨Or.inl rfl, Or.inl rfl, Or.inl rfl, he⟩, by omega, by omega, by show 0 + B ≤ 16000; omega, by omega, by omega⟩
  have END : ∀ h', FX (EPT T (tp h) e0) h4 h' → FX (fun g y => ET T g y ∨ (g = 90003 ∧ y = e0)) h h' := fun h' x => by
    refine ((X4.mono (E' := fun g y => (tp h ≤ y ∧ g / 100 % 100 < 20) ∨ EPT T (tp h) e0 g y) (fun _ _ z => Or.inl z)).tr (x.mono (fun _ _ z => Or.inr z))).less (fun g y hy z => ?_) (fun y hy z => ?_) (fun y hy z => ?_)
    · rcases z with z | z | z | z | z
      · omega
      · rcases EPa_is z with z | z | z | ⟨z, -⟩ | z
        · exact Or.inl z
        · omega
        · rcases z.2 with z2 | z2
          · omega
          · exact Or.inr ⟨z.1, z2⟩
        · cases z
        · omega
      · omega
      · omega
      · omega
    · rcases z with z | z | z | z | z
      · omega
      · exact absurd z (EPa_no (by omega))
      · omega
      · omega
      · omega
    · rcases z with z | z | z | z | z
      · omega
      · rcases EPa_is z with z | z | z | ⟨z, -⟩ | z
        · exact Or.inl z
        · omega
        · rcases z.2 with z2 | z2
          · omega
          · exact Or.inr ⟨z.1, z2⟩
        · cases z
        · omega
      · omega
      · omega
      · omega
  refine p_loop (d := d) blc_0 (hB := h4) (T := T) (U := tp h) (e0 := e0) (r0 := rdI r w) (R := R) (a0 := tp h + 10) (B0 := B + 3 * qN (rdI r w)) hd (fun h' r' nk' par' wk' pk' nm' fW' ns' fS' ks' B' G' n' gn e51 S' => ?_) (fun h' r' nm' fW' ns' fS' ks' B' n' gn bad E' L' c' X' => ?_) 2000 0 rfl h6 (rdI r w) 4 par wk pk 0 (fun _ => 0) 0 (fun _ => 0) [] B (fun _ _ => 0) 0 rfl rfl (Nat.zero_le _) ⟨⟨A, er, dr⟩, E6, K6, L6, ⟨k4.symm, m0.symm, s0.symm⟩, ⟨Nat.le_refl _, by rw [len]; omega⟩, ⟨Nat.le_refl _, by omega⟩, Xw.mono (fun g y z => Or.inl (Or.inl z)), fun EN => ?_⟩
  · simp only [psh]
    exact HR h' h4 r' nk' par' wk' pk' nm' fW' ns' fS' ks' B' G' n' gn e51 S' (END h' S'.2.2.2.2.2.2.2.1)
  · simp only [psh]
    exact HW h' r' nm' fW' ns' fS' ks' B' n' gn bad E' L' (by rw [← len]; exact c') (END h' X')
  · clear HR HW E6 tk
    generalize rdI r w = r0 at *
    obtain ⟨f1, f2, f3', f4', f5⟩ := fk_en EN A
    have rki : rkI r0 = wN r0 * 16 + nkN r0 := rfl
    rw [wv, k4] at rki
    have e1 : rsN r0 = wN r0 * 120 + nsC r0 := rfl
    rw [s0, Nat.add_zero] at e1
    have e2 : nbN r0 = wN r0 * 1024 + nbC r0 := rfl
    rw [b0, Nat.add_zero] at e2
    refine ⟨fun k hk => ?_, fun k hk => by omega, by rw [e1, e2]; exact AD.nil (Nat.le_refl _), ⟨by rw [e1]; rfl, fun b hb => by cases hb⟩, fun m hm => by omega, ?_, ?_, upd_en EN A (upd_0 A b0 s0)⟩
    · obtain ⟨b1, b2, b3⟩ := bw k hk
      obtain ⟨v1, v2, v3⟩ := vals k hk
      have g3 := f4' 3 ((1 - w) * 16 + k) (by omega) (by omega) (by omega)
      have g4 := f4' 4 ((1 - w) * 16 + k) (by omega) (by omega) (by omega)
      have g5 := f4' 5 ((1 - w) * 16 + k) (by omega) (by omega) (by omega)
      rw [wv, g3.2, g4.1, g5.1, b1, b2, b3]
      refine ⟨v1, WV_bw k hk, ?_, ?_, v3⟩
      · rw [q6.1]
        have : ∀ q : Nat, q ≤ 2000 → (-1 : Int32) < nI q := by decide +kernel
        exact this _ q6.2.1
      · rw [v2]; unfold parN; rw [if_pos hk]
    · rw [s0]; exact CTK.rf
    · rw [s0, b0]; show 0 + 2 * 0 ≤ _; omega
