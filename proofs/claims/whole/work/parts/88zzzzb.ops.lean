/-! The law: what holds between calls -/
def FXS (h : AH) (b Ln : Nat) (xs : Nat → Int32) (e0 a : Nat) : Prop := (tg h b = 151 ∧ ln h b = Ln ∧ (∀ j, aI h b j = xs j) ∧ b < a) ∧ (STK h e0 ∧ e0 < a) ∧ ∀ i, i < 6 → ∃ s v, STR h i (lenS.getD i 0) (bytS.getD i []) s v ∧ v < a
theorem FXS.fx {E : Nat → Nat → Prop} {h h' : AH} {b Ln e0 a : Nat} {xs : Nat → Int32} (F : FXS h b Ln xs e0 a) (x : FX E h h') (ha : a ≤ tp h) (o : ∀ g y, E g y → g / 100 % 100 < 69 ∧ (g = 90001 → a < y)) : FXS h' b Ln xs e0 a := by
  obtain ⟨⟨b1, b2, b3, b4⟩, ⟨s1, s2⟩, st⟩ := F
  have no : ∀ g, 69 ≤ g / 100 % 100 → ∀ y, ¬ E g y := fun g hg y z => by have := (o g y z).1; omega
  refine ⟨⟨by rw [x.tg (by omega)]; exact b1, by rw [x.ln (by omega)]; exact b2, fun j => by rw [x.aI (by omega) (fun z => by have := (o _ _ z).2 rfl; omega)]; exact b3 j, b4⟩, ⟨s1.fx x (no 39900 (by decide)) (no 9900 (by decide)) (no 9901 (by decide)), s2⟩, fun i hi => ?_⟩
  obtain ⟨s, v, q1, q2⟩ := st i hi
  exact ⟨s, v, q1.fx x (no 39800 (by decide)) (no 36900 (by decide)) (no 46901 (by decide)) (no 9901 (by decide)) (fun z => by have := (o _ _ z).2 rfl; omega) (no 9900 (by decide)), q2⟩
theorem FXS.sc {h : AH} {b Ln e0 a i k : Nat} {xs : Nat → Int32} (F : FXS h b Ln xs e0 a) (hi : i + 6 ≤ Ln) (hL : Ln ≤ 3072) (hk : k < 6) : (tg h b = 101 ∨ tg h b = 151) ∧ vp_in (nI (i + k)) (ln h b) ∧ aI h b (Int32.toNatClampNeg (nI (i + k))) = xs (i + k) := ⟨Or.inr F.1.1, by rw [F.1.2.1]; exact pk_in (i + k) Ln (by omega), by rw [nI_clamp (by omega)]; exact F.1.2.2.1 _⟩
theorem FXS.sgv {h : AH} {b Ln e0 a : Nat} {xs : Nat → Int32} (F : FXS h b Ln xs e0 a) : SGV h a := by
  obtain ⟨s, v, q1, q2⟩ := F.2.2 5 (by omega)
  exact ⟨s, v, q1.1, q1.2.2.2.2.2.2.2.1, q1.2.2.1, q2⟩
/-- the class's side -/
def CIN (h : AH) (b Ln : Nat) (xs : Nat → Int32) (a e0 m U V' : Nat) (R : RV) (C L : Nat → Int32) (G : Nat → Nat → Nat) (fW par : Nat → Nat) (wk : Nat → Int64) (pk : Nat → Int32) (fS : Nat → Nat) (ks : List Nat) (t : Nat → Int32) (n : Nat) (v65 : Int32) : Prop := (FXS h b Ln xs e0 a ∧ a + 71 ≤ tp h) ∧ (COB h a (a + 1) (a + 4) U ∧ UNF h U V' e0 R C L G (nmN R) fW (nkN R) par wk pk (nsC R) fS ks ∧ ((U = a + 5 ∧ V' = a + 14) ∨ a + 71 ≤ U)) ∧ (TS h (a + 1) t n ∧ fI h 1102 (a + 4) = v65) ∧ 136010 + 890 * m + 43 * n ≤ rc h ∧ 1160090 + 5120 * m + 256 * n ≤ rs h
/-- what holds between calls -/
def LI (h : AH) (b Ln : Nat) (xs : Nat → Int32) (a e0 m : Nat) : Prop := ∃ r R C L G fW par wk pk fS ks, ∃ (dp : Nat → Nat), ∃ U V' n, CIN h b Ln xs a e0 m U V' R C L G fW par wk pk fS ks (ai r 1) n (gi r 1465) ∧ RW r h (a + 14) ∧ (gi r 1401 = nI n ∧ n ≤ 2000) ∧ WCX R C L r ∧ (∀ b, wN R * 1024 ≤ b → b < nbN R → dp b < 8 ∧ ∀ j, upB R b = some j → dp j < dp b) ∧ K5 R ∧ MS r ks
theorem nrc_0 {ar : Nat} : ¬ NRC ar ar := fun z => z ⟨Nat.le_refl _, Nat.le_add_right _ _⟩
section
variable {d : Nat} {h h1 h' : AH} {Q : Option V → AH → Prop} {b Ln a e0 m U V' n i : Nat} {xs : Nat → Int32} {R r2 r3 : RV} {C L : Nat → Int32} {G : Nat → Nat → Nat} {fW par : Nat → Nat} {wk : Nat → Int64} {pk : Nat → Int32} {fS : Nat → Nat} {ks : List Nat} {t : Nat → Int32} {v65 : Int32} {dp : Nat → Nat}
theorem CIN.erf (c : CIN h1 b Ln xs a e0 m U V' R C L G fW par wk pk fS ks t n v65) (x : FX (ERF (a + 14)) h1 h') (sm : tp h' = tp h1 ∧ rc h' = rc h1 ∧ rs h' = rs h1) : CIN h' b Ln xs a e0 m U V' R C L G fW par wk pk fS ks t n v65 := by
  obtain ⟨⟨F, lt⟩, ⟨O, N, uv⟩, ⟨TT, e65⟩, r1, r2⟩ := c
  have no : ∀ g y, ¬ g / 100 % 100 = 14 → ¬ g = 90001 → ¬ ERF (a + 14) g y := fun g y h1 h2 z => by unfold ERF at z; omega
  have vt := N.1.2.2.2.2.2.2
  refine ⟨⟨F.fx x (by omega) (fun g y z => by unfold ERF at z; omega), by omega⟩, ⟨O.fx x (fun g hg z => by unfold ERF at z; omega), N.fx x (fun g y p1 p2 z => by unfold ERF at z; omega) (fun y z => by unfold ERF at z; omega), uv⟩, ⟨TT.fy F.sgv x (no _ _ (by decide) (by decide)) (no _ _ (by decide) (by decide)) (no _ _ (by decide) (by decide)) (fun z => by unfold ERF at z; omega) (fun z => by unfold ERF at z; omega) (fun y => ⟨no _ _ (by decide) (by decide), no _ _ (by decide) (by decide), no _ _ (by decide) (by decide), no _ _ (by decide) (by decide), no _ _ (by decide) (by decide)⟩) (fun y hy z => by unfold ERF at z; omega), ?_⟩, by omega, by omega⟩
  rw [x.fI (by omega) (no _ _ (by decide) (by decide))]; exact e65
theorem li_of (c : CIN h1 b Ln xs a e0 m U V' R C L G fW par wk pk fS ks t n v65) (x : FX (ERF (a + 14)) h1 h') (sm : tp h' = tp h1 ∧ rc h' = rc h1 ∧ rs h' = rs h1) (R3 : RW r3 h' (a + 14)) (q : RQ r2 r3) (e1 : ∀ i, i < n → t i = ai r2 1 i) (hn : gi r2 1401 = nI n) (n2 : n ≤ 2000) (h65 : gi r2 1465 = v65) (W : WCX R C L r2) (dpp : ∀ b, wN R * 1024 ≤ b → b < nbN R → dp b < 8 ∧ ∀ j, upB R b = some j → dp j < dp b) (k5 : K5 R) (M : MS r2 ks) : LI h' b Ln xs a e0 m := by
  obtain ⟨f1, f2, ⟨TT, e65⟩, f4, f5⟩ := c.erf x sm
  refine ⟨r3, R, C, L, G, fW, par, wk, pk, fS, ks, dp, U, V', n, ⟨f1, f2, ⟨TT.cg (fun i hi => ?_), ?_⟩, f4, f5⟩, R3, ⟨?_, n2⟩, q.wcx W, dpp, k5, q.ms M⟩
  · rw [(q.2 1 (by omega)).1]; exact e1 i hi
  · rw [e65, (q.1 1465 (by decide)).1, h65]
  · rw [(q.1 1401 (by decide)).1]; exact hn
theorem CIN.less (c : CIN h1 b Ln xs a e0 (m + 1) U V' R C L G fW par wk pk fS ks t n v65) : CIN h1 b Ln xs a e0 m U V' R C L G fW par wk pk fS ks t n v65 := by
  obtain ⟨f1, f2, f3, f4, f5⟩ := c
  exact ⟨f1, f2, f3, by omega, by omega⟩
theorem op_mistake (I : LI h b Ln xs a e0 (m + 1)) (hi : i + 6 ≤ Ln) (hL : Ln ≤ 3072) (NX : ∀ h', LI h' b Ln xs a e0 m → wp (d + 1000) K_L_law 320 [] [(0, vr (some b)), (1, vr (some a)), (2, vr (some (a + 14))), (3, vi (nI i))] h' Q) : wp (d + 1000) K_L_law 120 [] [(0, vr (some b)), (1, vr (some a)), (2, vr (some (a + 14))), (3, vi (nI i))] h Q := by
  obtain ⟨r, R, C, L, G, fW, par, wk, pk, fS, ks, dp, U, V', n, c, RWr, ⟨hn, n2⟩, WX, dpp, k5, ms⟩ := I
  have c0 := c
  obtain ⟨⟨F, lt⟩, ⟨O, N, uv⟩, ⟨TT, e65⟩, rc1, rs1⟩ := c
  have B := WX.2.1
  have K := N.2.2.2.2.2.1.1
  have l4 : ks.length ≤ 4000 := N.2.2.2.2.1.2.2
  have s1 := F.sc (k := 1) hi hL (by omega)
  have p1 : nI i + 1 = nI (i + 1) := by rw [show (1 : Int32) = nI 1 from rfl, nI_add]
  have s2 := F.sc (k := 2) hi hL (by omega)
  have p2 : nI i + 2 = nI (i + 2) := by rw [show (2 : Int32) = nI 2 from rfl, nI_add]
  rw [bk_L_law_120, nn_some, nn_some, nn_some, p1, p2, s1.2.2, s2.2.2]
  refine ⟨s1.1, s1.2.1, s2.1, s2.2.1, O.1, ?_⟩
  refine c_mistake (d := d + 996) O N (xs (i + 1)) (xs (i + 2)) ?_
  simp only [psh]
  rw [bk_L_law_132, nn_some, nn_some, nn_some, p1, p2, s1.2.2, s2.2.2]
  refine ⟨s1.1, s1.2.1, s2.1, s2.2.1, RWr.1.1, ?_⟩
  refine ref_call (E := fun _ _ => False) (P := fun v r2 => v = some (vi (misS r ks.length (xs (i + 1)) (xs (i + 2)))) ∧ r2 = r) RWr.1 FX.rf (by omega) (fun _ _ z => z) (fun _ _ _ z => z) (fun _ z => z) (by decide) (okl_c (ok_s nrc_0) (okl_c ok_i (okl_c ok_i okl_n))) ?_ (fun v h' r2 r3 R3 q p x3 sm => ?_)
  · rw [a_mistake RWr.1 (n := ks.length) (by rw [RWr.gi]; exact ms.1) l4]
    exact ⟨r, RWr, by rw [RWr.2], rfl⟩
  · obtain ⟨pv, pr⟩ := p
    rw [pr] at q
    rw [pv]
    simp only [psh]
    rw [bk_L_law_144]
    refine ⟨fun _ => NX h' (li_of c0.less x3 sm R3 q (fun _ _ => rfl) hn n2 rfl WX dpp k5 ms), fun z => absurd ?_ z⟩
    exact (ms_cm ms l4 _ _).symm
theorem op_kind (I : LI h b Ln xs a e0 (m + 1)) (hi : i + 6 ≤ Ln) (hL : Ln ≤ 3072) (NX : ∀ h', LI h' b Ln xs a e0 m → wp (d + 1000) K_L_law 320 [] [(0, vr (some b)), (1, vr (some a)), (2, vr (some (a + 14))), (3, vi (nI i))] h' Q) : wp (d + 1000) K_L_law 147 [] [(0, vr (some b)), (1, vr (some a)), (2, vr (some (a + 14))), (3, vi (nI i))] h Q := by
  obtain ⟨r, R, C, L, G, fW, par, wk, pk, fS, ks, dp, U, V', n, c, RWr, ⟨hn, n2⟩, WX, dpp, k5, ms⟩ := I
  have c0 := c
  obtain ⟨⟨F, lt⟩, ⟨O, N, uv⟩, ⟨TT, e65⟩, rc1, rs1⟩ := c
  have B := WX.2.1
  have K := N.2.2.2.2.2.1.1
  have l4 : ks.length ≤ 4000 := N.2.2.2.2.1.2.2
  have s1 := F.sc (k := 1) hi hL (by omega)
  have p1 : nI i + 1 = nI (i + 1) := by rw [show (1 : Int32) = nI 1 from rfl, nI_add]
  have s2 := F.sc (k := 2) hi hL (by omega)
  have p2 : nI i + 2 = nI (i + 2) := by rw [show (2 : Int32) = nI 2 from rfl, nI_add]
  rw [bk_L_law_147, nn_some, nn_some, nn_some, p1, p2, s1.2.2, s2.2.2]
  refine ⟨s1.1, s1.2.1, s2.1, s2.2.1, O.1, ?_⟩
  refine c_kind (d := d + 997) O N (xs (i + 1)) (xs (i + 2)) ?_
  simp only [psh]
  rw [bk_L_law_159, nn_some, nn_some, nn_some, p1, p2, s1.2.2, s2.2.2]
  refine ⟨s1.1, s1.2.1, s2.1, s2.2.1, RWr.1.1, ?_⟩
  refine ref_call (E := fun _ _ => False) (P := fun v r2 => v = some (vi (kinS r (wN R) (nkN R) (xs (i + 1)) (xs (i + 2)))) ∧ r2 = r) RWr.1 FX.rf (by omega) (fun _ _ z => z) (fun _ _ _ z => z) (fun _ z => z) (by decide) (okl_c (ok_s nrc_0) (okl_c ok_i (okl_c ok_i okl_n))) ?_ (fun v h' r2 r3 R3 q p x3 sm => ?_)
  · rw [a_kind (d := d + 995) (RWr.bq B)]
    exact ⟨r, RWr, by rw [RWr.2], rfl⟩
  · obtain ⟨pv, pr⟩ := p
    rw [pr] at q
    rw [pv]
    simp only [psh]
    rw [bk_L_law_171]
    refine ⟨fun _ => NX h' (li_of c0.less x3 sm R3 q (fun _ _ => rfl) hn n2 rfl WX dpp k5 ms), fun z => absurd ?_ z⟩
    exact (hg_kinS WX.1 K _ _).symm
theorem op_below (I : LI h b Ln xs a e0 (m + 1)) (hi : i + 6 ≤ Ln) (hL : Ln ≤ 3072) (NX : ∀ h', LI h' b Ln xs a e0 m → wp (d + 1000) K_L_law 320 [] [(0, vr (some b)), (1, vr (some a)), (2, vr (some (a + 14))), (3, vi (nI i))] h' Q) : wp (d + 1000) K_L_law 174 [] [(0, vr (some b)), (1, vr (some a)), (2, vr (some (a + 14))), (3, vi (nI i))] h Q := by
  obtain ⟨r, R, C, L, G, fW, par, wk, pk, fS, ks, dp, U, V', n, c, RWr, ⟨hn, n2⟩, WX, dpp, k5, ms⟩ := I
  have c0 := c
  obtain ⟨⟨F, lt⟩, ⟨O, N, uv⟩, ⟨TT, e65⟩, rc1, rs1⟩ := c
  have B := WX.2.1
  have K := N.2.2.2.2.2.1.1
  have l4 : ks.length ≤ 4000 := N.2.2.2.2.1.2.2
  have s1 := F.sc (k := 1) hi hL (by omega)
  have p1 : nI i + 1 = nI (i + 1) := by rw [show (1 : Int32) = nI 1 from rfl, nI_add]
  have s2 := F.sc (k := 2) hi hL (by omega)
  have p2 : nI i + 2 = nI (i + 2) := by rw [show (2 : Int32) = nI 2 from rfl, nI_add]
  rw [bk_L_law_174, nn_some, nn_some, nn_some, p1, p2, s1.2.2, s2.2.2]
  refine ⟨s1.1, s1.2.1, s2.1, s2.2.1, O.1, ?_⟩
  refine c_below (d := d + 997) O N (xs (i + 1)) (xs (i + 2)) ?_
  simp only [psh]
  rw [bk_L_law_186, nn_some, nn_some, nn_some, p1, p2, s1.2.2, s2.2.2]
  refine ⟨s1.1, s1.2.1, s2.1, s2.2.1, RWr.1.1, ?_⟩
  refine ref_call (E := fun _ _ => False) (P := fun v r2 => v = some (vi (b2i (belS r (wN R) (nkN R) (xs (i + 1)) (xs (i + 2))))) ∧ r2 = r) RWr.1 FX.rf (by omega) (fun _ _ z => z) (fun _ _ _ z => z) (fun _ z => z) (by decide) (okl_c (ok_s nrc_0) (okl_c ok_i (okl_c ok_i okl_n))) ?_ (fun v h' r2 r3 R3 q p x3 sm => ?_)
  · rw [a_below (d := d + 996) (RWr.bq B)]
    exact ⟨r, RWr, by rw [RWr.2], rfl⟩
  · obtain ⟨pv, pr⟩ := p
    rw [pr] at q
    rw [pv]
    simp only [psh]
    rw [bk_L_law_198]
    refine ⟨fun _ => NX h' (li_of c0.less x3 sm R3 q (fun _ _ => rfl) hn n2 rfl WX dpp k5 ms), fun z => absurd ?_ z⟩
    rw [hg_belS WX.1 K]
theorem op_method (I : LI h b Ln xs a e0 (m + 1)) (hi : i + 6 ≤ Ln) (hL : Ln ≤ 3072) (NX : ∀ h', LI h' b Ln xs a e0 m → wp (d + 1000) K_L_law 320 [] [(0, vr (some b)), (1, vr (some a)), (2, vr (some (a + 14))), (3, vi (nI i))] h' Q) : wp (d + 1000) K_L_law 201 [] [(0, vr (some b)), (1, vr (some a)), (2, vr (some (a + 14))), (3, vi (nI i))] h Q := by
  obtain ⟨r, R, C, L, G, fW, par, wk, pk, fS, ks, dp, U, V', n, c, RWr, ⟨hn, n2⟩, WX, dpp, k5, ms⟩ := I
  have c0 := c
  obtain ⟨⟨F, lt⟩, ⟨O, N, uv⟩, ⟨TT, e65⟩, rc1, rs1⟩ := c
  have B := WX.2.1
  have K := N.2.2.2.2.2.1.1
  have l4 : ks.length ≤ 4000 := N.2.2.2.2.1.2.2
  have s1 := F.sc (k := 1) hi hL (by omega)
  have p1 : nI i + 1 = nI (i + 1) := by rw [show (1 : Int32) = nI 1 from rfl, nI_add]
  have s2 := F.sc (k := 2) hi hL (by omega)
  have p2 : nI i + 2 = nI (i + 2) := by rw [show (2 : Int32) = nI 2 from rfl, nI_add]
  rw [bk_L_law_201, nn_some, nn_some, nn_some, p1, p2, s1.2.2, s2.2.2]
  refine ⟨s1.1, s1.2.1, s2.1, s2.2.1, O.1, ?_⟩
  refine c_method (d := d + 995) O N (xs (i + 1)) (xs (i + 2)) ?_
  simp only [psh]
  rw [bk_L_law_213, nn_some, nn_some, nn_some, p1, p2, s1.2.2, s2.2.2]
  refine ⟨s1.1, s1.2.1, s2.1, s2.2.1, RWr.1.1, ?_⟩
  refine ref_call (E := fun _ _ => False) (P := fun v r2 => v = some (vi (metS r (wN R) (nkN R) (nmN R) (xs (i + 1)) (xs (i + 2)))) ∧ r2 = r) RWr.1 FX.rf (by omega) (fun _ _ z => z) (fun _ _ _ z => z) (fun _ z => z) (by decide) (okl_c (ok_s nrc_0) (okl_c ok_i (okl_c ok_i okl_n))) ?_ (fun v h' r2 r3 R3 q p x3 sm => ?_)
  · rw [a_method (d := d + 997) (RWr.bq B)]
    exact ⟨r, RWr, by rw [RWr.2], rfl⟩
  · obtain ⟨pv, pr⟩ := p
    rw [pr] at q
    rw [pv]
    simp only [psh]
    rw [bk_L_law_225]
    refine ⟨fun _ => NX h' (li_of c0.less x3 sm R3 q (fun _ _ => rfl) hn n2 rfl WX dpp k5 ms), fun z => absurd ?_ z⟩
    obtain ⟨T', -, n12, -, n120, -⟩ := N.2.2.2.2.2.2.1
    exact (hg_metS WX.1 K.2.1 T' n12 n120 B.2.2.1 (fun m hm => (N.2.2.2.2.2.2.2.2.2.1 m hm).1.2.2.2.2.2.2.2.2.2.2) (fun m hm => by
      have := B.2.2.2.2.2 m hm
      rw [(hg_w WX.1 (q := 17) (by omega) (by omega)).1] at this
      exact this) _ _).symm
theorem op_statement (I : LI h b Ln xs a e0 (m + 1)) (hi : i + 6 ≤ Ln) (hL : Ln ≤ 3072) (NX : ∀ h', LI h' b Ln xs a e0 m → wp (d + 1000) K_L_law 320 [] [(0, vr (some b)), (1, vr (some a)), (2, vr (some (a + 14))), (3, vi (nI i))] h' Q) : wp (d + 1000) K_L_law 228 [] [(0, vr (some b)), (1, vr (some a)), (2, vr (some (a + 14))), (3, vi (nI i))] h Q := by
  obtain ⟨r, R, C, L, G, fW, par, wk, pk, fS, ks, dp, U, V', n, c, RWr, ⟨hn, n2⟩, WX, dpp, k5, ms⟩ := I
  have c0 := c
  obtain ⟨⟨F, lt⟩, ⟨O, N, uv⟩, ⟨TT, e65⟩, rc1, rs1⟩ := c
  have B := WX.2.1
  have K := N.2.2.2.2.2.1.1
  have l4 : ks.length ≤ 4000 := N.2.2.2.2.1.2.2
  have s1 := F.sc (k := 1) hi hL (by omega)
  have p1 : nI i + 1 = nI (i + 1) := by rw [show (1 : Int32) = nI 1 from rfl, nI_add]
  have s2 := F.sc (k := 2) hi hL (by omega)
  have p2 : nI i + 2 = nI (i + 2) := by rw [show (2 : Int32) = nI 2 from rfl, nI_add]
  rw [bk_L_law_228, nn_some, nn_some, nn_some, p1, p2, s1.2.2, s2.2.2]
  refine ⟨s1.1, s1.2.1, s2.1, s2.2.1, O.1, ?_⟩
  refine c_statement (d := d + 996) O N (xs (i + 1)) (xs (i + 2)) ?_
  simp only [psh]
  rw [bk_L_law_240, nn_some, nn_some, nn_some, p1, p2, s1.2.2, s2.2.2]
  refine ⟨s1.1, s1.2.1, s2.1, s2.2.1, RWr.1.1, ?_⟩
  refine ref_call (E := fun _ _ => False) (P := fun v r2 => v = some (vi (staS r (wN R) (nsC R) (xs (i + 1)) (xs (i + 2)))) ∧ r2 = r) RWr.1 FX.rf (by omega) (fun _ _ z => z) (fun _ _ _ z => z) (fun _ z => z) (by decide) (okl_c (ok_s nrc_0) (okl_c ok_i (okl_c ok_i okl_n))) ?_ (fun v h' r2 r3 R3 q p x3 sm => ?_)
  · rw [a_statement (RWr.bq B)]
    exact ⟨r, RWr, by rw [RWr.2], rfl⟩
  · obtain ⟨pv, pr⟩ := p
    rw [pr] at q
    rw [pv]
    simp only [psh]
    rw [bk_L_law_252]
    refine ⟨fun _ => NX h' (li_of c0.less x3 sm R3 q (fun _ _ => rfl) hn n2 rfl WX dpp k5 ms), fun z => absurd ?_ z⟩
    obtain ⟨-, -, -, -, n120, -⟩ := N.2.2.2.2.2.2.1
    exact (hg_staS WX.1 n120 _ _).symm
theorem op_told (I : LI h b Ln xs a e0 (m + 1)) (hi : i + 6 ≤ Ln) (hL : Ln ≤ 3072) (NX : ∀ h', LI h' b Ln xs a e0 m → wp (d + 1000) K_L_law 320 [] [(0, vr (some b)), (1, vr (some a)), (2, vr (some (a + 14))), (3, vi (nI i))] h' Q) : wp (d + 1000) K_L_law 103 [] [(0, vr (some b)), (1, vr (some a)), (2, vr (some (a + 14))), (3, vi (nI i))] h Q := by
  obtain ⟨r, R, C, L, G, fW, par, wk, pk, fS, ks, dp, U, V', n, c, RWr, ⟨hn, n2⟩, WX, dpp, k5, ms⟩ := I
  have c0 := c
  obtain ⟨⟨F, lt⟩, ⟨O, N, uv⟩, ⟨TT, e65⟩, rc1, rs1⟩ := c
  have B := WX.2.1
  have K := N.2.2.2.2.2.1.1
  have l4 : ks.length ≤ 4000 := N.2.2.2.2.1.2.2
  have s1 := F.sc (k := 1) hi hL (by omega)
  have p1 : nI i + 1 = nI (i + 1) := by rw [show (1 : Int32) = nI 1 from rfl, nI_add]
  rw [bk_L_law_103, nn_some, nn_some, p1, s1.2.2]
  refine ⟨s1.1, s1.2.1, O.1, ?_⟩
  refine c_told (d := d + 998) O N TT (xs (i + 1)) ?_
  simp only [psh]
  rw [bk_L_law_110, nn_some, nn_some, p1, s1.2.2]
  refine ⟨s1.1, s1.2.1, RWr.1.1, ?_⟩
  refine ref_call (E := fun _ _ => False) (P := fun v r2 => v = some (vi (tolS r (wN R) (xs (i + 1)))) ∧ r2 = r) RWr.1 FX.rf (by omega) (fun _ _ z => z) (fun _ _ _ z => z) (fun _ z => z) (by decide) (okl_c (ok_s nrc_0) (okl_c ok_i okl_n)) ?_ (fun v h' r2 r3 R3 q p x3 sm => ?_)
  · rw [a_told (RWr.bq B)]
    exact ⟨r, RWr, by rw [RWr.2], rfl⟩
  · obtain ⟨pv, pr⟩ := p
    rw [pr] at q
    rw [pv]
    simp only [psh]
    rw [bk_L_law_117]
    refine ⟨fun _ => NX h' (li_of c0.less x3 sm R3 q (fun _ _ => rfl) hn n2 rfl WX dpp k5 ms), fun z => absurd ?_ z⟩
    exact (hg_tolS B ms hn _).symm
theorem op_steps (I : LI h b Ln xs a e0 (m + 1)) (hi : i + 6 ≤ Ln) (hL : Ln ≤ 3072) (NX : ∀ h', LI h' b Ln xs a e0 m → wp (d + 1000) K_L_law 320 [] [(0, vr (some b)), (1, vr (some a)), (2, vr (some (a + 14))), (3, vi (nI i))] h' Q) : wp (d + 1000) K_L_law 313 [] [(0, vr (some b)), (1, vr (some a)), (2, vr (some (a + 14))), (3, vi (nI i))] h Q := by
  obtain ⟨r, R, C, L, G, fW, par, wk, pk, fS, ks, dp, U, V', n, c, RWr, ⟨hn, n2⟩, WX, dpp, k5, ms⟩ := I
  have c0 := c
  obtain ⟨⟨F, lt⟩, ⟨O, N, uv⟩, ⟨TT, e65⟩, rc1, rs1⟩ := c
  have B := WX.2.1
  have K := N.2.2.2.2.2.1.1
  have l4 : ks.length ≤ 4000 := N.2.2.2.2.1.2.2
  rw [bk_L_law_313, nn_some]
  refine ⟨O.1, ?_⟩
  refine c_steps O ?_
  simp only [psh]
  rw [bk_L_law_315, nn_some]
  refine ⟨RWr.1.1, ?_⟩
  refine ref_call (E := fun _ _ => False) (P := fun v r2 => v = some (vi (gi r 1465)) ∧ r2 = r) RWr.1 FX.rf (by omega) (fun _ _ z => z) (fun _ _ _ z => z) (fun _ z => z) (by decide) (okl_c (ok_s nrc_0) okl_n) ?_ (fun v h' r2 r3 R3 q p x3 sm => ?_)
  · rw [a_steps RWr.1, RWr.gi]
    exact ⟨r, RWr, rfl, rfl⟩
  · obtain ⟨pv, pr⟩ := p
    rw [pr] at q
    rw [pv]
    simp only [psh]
    rw [bk_L_law_317]
    refine ⟨fun _ => NX h' (li_of c0.less x3 sm R3 q (fun _ _ => rfl) hn n2 rfl WX dpp k5 ms), fun z => absurd ?_ z⟩
    exact e65
theorem fd_x (r : RV) (n : Nat) (x1 x2 x3 x4 x5 : Int32) : (∀ q, ¬ q = 1 → ai (fdF r n x1 x2 x3 x4 x5) q = ai r q) ∧ al (fdF r n x1 x2 x3 x4 x5) = al r ∧ gi (fdF r n x1 x2 x3 x4 x5) = gi r := by
  have G : ∀ m k (y : RV), (∀ q, ¬ q = 1 → ai (fup (fun k r => tI r 1 (n + k) (fdB x1 x2 x3 x4 x5 k)) m k y) q = ai y q) ∧ al (fup (fun k r => tI r 1 (n + k) (fdB x1 x2 x3 x4 x5 k)) m k y) = al y ∧ gi (fup (fun k r => tI r 1 (n + k) (fdB x1 x2 x3 x4 x5 k)) m k y) = gi y := by
    intro m
    induction m with
    | zero => intro k y; exact ⟨fun _ _ => rfl, rfl, rfl⟩
    | succ m ih =>
      intro k y
      rw [fup]
      obtain ⟨i1, i2, i3⟩ := ih (k + 1) (tI y 1 (n + k) (fdB x1 x2 x3 x4 x5 k))
      exact ⟨fun q hq => by rw [i1 q hq, ai_ne (fun z => hq z)], i2, i3⟩
  exact G 20 0 r
theorem wcx_x {r r' : RV} (W : WCX R C L r) (e1 : ∀ q, ¬ q = 1 → ai r' q = ai r q) (e2 : al r' = al r) (e3 : gi r' 1402 = gi r 1402) : WCX R C L r' := by
  have g : HAH (wN R) r' r := fun q i h => ⟨by rw [e1 q (by unfold HF at h; omega)], by rw [e2]⟩
  exact ⟨g.tr W.1, bv_hah W.2.1 g (by rw [e3]; exact W.2.1.1.1), blk_hah W.2.1 W.2.2 g⟩
theorem ms_x {r r' : RV} (M : MS r ks) (e1 : ∀ q, ¬ q = 1 → ai r' q = ai r q) (e3 : gi r' 1460 = gi r 1460) : MS r' ks := by
  obtain ⟨m1, m2⟩ := M
  refine ⟨by rw [e3]; exact m1, fun i hi => ?_⟩
  rw [e1 50 (by decide), e1 49 (by decide), e1 51 (by decide)]
  exact m2 i hi
/-- the class's call leaves what is there but for the tape -/
theorem CIN.tape {E : Nat → Nat → Prop} {n' : Nat} {t' : Nat → Int32} (c : CIN h b Ln xs a e0 (m + 1) U V' R C L G fW par wk pk fS ks t n v65) (x : FX E h h1) (hE : ∀ g y, E g y → (y = a + 1 ∧ (g = 902 ∨ g = 903 ∨ g = 904 ∨ g = 905 ∨ g = 20906)) ∨ (y = a + 2 ∧ g = 90001)) (sm : tp h1 = tp h ∧ rc h1 = rc h ∧ rs h1 = rs h) (TT : TS h1 (a + 1) t' n') (l : n' ≤ n + 20) : CIN h1 b Ln xs a e0 m U V' R C L G fW par wk pk fS ks t' n' v65 := by
  obtain ⟨⟨F, lt⟩, ⟨O, N, uv⟩, ⟨-, e65⟩, r1, r2⟩ := c
  refine ⟨⟨F.fx x (by omega) (fun g y z => by have := hE g y z; omega), by omega⟩, ⟨O.fx x (fun g hg z => by have := hE g _ z; omega), N.fx x (fun g y p1 p2 z => by have := hE g y z; omega) (fun y z => by have := hE _ y z; omega), uv⟩, ⟨TT, ?_⟩, by omega, by omega⟩
  rw [x.fI (by omega) (fun z => by have := hE _ _ z; omega)]; exact e65
theorem op_cut (I : LI h b Ln xs a e0 (m + 1)) (hi : i + 6 ≤ Ln) (hL : Ln ≤ 3072) (NX : ∀ h', LI h' b Ln xs a e0 m → wp (d + 1000) K_L_law 320 [] [(0, vr (some b)), (1, vr (some a)), (2, vr (some (a + 14))), (3, vi (nI i))] h' Q) : wp (d + 1000) K_L_law 79 [] [(0, vr (some b)), (1, vr (some a)), (2, vr (some (a + 14))), (3, vi (nI i))] h Q := by
  obtain ⟨r, R, C, L, G, fW, par, wk, pk, fS, ks, dp, U, V', n, c, RWr, ⟨hn, n2⟩, WX, dpp, k5, ms⟩ := I
  have c0 := c
  obtain ⟨⟨F, lt⟩, ⟨O, N, uv⟩, ⟨TT, e65⟩, rc1, rs1⟩ := c
  have B := WX.2.1
  have K := N.2.2.2.2.2.1.1
  have l4 : ks.length ≤ 4000 := N.2.2.2.2.1.2.2
  have s1 := F.sc (k := 1) hi hL (by omega)
  have p1 : nI i + 1 = nI (i + 1) := by rw [show (1 : Int32) = nI 1 from rfl, nI_add]
  rw [bk_L_law_79, nn_some, nn_some, p1, s1.2.2]
  refine ⟨s1.1, s1.2.1, O.1, ?_⟩
  refine c_cut O TT (xs (i + 1)) (fun e => ?_) (fun j e hj ej => ?_)
  · simp only [psh]
    rw [bk_L_law_86, nn_some, nn_some, p1, s1.2.2]
    refine ⟨s1.1, s1.2.1, RWr.1.1, ?_⟩
    refine ref_call (E := fun _ _ => False) (P := fun v r2 => v = some (vi (-3)) ∧ r2 = r) RWr.1 FX.rf (by omega) (fun _ _ z => z) (fun _ _ _ z => z) (fun _ z => z) (by decide) (okl_c (ok_s nrc_0) (okl_c ok_i okl_n)) ?_ (fun v h' r2 r3 R3 q p x3 sm => ?_)
    · rw [a_cut RWr.1 (n := n) (by rw [RWr.gi]; exact hn) n2, e]
      exact ⟨r, RWr, rfl, rfl⟩
    · obtain ⟨pv, pr⟩ := p
      rw [pr] at q
      rw [pv]
      simp only [psh]
      rw [bk_L_law_93]
      exact ⟨fun _ => NX h' (li_of c0.less x3 sm R3 q (fun _ _ => rfl) hn n2 rfl WX dpp k5 ms), fun z => absurd rfl z⟩
  · have x1 : FX (fun g y => g = 902 ∧ y = a + 1) h (setFI h 902 (a + 1) (xs (i + 1))) := FX.FI ⟨rfl, rfl⟩
    have T1 : TS (setFI h 902 (a + 1) (xs (i + 1))) (a + 1) (ai r 1) j := by rw [ej]; exact TT.cut hj
    have c1 := c0.tape x1 (fun g y z => by have z : g = 902 ∧ y = a + 1 := z; omega) ⟨rfl, rfl, rfl⟩ T1 (by omega)
    have F1 := c1.1.1
    have t1 := F1.sc (k := 1) hi hL (by omega)
    generalize setFI h 902 (a + 1) (xs (i + 1)) = h1 at *
    simp only [psh]
    rw [bk_L_law_86, nn_some, nn_some, p1, t1.2.2]
    refine ⟨t1.1, t1.2.1, by rw [x1.tg (by omega)]; exact RWr.1.1, ?_⟩
    refine ref_call (P := fun v r2 => v = some (vi (nI (n - j))) ∧ r2 = sI r 1401 (nI j)) RWr.1 x1 (by omega) (fun g hg z => by have z : g = 902 ∧ a + 14 = a + 1 := z; omega) (fun y _ _ z => by have z : 90001 = 902 ∧ y = a + 1 := z; omega) (fun y z => by have z : 9901 = 902 ∧ y = a + 1 := z; omega) (by decide) (okl_c (ok_s nrc_0) (okl_c ok_i okl_n)) ?_ (fun v h' r2 r3 R3 q p x3 sm => ?_)
    · rw [a_cut RWr.1 (n := n) (by rw [RWr.gi]; exact hn) n2, e]
      exact ⟨_, RWr.FI 1401 (nI j), rfl, rfl⟩
    · obtain ⟨pv, pr⟩ := p
      rw [pr] at q
      rw [pv]
      simp only [psh]
      rw [bk_L_law_93]
      refine ⟨fun _ => NX h' (li_of c1 x3 sm R3 q (fun _ _ => rfl) (by rw [gi_sI, if_pos rfl]) (by omega) (by rw [gi_sI, if_neg (by decide)]) (wcx_x WX (fun _ _ => rfl) rfl (by rw [gi_sI, if_neg (by decide)])) dpp k5 (ms_x ms (fun _ _ => rfl) (by rw [gi_sI, if_neg (by decide)]))), fun z => absurd ?_ z⟩
      rw [ej, pk_sub hj]
theorem op_feed (I : LI h b Ln xs a e0 (m + 1)) (hi : i + 6 ≤ Ln) (hL : Ln ≤ 3072) (NX : ∀ h', LI h' b Ln xs a e0 m → wp (d + 1000) K_L_law 320 [] [(0, vr (some b)), (1, vr (some a)), (2, vr (some (a + 14))), (3, vi (nI i))] h' Q) : wp (d + 1000) K_L_law 22 [] [(0, vr (some b)), (1, vr (some a)), (2, vr (some (a + 14))), (3, vi (nI i))] h Q := by
  obtain ⟨r, R, C, L, G, fW, par, wk, pk, fS, ks, dp, U, V', n, c, RWr, ⟨hn, n2⟩, WX, dpp, k5, ms⟩ := I
  have c0 := c
  obtain ⟨⟨F, lt⟩, ⟨O, N, uv⟩, ⟨TT, e65⟩, rc1, rs1⟩ := c
  have B := WX.2.1
  have K := N.2.2.2.2.2.1.1
  have l4 : ks.length ≤ 4000 := N.2.2.2.2.1.2.2
  have s1 := F.sc (k := 1) hi hL (by omega)
  have p1 : nI i + 1 = nI (i + 1) := by rw [show (1 : Int32) = nI 1 from rfl, nI_add]
  have s2 := F.sc (k := 2) hi hL (by omega)
  have p2 : nI i + 2 = nI (i + 2) := by rw [show (2 : Int32) = nI 2 from rfl, nI_add]
  have s3 := F.sc (k := 3) hi hL (by omega)
  have p3 : nI i + 3 = nI (i + 3) := by rw [show (3 : Int32) = nI 3 from rfl, nI_add]
  have s4 := F.sc (k := 4) hi hL (by omega)
  have p4 : nI i + 4 = nI (i + 4) := by rw [show (4 : Int32) = nI 4 from rfl, nI_add]
  have s5 := F.sc (k := 5) hi hL (by omega)
  have p5 : nI i + 5 = nI (i + 5) := by rw [show (5 : Int32) = nI 5 from rfl, nI_add]
  rw [bk_L_law_22, nn_some, nn_some, nn_some, nn_some, nn_some, nn_some, p1, p2, p3, p4, p5, s1.2.2, s2.2.2, s3.2.2, s4.2.2, s5.2.2]
  refine ⟨s1.1, s1.2.1, s2.1, s2.2.1, s3.1, s3.2.1, s4.1, s4.2.1, s5.1, s5.2.1, O.1, ?_⟩
  have REF : ∀ dd, wp dd K_X12_feed 0 [] [(0, vr (some (a + 14))), (1, vi (xs (i + 1))), (2, vi (xs (i + 2))), (3, vi (xs (i + 3))), (4, vi (xs (i + 4))), (5, vi (xs (i + 5)))] h (fun v h2 => ∃ r2, RW r2 h2 (a + 14) ∧ ((2000 < n + 20 ∧ v = some (vi (-3)) ∧ r2 = r) ∨ (n + 20 ≤ 2000 ∧ v = some (vi (nI (n + 20))) ∧ r2 = sI (fdF r n (xs (i + 1)) (xs (i + 2)) (xs (i + 3)) (xs (i + 4)) (xs (i + 5))) 1401 (nI (n + 20))))) := fun dd => a_feed RWr hn n2 _ _ _ _ _ (fun z => ⟨r, RWr, Or.inl ⟨z, rfl, rfl⟩⟩) (fun z h2 R2 => ⟨_, R2, Or.inr ⟨z, rfl, rfl⟩⟩)
  refine c_feed (d := d + 998) O TT _ _ _ _ _ (fun z => ?_) (fun z h1 T1 O1 W1 => ?_)
  · simp only [psh]
    rw [bk_L_law_49, nn_some, nn_some, nn_some, nn_some, nn_some, nn_some, p1, p2, p3, p4, p5, s1.2.2, s2.2.2, s3.2.2, s4.2.2, s5.2.2]
    refine ⟨s1.1, s1.2.1, s2.1, s2.2.1, s3.1, s3.2.1, s4.1, s4.2.1, s5.1, s5.2.1, RWr.1.1, ?_⟩
    refine ref_call (E := fun _ _ => False) RWr.1 FX.rf (by omega) (fun _ _ z => z) (fun _ _ _ z => z) (fun _ z => z) (by decide) (okl_c (ok_s nrc_0) (okl_c ok_i (okl_c ok_i (okl_c ok_i (okl_c ok_i (okl_c ok_i okl_n)))))) (REF _) (fun v h' r2 r3 R3 q p x3 sm => ?_)
    rcases p with ⟨-, pv, pr⟩ | ⟨y, -⟩
    · rw [pr] at q
      rw [pv]
      simp only [psh]
      rw [bk_L_law_76]
      exact ⟨fun _ => NX h' (li_of c0.less x3 sm R3 q (fun _ _ => rfl) hn n2 rfl WX dpp k5 ms), fun z => absurd rfl z⟩
    · omega
  · have c1 := c0.tape W1.1 (fun g y q => by unfold EFD at q; omega) W1.2 T1 (Nat.le_refl _)
    have F1 := c1.1.1
    have t1 := F1.sc (k := 1) hi hL (by omega)
    have t2 := F1.sc (k := 2) hi hL (by omega)
    have t3 := F1.sc (k := 3) hi hL (by omega)
    have t4 := F1.sc (k := 4) hi hL (by omega)
    have t5 := F1.sc (k := 5) hi hL (by omega)
    simp only [psh]
    rw [bk_L_law_49, nn_some, nn_some, nn_some, nn_some, nn_some, nn_some, p1, p2, p3, p4, p5, t1.2.2, t2.2.2, t3.2.2, t4.2.2, t5.2.2]
    refine ⟨t1.1, t1.2.1, t2.1, t2.2.1, t3.1, t3.2.1, t4.1, t4.2.1, t5.1, t5.2.1, by rw [W1.1.tg (by omega)]; exact RWr.1.1, ?_⟩
    refine ref_call RWr.1 W1.1 (by omega) (fun g hg z => by unfold EFD at z; omega) (fun y _ _ z => by unfold EFD at z; omega) (fun y z => by unfold EFD at z; omega) (by decide) (okl_c (ok_s nrc_0) (okl_c ok_i (okl_c ok_i (okl_c ok_i (okl_c ok_i (okl_c ok_i okl_n)))))) (REF _) (fun v h' r2 r3 R3 q p x3 sm => ?_)
    rcases p with ⟨y, -⟩ | ⟨-, pv, pr⟩
    · omega
    · obtain ⟨f1, f2, f3⟩ := fd_x r n (xs (i + 1)) (xs (i + 2)) (xs (i + 3)) (xs (i + 4)) (xs (i + 5))
      rw [pr] at q
      rw [pv]
      simp only [psh]
      rw [bk_L_law_76]
      exact ⟨fun _ => NX h' (li_of c1 x3 sm R3 q (fun _ _ => rfl) (by rw [gi_sI, if_pos rfl]) (by omega) (by rw [gi_sI, if_neg (by decide), f3]) (wcx_x WX (fun q hq => f1 q hq) f2 (by rw [gi_sI, if_neg (by decide), f3])) dpp k5 (ms_x ms (fun q hq => f1 q hq) (by rw [gi_sI, if_neg (by decide), f3]))), fun z => absurd rfl z⟩
theorem op_find (I : LI h b Ln xs a e0 (m + 1)) (hi : i + 6 ≤ Ln) (hL : Ln ≤ 3072) (NX : ∀ h', LI h' b Ln xs a e0 m → wp (d + 1000) K_L_law 320 [] [(0, vr (some b)), (1, vr (some a)), (2, vr (some (a + 14))), (3, vi (nI i))] h' Q) : wp (d + 1000) K_L_law 255 [] [(0, vr (some b)), (1, vr (some a)), (2, vr (some (a + 14))), (3, vi (nI i))] h Q := by
  obtain ⟨r, R, C, L, G, fW, par, wk, pk, fS, ks, dp, U, V', n, c, RWr, ⟨hn, n2⟩, WX, dpp, k5, ms⟩ := I
  have c0 := c
  obtain ⟨⟨F, lt⟩, ⟨O, N, uv⟩, ⟨TT, e65⟩, rc1, rs1⟩ := c
  have B := WX.2.1
  have K := N.2.2.2.2.2.1.1
  have l4 : ks.length ≤ 4000 := N.2.2.2.2.1.2.2
  rw [bk_L_law_255, nn_some]
  refine ⟨O.1, ?_⟩
  refine c_find (d := d + 991) O N (by omega) WX.1 k5 TT (fun h1 x1 s1 T1 => ?_)
  have c1 := c0.tape x1 (fun g y q => by unfold EFN ET at q; omega) s1 T1 (by omega)
  simp only [psh]
  rw [bk_L_law_257, nn_some]
  refine ⟨by rw [x1.tg (by omega)]; exact RWr.1.1, ?_⟩
  refine ref_call (P := fun v r2 => v = some (vi (fndS r (wN R) (nkN R) (nmN R) n)) ∧ r2 = sI r 1401 0) RWr.1 x1 (by omega) (fun g hg z => by unfold EFN ET at z; omega) (fun y _ _ z => by unfold EFN ET at z; omega) (fun y z => by unfold EFN ET at z; omega) (by decide) (okl_c (ok_s nrc_0) okl_n) ?_ (fun v h' r2 r3 R3 q p x3 sm => ?_)
  · rw [a_find (d := d + 998) (RWr.bq B) (n := n) (by rw [RWr.gi]; exact hn) n2]
    exact ⟨_, RWr.FI 1401 0, by rw [RWr.2], rfl⟩
  · obtain ⟨pv, pr⟩ := p
    rw [pr] at q
    rw [pv]
    simp only [psh]
    rw [bk_L_law_259]
    exact ⟨fun _ => NX h' (li_of c1 x3 sm R3 q (fun _ _ => rfl) (by rw [gi_sI, if_pos rfl]; rfl) (by omega) (by rw [gi_sI, if_neg (by decide)]) (wcx_x WX (fun _ _ => rfl) rfl (by rw [gi_sI, if_neg (by decide)])) dpp k5 (ms_x ms (fun _ _ => rfl) (by rw [gi_sI, if_neg (by decide)]))), fun z => absurd rfl z⟩
theorem op_walk (I : LI h b Ln xs a e0 (m + 1)) (hi : i + 6 ≤ Ln) (hL : Ln ≤ 3072) (NX : ∀ h', LI h' b Ln xs a e0 m → wp (d + 1000) K_L_law 320 [] [(0, vr (some b)), (1, vr (some a)), (2, vr (some (a + 14))), (3, vi (nI i))] h' Q) : wp (d + 1000) K_L_law 262 [] [(0, vr (some b)), (1, vr (some a)), (2, vr (some (a + 14))), (3, vi (nI i))] h Q := by
  obtain ⟨r, R, C, L, G, fW, par, wk, pk, fS, ks, dp, U, V', n, c, RWr, ⟨hn, n2⟩, WX, dpp, k5, ms⟩ := I
  have c0 := c
  obtain ⟨⟨F, lt⟩, ⟨O, N, uv⟩, ⟨TT, e65⟩, rc1, rs1⟩ := c
  have B := WX.2.1
  have K := N.2.2.2.2.2.1.1
  have l4 : ks.length ≤ 4000 := N.2.2.2.2.1.2.2
  have s1 := F.sc (k := 1) hi hL (by omega)
  have p1 : nI i + 1 = nI (i + 1) := by rw [show (1 : Int32) = nI 1 from rfl, nI_add]
  have s2 := F.sc (k := 2) hi hL (by omega)
  have p2 : nI i + 2 = nI (i + 2) := by rw [show (2 : Int32) = nI 2 from rfl, nI_add]
  have s3 := F.sc (k := 3) hi hL (by omega)
  have p3 : nI i + 3 = nI (i + 3) := by rw [show (3 : Int32) = nI 3 from rfl, nI_add]
  rw [bk_L_law_262, nn_some, nn_some, nn_some, nn_some, p1, p2, p3, s1.2.2, s2.2.2, s3.2.2]
  refine ⟨s1.1, s1.2.1, s2.1, s2.2.1, s3.1, s3.2.1, O.1, ?_⟩
  refine c_walk (d := d + 15) O N (by omega) WX dpp e65.symm _ _ (fun h1 v r' x1 s1 kp e65' RK => ?_)
  have c1 : CIN h1 b Ln xs a e0 m U V' R C L G fW par wk pk fS ks (ai r 1) n (gi r' 1465) := by
    have no : ∀ g y, ¬ (g = 309 ∨ ((g = 1102 ∨ g = 21101 ∨ g = 31100) ∧ y = a + 4)) → ¬ EWW (a + 4) U g y := fun g y q z => by unfold EWW EWK at z; omega
    refine ⟨⟨F.fx x1 (by omega) (fun g y z => by unfold EWW EWK at z; omega), by omega⟩, ⟨O.fx x1 (fun g hg z => by unfold EWW EWK at z; omega), N.fx x1 (fun g y p1 p2 z => by unfold EWW EWK at z; omega) (fun y z => by unfold EWW EWK at z; omega), uv⟩, ⟨TT.fy F.sgv x1 (no _ _ (by omega)) (no _ _ (by omega)) (no _ _ (by omega)) (no _ _ (by omega)) (no _ _ (by omega)) (fun y => ⟨no _ _ (by omega), no _ _ (by omega), no _ _ (by omega), no _ _ (by omega), no _ _ (by omega)⟩) (fun y hy => no _ _ (by omega)), e65'.symm⟩, by omega, by omega⟩
  have F1 := c1.1.1
  have t1 := F1.sc (k := 1) hi hL (by omega)
  have t2 := F1.sc (k := 2) hi hL (by omega)
  have t3 := F1.sc (k := 3) hi hL (by omega)
  simp only [psh]
  rw [bk_L_law_286, nn_some, nn_some, nn_some, nn_some, p1, p2, p3, t1.2.2, t2.2.2, t3.2.2]
  refine ⟨t1.1, t1.2.1, t2.1, t2.2.1, t3.1, t3.2.1, by rw [x1.tg (by omega)]; exact RWr.1.1, ?_⟩
  refine ref_call (P := fun v' r2 => v' = some (vi v) ∧ r2 = r') RWr.1 x1 (by omega) (fun g hg z => by unfold EWW EWK at z; omega) (fun y _ _ z => by unfold EWW EWK at z; omega) (fun y z => by unfold EWW EWK at z; omega) (by decide) (okl_c (ok_s nrc_0) (okl_c ok_i (okl_c ok_l okl_n))) (RK (d + 993) h (a + 14) _ RWr (fun h2 R2 => ⟨r', R2, rfl, rfl⟩)) (fun v' h' r2 r3 R3 q p x3 sm => ?_)
  obtain ⟨pv, pr⟩ := p
  rw [pr] at q
  rw [pv]
  simp only [psh]
  rw [bk_L_law_310]
  exact ⟨fun _ => NX h' (li_of c1 x3 sm R3 q (fun i _ => by rw [kp.1 1 (by omega)]) (by rw [kp.2.2 1401 (by omega)]; exact hn) n2 rfl (WX.kp kp) dpp k5 ⟨by rw [kp.2.2 1460 (by omega)]; exact ms.1, fun i hi => by rw [kp.1 50 (by omega), kp.1 49 (by omega), kp.1 51 (by omega)]; exact ms.2 i hi⟩), fun z => absurd rfl z⟩
end
