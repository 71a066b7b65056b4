/-! The law: its loop -/
theorem sub6 {x y : Nat} (hx : x ≤ 3072) (hy : y ≤ 4000) : (nI x - 6 < nI y) ↔ x < y + 6 := by
  rw [Int32.lt_iff_toInt_lt, Int32.toInt_sub]
  have e1 : (nI x).toInt = (x : Int) := nI_toInt (by omega)
  have e2 : (nI y).toInt = (y : Int) := nI_toInt (by omega)
  have e3 : Int32.toInt 6 = 6 := rfl
  rw [e1, e2, e3, Int.bmod_eq_of_le (m := 2 ^ 32) (by omega) (by omega)]
  omega
section
variable {d : Nat} {Q : Option V → AH → Prop} {b Ln a e0 : Nat} {xs : Nat → Int32}
theorem law_loop (hL : Ln ≤ 3072) (HQ : ∀ h, Q (some (vi 1)) h) : ∀ m i (h : AH), LI h b Ln xs a e0 m → i + 6 * m = 3072 → wp (d + 1000) K_L_law 10 [] [(0, vr (some b)), (1, vr (some a)), (2, vr (some (a + 14))), (3, vi (nI i))] h Q := by
  intro m
  induction m with
  | zero =>
    intro i h I e
    obtain ⟨r, R, C, L, G, fW, par, wk, pk, fS, ks, dp, U, V', n, ⟨⟨F, lt⟩, -⟩, -⟩ := I
    rw [bk_L_law_10, nn_some, F.1.2.1, show Int32.ofNat Ln = nI Ln from rfl]
    refine ⟨Or.inl F.1.1, fun _ => ?_, fun z => absurd ((sub6 hL (by omega)).mpr (by omega)) z⟩
    rw [bk_L_law_322]
    exact ⟨Or.inr rfl, HQ h⟩
  | succ m ih =>
    intro i h I e
    have I0 := I
    obtain ⟨r, R, C, L, G, fW, par, wk, pk, fS, ks, dp, U, V', n, ⟨⟨F, lt⟩, -⟩, -⟩ := I
    have NX : ∀ h', LI h' b Ln xs a e0 m → wp (d + 1000) K_L_law 320 [] [(0, vr (some b)), (1, vr (some a)), (2, vr (some (a + 14))), (3, vi (nI i))] h' Q := fun h' I' => by
      rw [bk_L_law_320, show nI i + 6 = nI (i + 6) by rw [show (6 : Int32) = nI 6 from rfl, nI_add]]
      exact ih (i + 6) h' I' (by omega)
    rw [bk_L_law_10, nn_some, F.1.2.1, show Int32.ofNat Ln = nI Ln from rfl]
    refine ⟨Or.inl F.1.1, fun _ => ?_, fun z => ?_⟩
    · rw [bk_L_law_322]
      exact ⟨Or.inr rfl, HQ h⟩
    · rw [sub6 hL (by omega)] at z
      have hi : i + 6 ≤ Ln := by omega
      have s0 := F.sc (k := 0) hi hL (by omega)
      rw [Nat.add_zero] at s0
      have less : LI h b Ln xs a e0 m := by
        obtain ⟨r, R, C, L, G, fW, par, wk, pk, fS, ks, dp, U, V', n, c, rest⟩ := I0
        exact ⟨r, R, C, L, G, fW, par, wk, pk, fS, ks, dp, U, V', n, c.less, rest⟩
      rw [bk_L_law_16, nn_some]
      refine ⟨s0.1, s0.2.1, fun _ => NX h less, fun j hj _ => ?_⟩
      rcases (show j = 0 ∨ j = 1 ∨ j = 2 ∨ j = 3 ∨ j = 4 ∨ j = 5 ∨ j = 6 ∨ j = 7 ∨ j = 8 ∨ j = 9 ∨ j = 10 ∨ j = 11 by omega) with z | z | z | z | z | z | z | z | z | z | z | z <;> subst z
      · change wp (d + 1000) K_L_law 22 [] _ h Q
        exact op_feed I0 hi hL NX
      · change wp (d + 1000) K_L_law 79 [] _ h Q
        exact op_cut I0 hi hL NX
      · change wp (d + 1000) K_L_law 96 [] _ h Q
        exact op_read I0 hi hL NX
      · change wp (d + 1000) K_L_law 103 [] _ h Q
        exact op_told I0 hi hL NX
      · change wp (d + 1000) K_L_law 120 [] _ h Q
        exact op_mistake I0 hi hL NX
      · change wp (d + 1000) K_L_law 147 [] _ h Q
        exact op_kind I0 hi hL NX
      · change wp (d + 1000) K_L_law 174 [] _ h Q
        exact op_below I0 hi hL NX
      · change wp (d + 1000) K_L_law 201 [] _ h Q
        exact op_method I0 hi hL NX
      · change wp (d + 1000) K_L_law 228 [] _ h Q
        exact op_statement I0 hi hL NX
      · change wp (d + 1000) K_L_law 255 [] _ h Q
        exact op_find I0 hi hL NX
      · change wp (d + 1000) K_L_law 262 [] _ h Q
        exact op_walk I0 hi hL NX
      · change wp (d + 1000) K_L_law 313 [] _ h Q
        exact op_steps I0 hi hL NX
end
/-- both are made -/
theorem law_wp {h : AH} {b Ln : Nat} {xs : Nat → Int32} (hL : Ln ≤ 3072) (hS : Start h b Ln xs) : wp 2000 K_L_law 0 [] (ent 0 [vr (some b)]) h (fun v _ => v = some (vi 1)) := by
  obtain ⟨ex, ⟨b1, b2, b3, b4⟩, st, ⟨g1, g2, g3, g4, g5, g6, g7⟩, tz, rc0, rs0⟩ := hS
  have F0 : FXS h b Ln xs (ex 20) (tp h) := ⟨⟨b1, b2, b3, b4⟩, ⟨⟨g3, g4, g5, g6, g2, ex 21, g7⟩, g6⟩, fun i hi => by
    obtain ⟨q1, q2, q3, q4, q5, q6, q7, q8, q9⟩ := st i hi
    exact ⟨ex i, ex (10 + i), ⟨q1, q2, q3, q4, q5, q6, q7, q8, q9, g1⟩, q9⟩⟩
  show wp 2000 K_L_law 0 [] [(0, vr (some b))] h _
  rw [bk_L_law_0]
  refine ⟨by omega, by omega, ?_⟩
  have x1 : FX (fun _ _ => False) h (newO h 13 3) := FX.O (by decide)
  have t1 : tg (newO h 13 3) (tp h) = 14 := by rw [tg_newO, if_pos rfl]
  have p1 : tp (newO h 13 3) = tp h + 1 := by rw [tp_newO]
  have c1 := rc_newO h 13 3
  have d1 := rs_newO h 13 3
  have F1 := F0.fx x1 (Nat.le_refl _) (fun _ _ z => z.elim)
  generalize ea : tp h = a at *
  generalize newO h 13 3 = h1 at *
  generalize ex 20 = e0 at *
  rw [bk_L_law_1, nn_some]
  refine ⟨t1, ?_⟩
  refine c_init (d := 1992) (e0 := e0) (t := fun _ => 0) t1 p1 F1.2.1.1 F1.2.1.2 F1.2.2 (by omega) (by omega) (fun h2 par wk pk T2 ⟨o1, o2, o3, o4⟩ ⟨w1, w2⟩ K2 vals ⟨u1, u2, u3, u4, u5⟩ ⟨l1, l2, l3⟩ x2 p2 c2 d2 => ?_)
  have F2 := F1.fx x2 (by omega) (fun g y z => by have z : y = a ∧ g / 100 % 100 = 13 := z; omega)
  simp only [psh]
  rw [bk_L_law_3]
  refine ⟨by omega, by omega, ?_⟩
  have x3 : FX (fun _ _ => False) h2 (newO h2 14 75) := FX.O (by decide)
  have t3 : tg (newO h2 14 75) (a + 14) = 15 := by rw [tg_newO, if_pos p2.symm]
  have p3 : tp (newO h2 14 75) = a + 14 + 1 := by rw [tp_newO, p2]
  have c3 := rc_newO h2 14 75
  have d3 := rs_newO h2 14 75
  have z3 : ∀ f, f / 100 % 100 = 14 → fI (newO h2 14 75) f (a + 14) = 0 ∧ fJ (newO h2 14 75) f (a + 14) = 0 := fun f hf => by
    rw [fI_newO, fJ_newO, if_pos ⟨p2.symm, hf⟩, if_pos ⟨p2.symm, hf⟩]; exact ⟨rfl, rfl⟩
  rw [p2]
  generalize newO h2 14 75 = h3 at *
  rw [bk_L_law_5, nn_some]
  refine ⟨t3, ?_⟩
  refine r_init (d := 1998) t3 p3 z3 (by omega) (by omega) (fun h4 RS4 za zf x4 p4 c4 d4 => ?_)
  have R4 : RW (view h4 (a + 14)) h4 (a + 14) := ⟨RS4, rfl⟩
  have g02 : gi (view h4 (a + 14)) 1402 = nI 0 := (zf 1402 (by decide)).1
  have zg : ∀ f, f / 100 % 100 = 14 → gi (view h4 (a + 14)) f = 0 := fun f hf => (zf f hf).1
  refine ref_call (E := fun _ _ => False) (P := fun v r2 => v = none ∧ r2 = crF (view h4 (a + 14)) 0) RS4 FX.rf (by omega) (fun _ _ z => z) (fun _ _ _ z => z) (fun _ z => z) (by decide) (okl_c (ok_s nrc_0) (okl_c ok_i okl_n)) (c_clear R4 (w := 0) (by omega) g02 false (fun h5 R5 => ⟨_, R5, rfl, rfl⟩)) (fun v h5 r2 r3 R5 q p x5 sm => ?_)
  obtain ⟨pv, pr⟩ := p
  rw [pv]
  simp only [psh]
  rw [bk_X12_init_229]
  simp only [psh]
  rw [bk_L_law_7, show vi 0 = vi (nI 0) from rfl]
  generalize view h4 (a + 14) = r0 at *
  -- the reference's state
  obtain ⟨k2, k8, k18, k39⟩ := cr_cnt r0 0
  have kk := cr_k r0 0
  have q02 : gi r3 1402 = nI 0 := by rw [(q.1 1402 (by decide)).1, pr, cr_02]
  have qg : ∀ f, f / 100 % 100 = 14 → ¬ f = 1402 → gi r3 f = 0 := fun f hf nf => by rw [(q.1 f hf).1, pr, cr_gi _ _ nf]; exact zg f hf
  have ew : wN r3 = 0 := by unfold wN; rw [q02]; rfl
  have e2 : ai r3 2 0 = nI 4 := by rw [(q.2 2 (by omega)).1, pr]; exact k2
  have e8 : ai r3 8 0 = nI 0 := by rw [(q.2 8 (by omega)).1, pr]; exact k8
  have e18 : ai r3 18 0 = nI 0 := by rw [(q.2 18 (by omega)).1, pr]; exact k18
  have e39 : ai r3 39 0 = nI 0 := by rw [(q.2 39 (by omega)).1, pr]; exact k39
  have ek : ∀ k, k < 4 → al r3 3 (0 * 16 + k) = bwS.getD k 0 ∧ ai r3 4 (0 * 16 + k) = -1 ∧ ai r3 5 (0 * 16 + k) = -1 := fun k hk => by
    rw [(q.2 3 (by omega)).2, (q.2 4 (by omega)).1, (q.2 5 (by omega)).1, pr]; exact kk k hk
  have nk4 : nkN r3 = 4 := by unfold nkN; rw [ew, e2]; rfl
  have nm0 : nmN r3 = 0 := by unfold nmN; rw [ew, e8]; rfl
  have ns0 : nsC r3 = 0 := by unfold nsC; rw [ew, e18]; rfl
  have nb0 : nbC r3 = 0 := by unfold nbC; rw [ew, e39]; rfl
  have er : rsN r3 = 0 := by have : rsN r3 = wN r3 * 120 + nsC r3 := rfl; omega
  have eb : nbN r3 = 0 := by have : nbN r3 = wN r3 * 1024 + nbC r3 := rfl; omega
  have srg : ∀ s, ¬ SRG r3 s := fun s z => by have := z.2; omega
  have pr4 : ∀ k, k < 4 → parN r3 0 4 k = (if k = 2 then 1 else 0) := fun k hk => by unfold parN; rw [if_pos hk]
  have BV3 : BV r3 0 4 0 0 0 := by
    refine ⟨⟨q02, by omega, e2, by omega, by omega, fun k k0 hk => ?_⟩, ⟨e8, by omega, e18, by omega, fun m hm => absurd hm (Nat.not_lt_zero _), fun s h1 h2 => by omega⟩, ⟨by omega, fun s h1 h2 => by omega, fun b h1 h2 => by omega, fun m hm => absurd hm (Nat.not_lt_zero _)⟩⟩
    rw [pr4 k hk]
    split <;> omega
  have U3 : UPD r3 := ⟨by omega, by omega, fun b _ _ => by omega, fun b _ _ => by omega, fun s _ _ => by omega⟩
  have T3 : TRE r3 (fun _ _ => 0) 0 := ⟨⟨(by show wN r3 * 120 = rsN r3; omega), fun b hb => (by cases hb)⟩, fun s h1 h2 => by omega, fun b h1 h2 => by omega, U3, by omega, by omega⟩
  have KE3 : KEQ r3 4 par := ⟨nk4.symm, by omega, by omega, fun k hk => by rw [ew, pr4 k hk]; exact (vals k hk).2.1, fun k k0 hk => by rw [ew, pr4 k hk]; split <;> omega⟩
  -- the class's side, behind the reference's making
  have X25 : FX (fun g y => (y = a + 14 ∧ g / 100 % 100 = 14) ∨ (g = 90001 ∧ a + 14 ≤ y)) h2 h5 := ((x3.mono (fun _ _ z => z.elim)).tr (x4.mono (fun g y z => Or.inl z))).tr (x5.mono (fun g y z => by unfold ERF at z; omega))
  have no : ∀ g y, ¬ g / 100 % 100 = 14 → ¬ g = 90001 → ¬ ((y = a + 14 ∧ g / 100 % 100 = 14) ∨ (g = 90001 ∧ a + 14 ≤ y)) := fun g y h1 h2 z => by omega
  have no2 : ∀ g y, y < a + 14 → ¬ ((y = a + 14 ∧ g / 100 % 100 = 14) ∨ (g = 90001 ∧ a + 14 ≤ y)) := fun g y h1 z => by omega
  have F5 := F2.fx X25 (by omega) (fun g y z => by have z : (y = a + 14 ∧ g / 100 % 100 = 14) ∨ (g = 90001 ∧ a + 14 ≤ y) := z; omega)
  have T5 : TS h5 (a + 1) (ai r3 1) 0 := (T2.fy F2.sgv X25 (no2 _ _ (by omega)) (no2 _ _ (by omega)) (no2 _ _ (by omega)) (no2 _ _ (by omega)) (no2 _ _ (by omega)) (fun y => ⟨no _ _ (by decide) (by decide), no _ _ (by decide) (by decide), no _ _ (by decide) (by decide), no _ _ (by decide) (by decide), no _ _ (by decide) (by decide)⟩) (fun y hy => no2 _ _ (by omega))).cg (fun i hi => absurd hi (Nat.not_lt_zero _))
  have K5' : KD h5 (a + 6) 4 par wk pk := K2.fx X25 (fun g => no2 g _ (by omega)) (no2 _ _ (by omega)) (no2 _ _ (by omega)) (no2 _ _ (by omega)) (no2 _ _ (by omega))
  have ax : ∀ {LL : Nat}, AL h2 e0 LL e0 0 (fun _ => 0) → LL < a + 14 → AL h5 e0 LL e0 0 (fun _ => 0) := fun A hl => A.fx X25 (no2 _ _ hl) (no2 _ _ hl) (Or.inl rfl)
  have O5 : COB h5 a (a + 1) (a + 4) (a + 5) := by
    refine ⟨by rw [X25.tg (by omega)]; exact o1, by omega, ?_, ?_, ?_, ?_, by omega⟩
    · rw [X25.fP (by omega) (no2 _ _ (by omega))]; exact o2
    · rw [X25.fP (by omega) (no2 _ _ (by omega))]; exact o3
    · rw [X25.fP (by omega) (no2 _ _ (by omega))]; exact o4
    · rw [X25.tg (by omega)]; exact w1
  have uf : ∀ g v, fP h2 g (a + 5) = some v → fP h5 g (a + 5) = some v := fun g v z => by rw [X25.fP (by omega) (no2 _ _ (by omega))]; exact z
  have N5 : UNF h5 (a + 5) (a + 14) e0 r3 (ai r3 47) (ai r3 48) (fun _ _ => 0) (nmN r3) (fun _ => 0) (nkN r3) par wk pk (nsC r3) (fun _ => 0) [] := by
    rw [nm0, nk4, ns0]
    refine ⟨⟨by rw [X25.tg (by omega)]; exact u1, uf _ _ u2, uf _ _ u3, uf _ _ u4, uf _ _ u5, by omega, by omega⟩, K5', ⟨e0, e0, e0, ax l1 (by omega), ax l2 (by omega), ⟨fun _ => 0, ax l3 (by omega), fun i hi => absurd hi (Nat.not_lt_zero _)⟩, Or.inl rfl, Or.inl rfl, Or.inl rfl⟩, ⟨fun i hi => absurd hi (Nat.not_lt_zero _), fun i hi => absurd hi (Nat.not_lt_zero _)⟩, ⟨?_, (fun k hk => (by cases hk)), (by show 0 ≤ 4000; omega)⟩, ⟨KE3, fun k hk => ?_⟩, ⟨T3, nm0.symm, by omega, ns0.symm, by omega, fun k hk => absurd hk (Nat.not_lt_zero _)⟩, fun s hs => absurd hs (srg s), fun b hb => by have := hb.2; omega, fun m hm => absurd hm (Nat.not_lt_zero _), fun s hs => absurd hs (srg s), fun b hb => by have := hb.2; omega, fun m hm => absurd hm (Nat.not_lt_zero _), fun s t i j hs => absurd hs (srg s)⟩
    · exact List.Pairwise.nil
    · rw [ew, (ek k hk).1, (ek k hk).2.1]
      exact ⟨(vals k hk).1, WV_bw k hk, (vals k hk).2.2⟩
  have WX : WCX r3 (ai r3 47) (ai r3 48) r3 := by
    refine ⟨fun q i _ => ⟨?_, rfl⟩, by rw [ew, nk4, nm0, ns0, nb0]; exact BV3, fun s h1 h2 => by omega⟩
    show ai r3 q i = (if q = 47 then ai r3 47 else if q = 48 then ai r3 48 else ai r3 q) i
    by_cases y : q = 47
    · rw [if_pos y, y]
    · rw [if_neg y]
      by_cases y2 : q = 48
      · rw [if_pos y2, y2]
      · rw [if_neg y2]
  have I5 : LI h5 b Ln xs a e0 512 := by
    refine ⟨r3, r3, ai r3 47, ai r3 48, fun _ _ => 0, fun _ => 0, par, wk, pk, fun _ => 0, [], fun _ => 0, a + 5, a + 14, 0, ⟨⟨F5, by omega⟩, ⟨O5, N5, Or.inl ⟨rfl, rfl⟩⟩, ⟨T5, ?_⟩, by omega, by omega⟩, R5, ⟨?_, by omega⟩, WX, fun b h1 h2 => by omega, fun k hk => ?_, ?_, fun i hi => absurd hi (Nat.not_lt_zero _)⟩
    · rw [X25.fI (by omega) (no2 _ _ (by omega)), qg 1465 (by decide) (by decide)]
      exact (w2 1102 (by decide)).1
    · rw [qg 1401 (by decide) (by decide)]; rfl
    · rw [nk4] at hk
      rw [ew, (ek k hk).2.2]
      decide
    · rw [qg 1460 (by decide) (by decide)]; rfl
  exact law_loop (d := 1000) hL (fun _ => rfl) 512 0 h5 I5 (by omega)
