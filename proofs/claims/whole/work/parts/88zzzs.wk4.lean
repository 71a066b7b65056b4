/-! Walking: statements without loops and tries -/
def SCX (R : RV) (G : Nat → Nat → Nat) (j s : Nat) : Prop := RCH R G (nmN R) j ∧ SRG R s ∧ ai R 21 s = nI j ∧ G 4 j ≤ s ∧ s < G 5 j
/-- a statement begins -/
def AST (h0 : AH) (W U : Nat) (R : RV) (G : Nat → Nat → Nat) (rB : RV) (dp : Nat → Nat) (D : Nat → Prop) (f j : Nat) (h : AH) (r : RV) : Prop := WKS h0 W U R G rB D h r ∧ gi r 1466 = 0 ∧ gi r 11468 = 0 ∧ gi r 1469 = nI (f + 1) ∧ f ≤ dp j ∧ DAN R D j
/-- contract of going through a block -/
def GOB (h0 : AH) (W U : Nat) (R : RV) (G : Nat → Nat → Nat) (rB : RV) (dp : Nat → Nat) (m : Nat) : Prop := ∀ b, RCH R G (nmN R) b → G 5 b - G 4 b ≤ m → ∀ (d : Nat) (h : AH) (r : RV) (f : Nat) (D : Nat → Prop) (Q : Option V → AH → Prop), WKS h0 W U R G rB D h r → gi r 1466 = 0 → gi r 11468 = 0 → gi r 1469 = nI f → f ≤ dp b → DAN R D b → (ai R 40 b = 1 → ¬ mN R (wN R) (nmN R) (al R 24 (tn (ai R 41 b))) = none) → (∀ h' v r', GW R (pusF r b) r' → WKS h0 W U R G rB D h' r' → (EDL v r' ∨ BEN R f b r r' v) → Q (some (vi v)) h') → wp (d + 8 * m + 20) K_X9_goThrough 0 [] [(0, vr (some W)), (1, vr (some (G 1 b)))] h Q
theorem kid_mem {R : RV} {s b : Nat} : (oN (ai R 26 s) = some b ∨ oN (ai R 27 s) = some b ∨ oN (ai R 28 s) = some b ∨ ∃ i, i < tn (ai R 32 s) ∧ tn (ai R 33 (4 * s + i)) = b) → b ∈ kids R s := by
  intro e
  unfold kids
  rw [List.mem_append, List.mem_append, List.mem_append, Option.mem_toList, Option.mem_toList, Option.mem_toList]
  rcases e with e | e | e | ⟨i, h1, h2⟩
  · exact Or.inl e
  · exact Or.inr (Or.inl e)
  · exact Or.inr (Or.inr (Or.inr e))
  · exact Or.inr (Or.inr (Or.inl (List.mem_map.mpr ⟨i, List.mem_range.mpr h1, h2⟩)))
section
variable {d : Nat} {h0 h : AH} {Q : Option V → AH → Prop} {U V' e0 W : Nat} {R rB r : RV} {C L : Nat → Int32} {G : Nat → Nat → Nat} {fW par : Nat → Nat} {wk : Nat → Int64} {pk : Nat → Int32} {fS : Nat → Nat} {ks : List Nat} {dp : Nat → Nat} {D : Nat → Prop} {f j s m : Nat}
theorem WEN.si (N : WEN h0 U V' e0 W R C L G fW par wk pk fS ks rB dp) (S : WKS h0 W U R G rB D h r) (hs : SRG R s) : SIM h U R G s ∧ JDS R C L G (nmN R) h s := ⟨((N.unf S).2.2.2.2.2.2.2.1 s hs).1, ((N.unf S).2.2.2.2.2.2.2.1 s hs).2.1⟩
theorem WEN.hg (N : WEN h0 U V' e0 W R C L G fW par wk pk fS ks rB dp) (S : WKS h0 W U R G rB D h r) : HAH (wN R) r (pcl R C L) := (N.x S).1
theorem WEN.shp (N : WEN h0 U V' e0 W R C L G fW par wk pk fS ks rB dp) (hs : SRG R s) : SHP R s ∧ nbN R ≤ 2048 ∧ rsN R ≤ 240 := ⟨(N.t.1.2.1 s hs.1 hs.2).1.2.2.2.2.1, N.t.1.2.2.2.2.2, N.t.1.2.2.2.2.1⟩
/-- a block of a statement is gone through -/
theorem wk_kid (N : WEN h0 U V' e0 W R C L G fW par wk pk fS ks rB dp) (IH : GOB h0 W U R G rB dp m) (X : SCX R G j s) (hm : G 5 j - G 4 j ≤ m + 1) {b : Nat} (mb : b ∈ kids R s) (S : WKS h0 W U R G rB D h r) (e66 : gi r 1466 = 0) (e68 : gi r 11468 = 0) (e69 : gi r 1469 = nI (f + 1)) (hf : f ≤ dp j) (hD : DAN R D j) (h6 : ai R 40 b = 6 → D (prC R b)) (h1 : ai R 40 b = 1 → ¬ mN R (wN R) (nmN R) (al R 24 (tn (ai R 41 b))) = none) {e : Nat} (he : 8 * m + 20 ≤ e)
    (H : ∀ h' v r', GW R (pusF r b) r' → WKS h0 W U R G rB D h' r' → (EDL v r' ∨ BEN R (f + 1) b r r' v) → Q (some (vi v)) h') : wp e K_X9_goThrough 0 [] [(0, vr (some W)), (1, vr (some (G 1 b)))] h Q := by
  obtain ⟨x1, x2, x3, x4, x5⟩ := X
  obtain ⟨k1, k2, k3, k4, k5, k6, k7, k8⟩ := kid_f N x1 x2 x3 x4 x5 mb
  rw [show e = (e - (8 * m + 20)) + 8 * m + 20 by omega]
  exact IH b k1 (by omega) _ h r (f + 1) D Q S e66 e68 e69 (by omega) (hD.kid k2 h6) h1 H
/-- a block that means nothing when it is left -/
theorem lv_o (N : WEN h0 U V' e0 W R C L G fW par wk pk fS ks rB dp) (X : SCX R G j s) {b : Nat} (mb : b ∈ kids R s) {r0 : RV} {v : Int32} (hf : f ≤ dp j) (S : WKS h0 W U R G rB D h r) (B : BEN R (f + 1) b r0 r v) (ro : ai R 40 b = 2 ∨ ai R 40 b = 3 ∨ ai R 40 b = 9) : ∃ r2, GW R r r2 ∧ WKS h0 W U R G rB D h r2 ∧ SEN R f j r0 r2 v := by
  obtain ⟨x1, x2, x3, x4, x5⟩ := X
  obtain ⟨k1, k2, k3, k4, k5, k6, k7, k8⟩ := kid_f N x1 x2 x3 x4 x5 mb
  obtain ⟨T, K, n12, n120, n1024, w2⟩ := N.t
  have hg := N.hg S
  have e40 : ai r 40 b = ai R 40 b := hg_b hg (by omega) k7.1 k7.2 n1024
  have g := lv_turn N S k1 (show f + 1 < 15 by omega) B (fun z => by rcases ro with y | y | y <;> rw [y] at z <;> exact absurd z (by decide)) (fun z => by rcases ro with y | y | y <;> rw [y] at z <;> exact absurd z (by decide))
  have el : lvF (sI r 1469 (nI (f + 1))) (wN R) (nkN R) (nmN R) b (f + 1) = sI r 1469 (nI (f + 1)) := by
    refine lvF_o ?_ ?_ ?_ ?_ ?_ <;> (show ¬ ai r 40 b = _) <;> rw [e40] <;> rcases ro with y | y | y <;> rw [y] <;> decide
  rw [el] at g
  obtain ⟨b1, b2, b3, b4, -, -, b5, b6, b7⟩ := B
  refine ⟨_, g, S.cg (KPW.rf.s _ (by decide)) rfl rfl (fun _ _ => rfl), b1, by rw [gi_sI, if_pos rfl], b3.cg (fun _ _ _ => rfl), ?_⟩
  refine (b5.cg (r' := sI r 1469 (nI (f + 1))) rfl rfl).up ?_
  rw [tg_up T.2.2.2.1 k7.1 k7.2 k2, if_neg (by rcases ro with y | y | y <;> rw [y] <;> decide), if_neg (by rcases ro with y | y | y <;> rw [y] <;> decide)]
theorem EDL.sen {v : Int32} {r1 : RV} (h : EDL v r1) : EDL v r1 ∨ SEN R f j r r1 v := Or.inl h
/-- nothing happens -/
theorem sn_0 {r1 : RV} (A : AST h0 W U R G rB dp D f j h r) (k : dtK r r1) (e66 : gi r1 1466 = 0) : SEN R f j r r1 (-1) := by
  obtain ⟨S, a1, a2, a3, -, -⟩ := A
  exact ⟨by rw [k.2.2 11468 (by decide) (by decide)]; exact a2, by rw [k.2.2 1469 (by decide) (by decide)]; exact a3, FRK.rf.cg (fun q _ _ => by rw [k.1]), Or.inl ⟨rfl, e66⟩⟩
theorem sn_1 {r1 : RV} {k : Nat} (A : AST h0 W U R G rB dp D f j h r) (kd : dtK r r1) (hk : k < nkN R) (e66 : gi r1 1466 = 1) (e67 : gi r1 1467 = nI k) : SEN R f j r r1 (nI k) := by
  obtain ⟨S, a1, a2, a3, -, -⟩ := A
  exact ⟨by rw [kd.2.2 11468 (by decide) (by decide)]; exact a2, by rw [kd.2.2 1469 (by decide) (by decide)]; exact a3, FRK.rf.cg (fun q _ _ => by rw [kd.1]), Or.inr (Or.inl ⟨k, rfl, hk, e66, e67⟩)⟩
/-- a method that is called throws or not, from a state with the same frames -/
theorem dt_sen {r1 r2 : RV} {kv : Option Nat} (e68 : gi r1 11468 = 0) (e69 : gi r1 1469 = nI (f + 1)) (e66 : gi r1 1466 = 0) (fk : FRK (f + 1) r r1) (S1 : WKS h0 W U R G rB D h (drwF r1)) (e : r2 = (if gi r1 1466 = 1 then drwF r1 else match kv with
      | none => drwF r1
      | some q => thrW (drwF r1) (nI q))) (hk : ∀ k, kv = some k → k < nkN R) : WKS h0 W U R G rB D h r2 ∧ SEN R f j r r2 (oI kv) := by
  rw [if_neg (by rw [e66]; decide)] at e
  cases kv with
  | none =>
    have e : r2 = drwF r1 := e
    rw [e]
    exact ⟨S1, e68, e69, fk.cg (fun _ _ _ => rfl), Or.inl ⟨rfl, e66⟩⟩
  | some q =>
    have e : r2 = thrW (drwF r1) (nI q) := e
    rw [e]
    refine ⟨S1.drw_thr _, ?_, ?_, fk.cg (fun _ _ _ => rfl), Or.inr (Or.inl ⟨q, rfl, hk q rfl, ?_, ?_⟩)⟩
    · unfold thrW; rw [gi_sI, if_neg (by decide), gi_sI, if_neg (by decide)]; exact e68
    · unfold thrW; rw [gi_sI, if_neg (by decide), gi_sI, if_neg (by decide)]; exact e69
    · unfold thrW; rw [gi_sI, if_neg (by decide), gi_sI, if_pos rfl]
    · unfold thrW; rw [gi_sI, if_pos rfl]
/-- the ways a statement of sort k comes to its end -/
def FIN (h0 : AH) (W U : Nat) (R : RV) (G : Nat → Nat → Nat) (rB : RV) (D : Nat → Prop) (f j s : Nat) (r : RV) (Q : Option V → AH → Prop) : Prop := ∀ h' v r', GW R (begF r (wN R) (nkN R) (nmN R) s) r' → WKS h0 W U R G rB D h' r' → (EDL v r' ∨ SEN R f j r r' v) → Q (some (vi v)) h'
theorem go_60 (A : AST h0 W U R G rB dp D f j h r) (e : begF r (wN R) (nkN R) (nmN R) s = r) (H : FIN h0 W U R G rB D f j s r Q) {x1 : Option Nat} : wp d K_X9_goOver 60 [] [(0, vr (some W)), (1, vr x1)] h Q := by
  rw [bk_X9_goOver_60]
  exact H h (-1) r (by rw [e]; exact GW.rf) A.1 (Or.inr (sn_0 A dtK.rf A.2.1))
theorem go_call (N : WEN h0 U V' e0 W R C L G fW par wk pk fS ks rB dp) (IH : GOB h0 W U R G rB dp m) (X : SCX R G j s) (hm : G 5 j - G 4 j ≤ m + 1) (A : AST h0 W U R G rB dp D f j h r) (e19 : ai R 19 s = 1) (H : FIN h0 W U R G rB D f j s r Q) : wp (d + 8 * m + 26) K_X9_goOver 3 [] [(0, vr (some W)), (1, vr (some (G 0 s)))] h Q := by
  obtain ⟨T, K, n12, n120, n1024, w2⟩ := N.t
  have A0 := A
  obtain ⟨S, a1, a2, a3, a4, a5⟩ := A
  have hs := X.2.1
  obtain ⟨SI, JS⟩ := N.si S hs
  have hg := N.hg S
  obtain ⟨w1, w2', w3⟩ := N.w S
  have UF := N.unf S
  obtain ⟨shp, sm, s240⟩ := N.shp hs
  have r19 : ai r 19 s = ai R 19 s := (hg_s hg (q := 19) (by omega) hs n120).1
  have r26 : ai r 26 s = ai R 26 s := (hg_s hg (q := 26) (by omega) hs n120).1
  have eb : begF r (wN R) (nkN R) (nmN R) s = begC r (wN R) (nkN R) (nmN R) s := begF_1 (by rw [r19]; exact e19)
  have em : mN r (wN R) (nmN R) (al r 24 s) = mN R (wN R) (nmN R) (al R 24 s) := by rw [(hg_s hg (q := 24) (by omega) hs n120).2, hg_mN hg n12]
  unfold FIN at H
  rw [eb] at H
  rw [bk_X9_goOver_3, nn_some, nn_some]
  refine ⟨SI.1.1, SI.1.1, w1, ?_⟩
  rw [JS.2.2.1 e19, SI.2.2.2.2.2.1]
  rw [bk_X9_goCall_0, w3]
  refine ⟨w1, fun _ => ?_, fun z => by cases z⟩
  rw [bk_X9_goCall_5, w3, nn_some]
  refine ⟨w1, UF.1.1, ?_⟩
  have ml : ∀ q, mN R (wN R) (nmN R) (al R 24 s) = some q → q < nmN R := fun q e => by have := (ffst_some e).2.1; omega
  refine c_wayAt (d := d + 8 * m + 21) UF _ ?_
  rw [ixO_oI ml (by omega)]
  simp only [psh]
  rw [bk_X9_goCall_9]
  cases emo : mN R (wN R) (nmN R) (al R 24 s) with
  | none =>
    refine ⟨fun z => absurd rfl z, fun _ => ?_⟩
    rw [bk_X9_goCall_12]
    simp only [psh]
    rw [bk_X9_goOver_9]
    refine H h (-1) r ?_ S (Or.inr (sn_0 A0 dtK.rf a1))
    unfold begC
    rw [em, emo]
    exact GW.rf
  | some q =>
    have hq := ml q emo
    have WJ := ((N.unf S).2.2.2.2.2.2.2.2.2.1 q hq).1
    have r13 : ai r 13 (wN R * 12 + q) = ai R 13 (wN R * 12 + q) := (hg_w hg (q := 13) (by omega) (by omega)).1
    have ebc : begC r (wN R) (nkN R) (nmN R) s = if ai R 26 s = -1 ∨ ai R 13 (wN R * 12 + q) = 0 then dtF r (wN R) (nkN R) (wN R * 12 + q) else if drwV r 2 = 1 then pusF (drwF r) (tn (ai R 26 s)) else dtF (drwF r) (wN R) (nkN R) (wN R * 12 + q) := by
      unfold begC
      rw [em, emo]
      show (if ai r 26 s = -1 ∨ ai r 13 (wN R * 12 + q) = 0 then _ else if _ then pusF (drwF r) (tn (ai r 26 s)) else _) = _
      rw [r26, r13]
    rw [ebc] at H
    refine ⟨fun _ => ?_, fun z => by cases z⟩
    -- the call itself
    have CALL : ∀ h1 r1, WKS h0 W U R G rB D h1 r1 → gi r1 11468 = 0 → gi r1 1469 = nI (f + 1) → gi r1 1466 = 0 → FRK (f + 1) r r1 → GW R (if ai R 26 s = -1 ∨ ai R 13 (wN R * 12 + q) = 0 then dtF r (wN R) (nkN R) (wN R * 12 + q) else if drwV r 2 = 1 then pusF (drwF r) (tn (ai R 26 s)) else dtF (drwF r) (wN R) (nkN R) (wN R * 12 + q)) (dtF r1 (wN R) (nkN R) (wN R * 12 + q)) → ∀ x1 x2, wp (d + 8 * m + 25) K_X9_goCall 35 [] [(0, vr (some W)), (1, vi x1), (2, vr x2), (3, vr (some (fW q)))] h1 (fun v h1 => wp (d + 8 * m + 26) K_X9_goOver 9 (psh v []) [(0, vr (some W)), (1, vr (some (G 0 s)))] h1 Q) := fun h1 r1 S1 c1 c2 c3 c4 c5 x1 x2 => by
      refine wk_call (d := d + 8 * m + 21) N S1 hq (fun h2 kv S2 kl ed => ?_)
      simp only [psh]
      rw [bk_X9_goOver_9]
      obtain ⟨S3, se⟩ := dt_sen (j := j) c1 c2 c3 c4 S2 ed kl
      exact H h2 _ _ c5 S3 (Or.inr se)
    rw [bk_X9_goCall_14]
    cases e26 : oN (ai R 26 s) with
    | none =>
      have z26 : ai R 26 s = -1 := by
        unfold oN at e26
        split at e26
        · assumption
        · cases e26
      refine ⟨fun _ => ?_, fun z => absurd rfl z⟩
      exact CALL h r S a2 a3 a1 FRK.rf (by rw [if_pos (Or.inl z26)]; exact GW.rf) _ _
    | some b =>
      have mb := kid_mem (Or.inl e26)
      obtain ⟨n26, t26⟩ := oN_some e26
      refine ⟨fun z => (by cases z), fun _ => ?_⟩
      rw [bk_X9_goCall_16, show Option.map fW (some q) = some (fW q) from rfl, show Option.map (G 1) (some b) = some (G 1 b) from rfl, nn_some, WJ.2.2.2.2.2.2.2.1.1]
      refine ⟨WJ.1.1, fun z => ?_, fun z => ?_⟩
      · exact CALL h r S a2 a3 a1 FRK.rf (by rw [if_pos (Or.inr z)]; exact GW.rf) _ _
      · have nz : ¬ (ai R 26 s = -1 ∨ ai R 13 (wN R * 12 + q) = 0) := by
          rintro (y | y)
          · exact n26 y
          · exact z y
        rw [if_neg nz] at H CALL
        rw [bk_X9_goCall_19]
        refine ⟨w1, ?_⟩
        refine wk_draw N S (by decide) (by decide) (fun h1 S1 => ?_)
        simp only [psh]
        rw [bk_X9_goCall_22]
        refine ⟨fun y => ?_, fun y => ?_⟩
        · rw [if_neg y] at CALL
          exact CALL h1 (drwF r) S1 a2 a3 a1 (FRK.rf.cg (fun _ _ _ => rfl)) GW.rf _ _
        · have y := Classical.not_not.mp y
          rw [if_pos y] at H CALL
          rw [t26] at H CALL
          have w1' := (N.w S1).1
          obtain ⟨k1, k2, k3, k4, k5, k6, k7, k8⟩ := kid_f N X.1 X.2.1 X.2.2.1 X.2.2.2.1 X.2.2.2.2 mb
          have rol1 : ai R 40 b = 1 := by
            obtain ⟨k0, z0, z00, B6, -⟩ := shp
            obtain ⟨c1, c2, c3, c4, -⟩ := B6.some sm e26
            have : k0 = 1 := by
              have := congrArg tn (z0.symm.trans e19)
              rw [tn_nI (by omega)] at this
              exact this
            rw [c4, this]; rfl
          rw [bk_X9_goCall_24]
          refine ⟨w1', ?_⟩
          refine wk_kid N IH X hm mb S1 a1 a2 a3 a4 a5 (fun z => by rw [rol1] at z; exact absurd z (by decide)) (fun _ => by rw [k3, tn_nI (by have := hs.2; omega), emo]; simp) (by omega) (fun h2 v r2 g2 S2 B2 => ?_)
          simp only [psh]
          rw [bk_X9_goCall_27]
          rcases B2 with B2 | B2
          · -- endless
            have ev := B2.1
            rw [ev]
            refine ⟨fun p => absurd p (by decide), fun _ => ?_⟩
            rw [bk_X9_goCall_30]
            refine ⟨fun p => absurd rfl p, fun _ => ?_⟩
            rw [bk_X9_goCall_33]
            simp only [psh]
            rw [bk_X9_goOver_9]
            rw [ev] at B2
            exact H h2 _ r2 g2 S2 (Or.inl B2)
          · have hg2 := N.hg S2
            have e40 : ai r2 40 b = 1 := by rw [hg_b hg2 (by omega) k7.1 k7.2 n1024]; exact rol1
            have e41 : tn (ai r2 41 b) = s := by rw [hg_b hg2 (by omega) k7.1 k7.2 n1024, k3, tn_nI (by have := hs.2; omega)]
            have em2 : mN r2 (wN R) (nmN R) (al r2 24 s) = some q := by rw [(hg_s hg2 (q := 24) (by omega) hs n120).2, hg_mN hg2 n12, emo]
            have g3 := lv_turn N S2 k1 (show f + 1 < 15 by omega) B2 (fun _ => by rw [k3, tn_nI (by have := hs.2; omega), emo]; simp) (fun z => by rw [rol1] at z; exact absurd z (by decide))
            rw [lvF_1 (show ai (sI r2 1469 (nI (f + 1))) 40 b = 1 from e40), show ai (sI r2 1469 (nI (f + 1))) 41 b = ai r2 41 b from rfl, e41] at g3
            obtain ⟨b1, b2, b3, b4, -, -, b5, b6, b7⟩ := B2
            have fk3 : FRK (f + 1) r r2 := FRK.tr (FRK.rf.cg (r1 := r) (r2 := drwF r) (fun _ _ _ => rfl)) b3
            -- the call goes on
            have GO : (if gi r2 1466 = 3 then (0 : Int32) else gi r2 1466) = 0 → ∀ x5, wp (d + 8 * m + 25) K_X9_goCall 35 [] [(0, vr (some W)), (1, vi (oI (some q))), (2, vr (some (G 1 b))), (3, vr (some (fW q))), (4, vi x5)] h2 (fun v h1 => wp (d + 8 * m + 26) K_X9_goOver 9 (psh v []) [(0, vr (some W)), (1, vr (some (G 0 s)))] h1 Q) := fun p x5 => by
              refine wp_cut 4 ?_
              have el : lvLa (sI r2 1469 (nI (f + 1))) (wN R) (nkN R) (nmN R) s = dtF (sI (sI r2 1469 (nI (f + 1))) 1466 0) (wN R) (nkN R) (wN R * 12 + q) := by
                unfold lvLa
                show (if (if gi r2 1466 = 3 then (0 : Int32) else gi r2 1466) = 0 then lvL1 (sI (sI r2 1469 (nI (f + 1))) 1466 (if gi r2 1466 = 3 then (0 : Int32) else gi r2 1466)) (wN R) (nkN R) (nmN R) s else _) = _
                rw [if_pos p, p]
                unfold lvL1
                show (match mN r2 (wN R) (nmN R) (al r2 24 s) with | none => _ | some m => _) = _
                rw [em2]
              rw [el] at g3
              exact CALL h2 (sI (sI r2 1469 (nI (f + 1))) 1466 0) (S2.cg ((KPW.rf.s _ (by decide)).s _ (by decide)) rfl rfl (fun _ _ => rfl)) b1 (by rw [gi_sI, if_neg (by decide), gi_sI, if_pos rfl]) (by rw [gi_sI, if_pos rfl]) (fk3.cg (fun _ _ _ => rfl)) (g2.tr g3) _ _
            rcases b5 with ⟨v1, v2⟩ | ⟨k, v1, v2, v3, v4⟩ | ⟨v1, v2, t, v3, -⟩ | ⟨v1, v2⟩
            · rw [v1]
              refine ⟨fun p => absurd p (by decide), fun _ => ?_⟩
              rw [bk_X9_goCall_30]
              exact ⟨fun _ => GO (by rw [v2]; rfl) _, fun p => absurd (by decide) p⟩
            · rw [v1]
              have nk16 := K.2.1
              have pos : (0 : Int32) ≤ nI k := by rw [show (0 : Int32) = nI 0 from rfl, nI_leI (by omega) (by omega)]; omega
              refine ⟨fun _ => ?_, fun p => absurd pos p⟩
              rw [bk_X9_goCall_33]
              simp only [psh]
              rw [bk_X9_goOver_9]
              have el : lvLa (sI r2 1469 (nI (f + 1))) (wN R) (nkN R) (nmN R) s = sI (sI r2 1469 (nI (f + 1))) 1466 1 := by
                unfold lvLa
                show (if (if gi r2 1466 = 3 then (0 : Int32) else gi r2 1466) = 0 then _ else sI (sI r2 1469 (nI (f + 1))) 1466 (if gi r2 1466 = 3 then (0 : Int32) else gi r2 1466)) = _
                rw [v3]; rfl
              rw [el] at g3
              refine H h2 _ _ (g2.tr g3) (S2.cg ((KPW.rf.s _ (by decide)).s _ (by decide)) rfl rfl (fun _ _ => rfl)) (Or.inr ⟨b1, ?_, fk3.cg (fun _ _ _ => rfl), Or.inr (Or.inl ⟨k, rfl, v2, ?_, v4⟩)⟩)
              · rw [gi_sI, if_neg (by decide), gi_sI, if_pos rfl]
              · rw [gi_sI, if_pos rfl]
            · exfalso
              rw [tg_up T.2.2.2.1 k7.1 k7.2 k2, if_pos (Or.inr (Or.inl rol1))] at v3
              cases v3
            · rw [v1]
              refine ⟨fun p => absurd p (by decide), fun _ => ?_⟩
              rw [bk_X9_goCall_30]
              exact ⟨fun _ => GO (by rw [v2]; rfl) _, fun p => absurd (by decide) p⟩
end
