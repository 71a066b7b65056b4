/-! Walking: what is closed behind a try, which catch takes what is thrown -/
section
variable {d : Nat} {h0 h : AH} {Q : Option V → AH → Prop} {U V' e0 W : Nat} {R rB r : RV} {C L : Nat → Int32} {G : Nat → Nat → Nat} {fW par : Nat → Nat} {wk : Nat → Int64} {pk : Nat → Int32} {fS : Nat → Nat} {ks : List Nat} {dp : Nat → Nat} {D : Nat → Prop}
theorem dtK.rf : dtK r r := ⟨rfl, rfl, fun _ _ _ => rfl⟩
theorem WKS.drw_thr {r1 : RV} (S : WKS h0 W U R G rB D h r1) (k : Int32) : WKS h0 W U R G rB D h (thrW r1 k) := S.cg (KPW.rf.thr k) rfl (by unfold thrW; rw [gi_sI, if_neg (by decide), gi_sI, if_neg (by decide)]) (fun _ _ => rfl)
theorem wk_close (N : WEN h0 U V' e0 W R C L G fW par wk pk fS ks rB dp) {s b : Nat} {v : Int32} (hs : SRG R s) (h9 : ai R 19 s = 9) (S : WKS h0 W U R G rB D h r) (M : MOD R b v r)
    (H : ∀ h' v', WKS h0 W U R G rB D h' (lvCl r (wN R) (nkN R) (nmN R) s) → MOD R b v' (lvCl r (wN R) (nkN R) (nmN R) s) → dtK r (lvCl r (wN R) (nkN R) (nmN R) s) → Q (some (vi v')) h') : wp (d + 7) K_X9_goClose 0 [] [(0, vr (some W)), (1, vr (some (G 6 s))), (2, vi v)] h Q := by
  obtain ⟨T, K, n12, n120, n1024, w2⟩ := N.t
  obtain ⟨hg, BVr, BKr⟩ := N.x S
  have nk16 := K.2.1
  have c29 := (T.2.1 s hs.1 hs.2).1.1
  have n4 := c29.2
  have e29 : ai r 29 s = ai R 29 s := (hg_s hg (q := 29) (by omega) hs n120).1
  have emn : ∀ k, k < tn (ai R 29 s) → mN r (wN R) (nmN R) (al r 30 (4 * s + k)) = mN R (wN R) (nmN R) (al R 30 (4 * s + k)) := fun k hk => by
    rw [(hg_s4 hg (q := 30) (by omega) hs n120 (by omega)).2, hg_mN hg n12]
  have nds : ∀ h1 r1, WKS h0 W U R G rB D h1 r1 → ND h1 (G 6 s) (tn (ai R 29 s)) (fun i => conv (al R 30 (4 * s + i))) (fun i => ai R 31 (4 * s + i)) (fun i => mN R (wN R) (nmN R) (al R 30 (4 * s + i))) := fun h1 r1 S1 => ((N.unf S1).2.2.2.2.2.2.2.1 s hs).2.1.2.2.2 h9
  have mlt : ∀ i m, (if i < tn (ai R 29 s) then (fun i => mN R (wN R) (nmN R) (al R 30 (4 * s + i))) i else none) = some m → m < nmN R := fun i m e => by
    split at e
    · have := (ffst_some e).2.1; omega
    · cases e
  have Lp : ∀ i, i ≤ 4 → ∀ h1 r1 x3 x4, ((i = 0 ∧ x4 = -1) ∨ ∃ k, i = k + 1 ∧ x4 = nI k) → WKS h0 W U R G rB D h1 r1 → MOD R b x3 r1 → dtK r r1 → fdn (lvC1 r (wN R) (nkN R) (nmN R) s) (min i (tn (ai R 29 s))) r1 = lvCl r (wN R) (nkN R) (nmN R) s → wp (d + 7) K_X9_goClose 4 [] [(0, vr (some W)), (1, vr (some (G 6 s))), (2, vi v), (3, vi x3), (4, vi x4)] h1 Q := by
    intro i
    induction i with
    | zero =>
      intro _ h1 r1 x3 x4 hx S1 M1 k1 e1
      have hx : x4 = -1 := by rcases hx with ⟨-, e⟩ | ⟨k, e, -⟩; exact e; omega
      rw [Nat.zero_min] at e1
      have e1 : r1 = lvCl r (wN R) (nkN R) (nmN R) s := e1
      rw [bk_X9_goClose_4]
      refine ⟨fun z => (by cases z), fun _ => ?_⟩
      rw [bk_X9_goClose_6, hx]
      refine ⟨fun _ => ?_, fun z => absurd (by decide) z⟩
      rw [bk_X9_goClose_23]
      rw [e1] at S1 M1 k1
      exact H h1 x3 S1 M1 k1
    | succ k ih =>
      intro hi h1 r1 x3 x4 hx S1 M1 k1 e1
      have hx : x4 = nI k := by
        rcases hx with ⟨e, -⟩ | ⟨j, e, e2⟩
        · omega
        · rw [e2, show j = k by omega]
      obtain ⟨w1, w2', w3⟩ := N.w S1
      have nd := nds h1 r1 S1
      rw [bk_X9_goClose_4]
      refine ⟨fun z => (by cases z), fun _ => ?_⟩
      rw [bk_X9_goClose_6, hx]
      refine ⟨fun z => absurd z (nI_pos (by omega)), fun _ => ?_⟩
      rw [bk_X9_goClose_8, nn_some]
      refine ⟨nd.1, ?_⟩
      rw [n_meantAt (d := d + 5) nd (by omega)]
      simp only [psh]
      rw [bk_X9_goClose_12, nn_some]
      refine ⟨w1, ?_⟩
      have next : ∀ h2 r2 x3' x5, WKS h0 W U R G rB D h2 r2 → MOD R b x3' r2 → dtK r r2 → fdn (lvC1 r (wN R) (nkN R) (nmN R) s) (min k (tn (ai R 29 s))) r2 = lvCl r (wN R) (nkN R) (nmN R) s → wp (d + 7) K_X9_goClose 21 [] [(0, vr (some W)), (1, vr (some (G 6 s))), (2, vi v), (3, vi x3'), (4, vi (nI k)), (5, vi x5)] h2 Q := fun h2 r2 x3' x5 S2 M2 k2 e2 => by
        rw [bk_X9_goClose_21]
        refine wp_cut 5 ?_
        refine ih (by omega) h2 r2 x3' _ ?_ S2 M2 k2 e2
        rcases (show k = 0 ∨ ∃ j, k = j + 1 by cases k with | zero => exact Or.inl rfl | succ j => exact Or.inr ⟨j, rfl⟩) with z | ⟨j, z⟩
        · exact Or.inl ⟨z, by rw [z]; rfl⟩
        · refine Or.inr ⟨j, z, ?_⟩
          rw [z, ← nI_add, ← lt1]
          have : ∀ a : Int32, a + 1 + -1 = a := fun a => by rw [Int32.add_assoc]; exact Int32.add_zero a
          exact this _
      have mo1 := M1.one nk16
      refine wk_close1 (d := d + 1) N S1 (mlt k) (fun z => ?_) (fun m z h2 kv S2 kvl ed => ?_)
      · simp only [psh]
        have e2 : fdn (lvC1 r (wN R) (nkN R) (nmN R) s) (min k (tn (ai R 29 s))) r1 = lvCl r (wN R) (nkN R) (nmN R) s := by
          by_cases y : k < tn (ai R 29 s)
          · rw [if_pos y] at z
            have z : mN R (wN R) (nmN R) (al R 30 (4 * s + k)) = none := z
            rw [show min (k + 1) (tn (ai R 29 s)) = k + 1 by omega] at e1
            have e3 : lvC1 r (wN R) (nkN R) (nmN R) s k r1 = r1 := by unfold lvC1; rw [emn k y, z]
            have e1 : fdn (lvC1 r (wN R) (nkN R) (nmN R) s) k (lvC1 r (wN R) (nkN R) (nmN R) s k r1) = lvCl r (wN R) (nkN R) (nmN R) s := e1
            rw [e3] at e1
            rw [show min k (tn (ai R 29 s)) = k by omega]; exact e1
          · rw [show min k (tn (ai R 29 s)) = min (k + 1) (tn (ai R 29 s)) by omega]; exact e1
        rw [bk_X9_goClose_14]
        refine ⟨fun _ => next h1 r1 x3 _ S1 M1 k1 e2, fun _ => ?_⟩
        rw [bk_X9_goClose_17]
        exact ⟨fun _ => next h1 r1 x3 _ S1 M1 k1 e2, fun y => absurd (by decide) y⟩
      · simp only [psh]
        have y : k < tn (ai R 29 s) := by
          rcases Nat.lt_or_ge k (tn (ai R 29 s)) with y | y
          · exact y
          · rw [if_neg (by omega)] at z; cases z
        rw [if_pos y] at z
        have z : mN R (wN R) (nmN R) (al R 30 (4 * s + k)) = some m := z
        rw [show min (k + 1) (tn (ai R 29 s)) = k + 1 by omega] at e1
        have e3 : lvC1 r (wN R) (nkN R) (nmN R) s k r1 = dtF r1 (wN R) (nkN R) (wN R * 12 + m) := by unfold lvC1; rw [emn k y, z]
        have e1 : fdn (lvC1 r (wN R) (nkN R) (nmN R) s) k (lvC1 r (wN R) (nkN R) (nmN R) s k r1) = lvCl r (wN R) (nkN R) (nmN R) s := e1
        rw [e3] at e1
        have kd := dtK_tr k1 (dtK_dt r1 (wN R) (nkN R) (wN R * 12 + m))
        rw [show min k (tn (ai R 29 s)) = k by omega] at next
        rw [bk_X9_goClose_14]
        by_cases m1 : gi r1 1466 = 1
        · rw [if_pos m1] at ed
          rw [ed] at e1 kd
          exact ⟨fun _ => next h2 _ x3 _ S2 (M1.cg rfl rfl) kd e1, fun q => absurd (mo1.2.2.2.2 m1) q⟩
        · rw [if_neg m1] at ed
          have x3n := mo1.2.1 m1
          have x3n' : ¬ (0 ≤ x3) := fun q => by
            have q : ¬ x3 < 0 := fun p => by
              rw [Int32.lt_iff_toInt_lt] at p
              rw [Int32.le_iff_toInt_le] at q
              omega
            exact q x3n
          refine ⟨fun q => absurd q x3n', fun _ => ?_⟩
          rw [bk_X9_goClose_17]
          cases kv with
          | none =>
            rw [show dtF r1 (wN R) (nkN R) (wN R * 12 + m) = drwF r1 from ed] at e1 kd
            exact ⟨fun _ => next h2 _ x3 _ S2 (M1.cg rfl rfl) kd e1, fun q => absurd (by decide) q⟩
          | some q =>
            have ql := kvl q rfl
            rw [show dtF r1 (wN R) (nkN R) (wN R * 12 + m) = thrW (drwF r1) (nI q) from ed] at e1 kd
            refine ⟨fun p => absurd p (nI_pos (by omega)), fun _ => ?_⟩
            rw [bk_X9_goClose_19]
            refine next h2 _ _ _ (S2.drw_thr _) (Or.inr (Or.inl ⟨q, rfl, ql, ?_, ?_⟩)) kd e1
            · unfold thrW; rw [gi_sI, if_neg (by decide), gi_sI, if_pos rfl]
            · unfold thrW; rw [gi_sI, if_pos rfl]
  rw [bk_X9_goClose_0]
  refine Lp 4 (Nat.le_refl _) h r v 3 (Or.inr ⟨3, rfl, rfl⟩) S M dtK.rf ?_
  rw [show min 4 (tn (ai R 29 s)) = tn (ai R 29 s) by omega, ← e29]
  rfl
/-- the catch that takes what is thrown -/
theorem wk_catch (N : WEN h0 U V' e0 W R C L G fW par wk pk fS ks rB dp) {s k : Nat} (hs : SRG R s) (S : WKS h0 W U R G rB D h r) (hk : k < nkN R) (e67 : gi r 1467 = nI k)
    (H0 : ctS r (wN R) (nkN R) s = none → Q (some (vi (nI k))) h)
    (H1 : ∀ i, ctS r (wN R) (nkN R) s = some i → i < tn (ai R 32 s) → wp (d + 5) K_X9_goCatch 21 [] [(0, vr (some W)), (1, vr (some (G 0 s))), (2, vi (nI k)), (3, vr (some (G 2 (4 * s + i))))] h Q) : wp (d + 5) K_X9_goCatch 0 [] [(0, vr (some W)), (1, vr (some (G 0 s))), (2, vi (nI k))] h Q := by
  obtain ⟨T, K, n12, n120, n1024, w2⟩ := N.t
  obtain ⟨hg, BVr, BKr⟩ := N.x S
  obtain ⟨w1, w2', w3⟩ := N.w S
  have UF := N.unf S
  have nk16 := K.2.1
  have WS := (T.2.1 s hs.1 hs.2).1
  have c32 := WS.2.1
  have n4 := c32.2
  have e32 : ai r 32 s = ai R 32 s := (hg_s hg (q := 32) (by omega) hs n120).1
  obtain ⟨SI, -⟩ := UF.2.2.2.2.2.2.2.1 s hs
  obtain ⟨⟨tS, lS⟩, -, -, -, -, -, -, -, -, -, p12, -, -, CF⟩ := SI
  obtain ⟨⟨u1, u2, -⟩, KDh, -⟩ := id UF
  have und_is : ∀ i, i < tn (ai R 32 s) → und r (wN R) (nkN R) (tn (gi r 1467)) (cgS r (wN R) (nkN R) (4 * s + i)) = undP par (nkN R) k (nsS (cgK R (wN R) (nkN R) (4 * s + i)) (tn (ai R 36 (4 * s + i)))) := fun i hi => by
    rw [e67, tn_nI (by omega), hg_und hg K hk, K.ud (C := C) (L := L) hk, hg_cgS hg nk16 hs n120 (by omega) (WS.2.2.2.2.2.2.2.2 i hi).1.2]
    rfl
  have Lp : ∀ m i, i + m = tn (ai R 32 s) → ffst (fun q => und r (wN R) (nkN R) (tn (gi r 1467)) (cgS r (wN R) (nkN R) (4 * s + q))) m i = ctS r (wN R) (nkN R) s → wp (d + 5) K_X9_goCatch 10 [] [(0, vr (some W)), (1, vr (some (G 0 s))), (2, vi (nI k)), (3, vr (if i < tn (ai R 32 s) then some (G 2 (4 * s + i)) else none))] h Q := by
    intro m
    induction m with
    | zero =>
      intro i e1 e2
      rw [if_neg (by omega), bk_X9_goCatch_10]
      refine ⟨fun _ => ?_, fun z => absurd rfl z⟩
      rw [bk_X9_goCatch_33]
      exact H0 e2.symm
    | succ m ih =>
      intro i e1 e2
      have hi : i < tn (ai R 32 s) := by omega
      obtain ⟨⟨⟨q1, q2, q3, q4, -⟩, q5, q6, -⟩, q7⟩ := CF i hi
      rw [if_pos hi, bk_X9_goCatch_10]
      refine ⟨fun z => (by cases z), fun _ => ?_⟩
      rw [bk_X9_goCatch_12, w3, nn_some, nn_some, q3, nn_some]
      refine ⟨w1, u1, q2, q4.1, ?_⟩
      rw [n_asSet (d := d + 3) q4]
      simp only [psh]
      rw [u2, bk_X9_goCatch_19, nn_some]
      refine ⟨KDh.1, ?_⟩
      rw [k_isUnderOneOf (d := d + 3) KDh hk]
      simp only [psh]
      rw [bk_X9_goCatch_20]
      have ef : ffst (fun q => und r (wN R) (nkN R) (tn (gi r 1467)) (cgS r (wN R) (nkN R) (4 * s + q))) (m + 1) i = if und r (wN R) (nkN R) (tn (gi r 1467)) (cgS r (wN R) (nkN R) (4 * s + i)) = true then some i else ffst (fun q => und r (wN R) (nkN R) (tn (gi r 1467)) (cgS r (wN R) (nkN R) (4 * s + q))) m (i + 1) := rfl
      rw [ef, und_is i hi] at e2
      cases z : undP par (nkN R) k (nsS (cgK R (wN R) (nkN R) (4 * s + i)) (tn (ai R 36 (4 * s + i)))) with
      | true =>
        rw [z, if_pos rfl] at e2
        refine ⟨fun y => absurd y (by decide), fun _ => ?_⟩
        exact H1 i e2.symm hi
      | false =>
        rw [z, if_neg (by decide)] at e2
        refine ⟨fun _ => ?_, fun y => absurd rfl y⟩
        rw [bk_X9_goCatch_29, nn_some, q6]
        refine ⟨q2, ?_⟩
        rw [show (4 * s + i) % 4 = i by omega, show (4 * s + i) / 4 = s by omega]
        exact ih (i + 1) (by omega) e2
  rw [bk_X9_goCatch_0]
  refine ⟨fun z => absurd z (nI_pos (by omega)), fun _ => ?_⟩
  rw [bk_X9_goCatch_2, w3]
  refine ⟨w1, fun _ => ?_, fun z => by cases z⟩
  rw [bk_X9_goCatch_7, nn_some, p12]
  refine ⟨tS, ?_⟩
  have := Lp (tn (ai R 32 s)) 0 (by omega) (by unfold ctS; rw [e32])
  exact this
end
