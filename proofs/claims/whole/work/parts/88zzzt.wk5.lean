/-! Walking: throw, set, if, break, return, a block -/
theorem knV_n {mt : Nat → Option Nat} : ∀ m k c, knV mt 1 m k 0 = none → knC mt m k c = c := by
  intro m
  induction m with
  | zero => intro k c _; rfl
  | succ m ih =>
    intro k c e
    show knC mt m (k + 1) (if mt k = none then c else c + 1) = c
    rw [knV] at e
    by_cases z : mt k = none
    · rw [if_pos z] at e ⊢
      exact ih _ _ e
    · rw [if_neg z, if_pos rfl] at e
      exact absurd e z
section
variable {d : Nat} {h0 h : AH} {Q : Option V → AH → Prop} {U V' e0 W : Nat} {R rB r : RV} {C L : Nat → Int32} {G : Nat → Nat → Nat} {fW par : Nat → Nat} {wk : Nat → Int64} {pk : Nat → Int32} {fS : Nat → Nat} {ks : List Nat} {dp : Nat → Nat} {D : Nat → Prop} {f j s m : Nat}
theorem WEN.cat (N : WEN h0 U V' e0 W R C L G fW par wk pk fS ks rB dp) (S : WKS h0 W U R G rB D h r) {c : Nat} (hc : CRG R c) : CFF h U R G c ∧ G 2 c + 4 < tp h ∧ c / 4 * 4 + c % 4 = c ∧ SRG R (c / 4) ∧ c % 4 < 4 ∧ tn (ai R 36 c) ≤ 4 := by
  obtain ⟨s, i, e, hs, hi, h4⟩ := hc
  have := (N.si S hs).1.2.2.2.2.2.2.2.2.2.2.2.2.2 i hi
  have PL := (N.t.1.2.1 s hs.1 hs.2).1.2.2.2.2.2.2.2.2 i hi
  rw [e, show (4 * s + i) / 4 = s by omega, show (4 * s + i) % 4 = i by omega]
  exact ⟨this.1, this.2, by omega, hs, h4, PL.1.2⟩
theorem pr_D (N : WEN h0 U V' e0 W R C L G fW par wk pk fS ks rB dp) (X : SCX R G j s) (hD : DAN R D j) {c : Nat} (e : prS R s = some c) : D c := by
  obtain ⟨T, -⟩ := N.t
  obtain ⟨x1, x2, x3, -⟩ := X
  have rg := x1.rg T
  have sm := T.2.2.2.2.2
  unfold prS at e
  rw [x3, oN_nI (by omega)] at e
  obtain ⟨m, q, q1, q2, q3⟩ := prF_in T _ _ _ _ _ x1 e
  rw [← q3]; exact hD m q q1 q2
/-- other catches keep their values -/
theorem WKS.put (N : WEN h0 U V' e0 W R C L G fW par wk pk fS ks rB dp) (S : WKS h0 W U R G rB D h r) {c k : Nat} (hc : CRG R c) (hk : k < nkN R) {r' : RV} (kp : KPW r r') (e1 : gl r' 21464 = gl r 21464) (e2 : gi r' 1465 = gi r 1465) (e3 : ∀ x, ¬ x = c → ai r' 56 x = ai r 56 x) (e4 : ai r' 56 c = nI k) : WKS h0 W U R G rB (fun x => D x ∨ x = c) (setFI h 309 (G 2 c) (nI k)) r' := by
  have cf := (N.cat S hc).1
  have UF := N.unf S
  obtain ⟨⟨x, t1, t2, t3⟩, kB, ⟨s3, s4, s5⟩, s6⟩ := S
  refine ⟨⟨x.tr (FX.FI (Or.inr ⟨rfl, cf.1.1⟩)), t1, t2, t3⟩, kB.tr kp, ⟨by rw [e1]; exact s3, ?_, by rw [e2]; exact s5⟩, fun y hy => ?_⟩
  · rw [fI_setFI, if_neg (by omega), e2]; exact s4
  · by_cases z : y = c
    · rw [z]
      exact ⟨hc, by rw [fI_setFI, if_pos ⟨rfl, rfl⟩, e4], k, hk, e4⟩
    · have hy : D y := by rcases hy with hy | hy; exact hy; exact absurd hy z
      obtain ⟨p1, p2, p3⟩ := s6 y hy
      refine ⟨p1, ?_, by rw [e3 y z]; exact p3⟩
      rw [e3 y z, fI_setFI, if_neg]
      · exact p2
      · rintro ⟨-, q⟩
        obtain ⟨a1, i1, ea, ha, hi, -⟩ := p1
        obtain ⟨a2, i2, eb, hb, hj, -⟩ := hc
        rw [ea, eb] at q
        have := UF.2.2.2.2.2.2.2.2.2.2.2.2.2 a1 a2 i1 i2 ha hb hi hj q
        omega
theorem WKS.less {D' : Nat → Prop} (S : WKS h0 W U R G rB D h r) (l : ∀ x, D' x → D x) : WKS h0 W U R G rB D' h r := ⟨S.1, S.2.1, S.2.2.1, fun c hc => S.2.2.2 c (l c hc)⟩
theorem go_throw (N : WEN h0 U V' e0 W R C L G fW par wk pk fS ks rB dp) (X : SCX R G j s) (A : AST h0 W U R G rB dp D f j h r) (e19 : ai R 19 s = 2) (H : FIN h0 W U R G rB D f j s r Q) : wp d K_X9_goOver 10 [] [(0, vr (some W)), (1, vr (some (G 0 s)))] h Q := by
  obtain ⟨T, K, n12, n120, n1024, w2⟩ := N.t
  obtain ⟨S, a1, a2, a3, a4, a5⟩ := A
  have hs := X.2.1
  obtain ⟨SI, JS⟩ := N.si S hs
  have hg := N.hg S
  have nk16 := K.2.1
  have r19 : ai r 19 s = ai R 19 s := (hg_s hg (q := 19) (by omega) hs n120).1
  have eb : begF r (wN R) (nkN R) (nmN R) s = begT r (wN R) (nkN R) s := begF_2 (by rw [r19]; exact e19)
  unfold FIN at H
  rw [eb] at H
  have ep := (hg_pr hg T n120 n1024 hs).1
  have p8 := SI.2.2.2.2.1
  rw [if_pos (Or.inl e19)] at p8
  -- nothing is thrown
  have NO : begK r (wN R) (nkN R) s = -1 → Q (some (vi (-1))) h := fun z => by
    refine H h (-1) (sI r 11457 (b2i (psS r s))) ?_ (S.cg (KPW.rf.s _ (by decide)) rfl rfl (fun _ _ => rfl)) (Or.inr ⟨a2, a3, FRK.rf, Or.inl ⟨rfl, a1⟩⟩)
    unfold begT
    rw [if_pos z]
    exact GW.rf
  have YES : ∀ k, k < nkN R → begK r (wN R) (nkN R) s = nI k → Q (some (vi (nI k))) h := fun k hk z => by
    refine H h (nI k) (thrW (sI r 11457 (b2i (psS r s))) (nI k)) ?_ (S.cg ((KPW.rf.s _ (by decide)).thr _) rfl ?_ (fun _ _ => rfl)) (Or.inr ⟨?_, ?_, FRK.rf, Or.inr (Or.inl ⟨k, rfl, hk, ?_, ?_⟩)⟩)
    · unfold begT
      rw [if_neg (by rw [z]; exact nI_ne_m1 (by omega)), z]
      exact GW.rf
    · unfold thrW; rw [gi_sI, if_neg (by decide), gi_sI, if_neg (by decide), gi_sI, if_neg (by decide)]
    · unfold thrW; rw [gi_sI, if_neg (by decide), gi_sI, if_neg (by decide), gi_sI, if_neg (by decide)]; exact a2
    · unfold thrW; rw [gi_sI, if_neg (by decide), gi_sI, if_neg (by decide), gi_sI, if_neg (by decide)]; exact a3
    · unfold thrW; rw [gi_sI, if_neg (by decide), gi_sI, if_pos rfl]
    · unfold thrW; rw [gi_sI, if_pos rfl]
  rw [bk_X9_goOver_10, nn_some, p8]
  refine ⟨SI.1.1, fun z => ?_, fun z => ?_⟩
  · cases e : prS R s with
    | none => rw [e] at z; exact absurd rfl z
    | some c =>
      obtain ⟨p1, p2, k, hk, p3⟩ := S.2.2.2 c (pr_D N X a5 e)
      have cf := (N.cat S p1).1
      rw [bk_X9_goOver_16, nn_some, p8, e, show Option.map (G 2) (some c) = some (G 2 c) from rfl, nn_some, bk_X9_goOver_19, p2, p3]
      refine ⟨SI.1.1, cf.1.2.1, YES k hk ?_⟩
      unfold begK
      rw [ep, e]
      exact p3
  · have e : prS R s = none := by
      cases e : prS R s with
      | none => rfl
      | some c => rw [e] at z; cases z
    have p7 := SI.2.2.2.1 (by rw [e19]; decide)
    rw [if_pos ⟨e19, e⟩] at p7
    have ek : begK r (wN R) (nkN R) s = oI (kN R (wN R) (nkN R) (al R 24 s) (ai R 25 s)) := by
      unfold begK
      rw [ep, e]
      show oI (kN r (wN R) (nkN R) (al r 24 s) (ai r 25 s)) = _
      rw [(hg_s hg (q := 24) (by omega) hs n120).2, (hg_s hg (q := 25) (by omega) hs n120).1, hg_kN hg nk16]
    rw [bk_X9_goOver_13, nn_some, bk_X9_goOver_19, p7]
    refine ⟨SI.1.1, ?_⟩
    cases eo : kN R (wN R) (nkN R) (al R 24 s) (ai R 25 s) with
    | none => rw [eo] at ek; exact NO ek
    | some k => rw [eo] at ek; exact YES k (kN_lt eo) ek
theorem go_set (N : WEN h0 U V' e0 W R C L G fW par wk pk fS ks rB dp) (X : SCX R G j s) (A : AST h0 W U R G rB dp D f j h r) (e19 : ai R 19 s = 3) (H : FIN h0 W U R G rB D f j s r Q) : wp (d + 4) K_X9_goOver 20 [] [(0, vr (some W)), (1, vr (some (G 0 s)))] h Q := by
  obtain ⟨T, K, n12, n120, n1024, w2⟩ := N.t
  obtain ⟨S, a1, a2, a3, a4, a5⟩ := A
  have hs := X.2.1
  obtain ⟨SI, JS⟩ := N.si S hs
  have hg := N.hg S
  obtain ⟨w1, w2', w3⟩ := N.w S
  have nk16 := K.2.1
  have r19 : ai r 19 s = ai R 19 s := (hg_s hg (q := 19) (by omega) hs n120).1
  have eb : begF r (wN R) (nkN R) (nmN R) s = begS r (wN R) (nkN R) s := begF_3 (by rw [r19]; exact e19)
  unfold FIN at H
  rw [eb] at H
  have ep := (hg_pr hg T n120 n1024 hs).1
  have p8 := SI.2.2.2.2.1
  rw [if_pos (Or.inr e19)] at p8
  rw [bk_X9_goOver_20, nn_some, p8]
  refine ⟨SI.1.1, w1, ?_⟩
  rw [bk_X9_setParameter_0]
  cases e : prS R s with
  | none =>
    refine ⟨fun _ => ?_, fun z => absurd rfl z⟩
    rw [bk_X9_setParameter_12]
    simp only [psh]
    rw [bk_X9_goOver_24]
    refine H h (-1) (sI r 11457 (b2i (psS r s))) ?_ (S.cg (KPW.rf.s _ (by decide)) rfl rfl (fun _ _ => rfl)) (Or.inr ⟨a2, a3, FRK.rf, Or.inl ⟨rfl, a1⟩⟩)
    unfold begS
    rw [ep, e]
    exact GW.rf
  | some c =>
    have Dc := pr_D N X a5 e
    obtain ⟨p1, p2, k, hk, p3⟩ := S.2.2.2 c Dc
    obtain ⟨cf, l4, ec, hc, c4, n36⟩ := N.cat S p1
    have nd := cf.1.2.2.2.1
    have ebs : begS r (wN R) (nkN R) s = stF (sI r 11457 (b2i (psS r s))) (wN R) (nkN R) c := by
      unfold begS
      rw [ep, e]
    rw [ebs] at H
    have hgs : HAH (wN R) (sI r 11457 (b2i (psS r s))) (pcl R C L) := hg
    have r36 : tn (ai (sI r 11457 (b2i (psS r s))) 36 c) = tn (ai R 36 c) := by
      have := (hg_s4 hgs (q := 36) (by omega) hc n120 c4).1
      rw [show 4 * (c / 4) + c % 4 = c by omega] at this
      rw [this]
    obtain ⟨t1, t2, t3, t4, t5⟩ := st_is (r := sI r 11457 (b2i (psS r s))) (w := wN R) (nk := nkN R) (c := c) (n := tn (ai R 36 c)) (mt := cgK R (wN R) (nkN R) c) r36 (fun i hi => by
      have := hg_cgK hgs nk16 hc n120 c4 (show i < 4 by omega)
      rw [show 4 * (c / 4) + c % 4 = c by omega] at this
      exact this)
    have mtl : ∀ i k, cgK R (wN R) (nkN R) c i = some k → k < nkN R := fun i k e => kN_lt e
    generalize stF (sI r 11457 (b2i (psS r s))) (wN R) (nkN R) c = r1 at *
    have kp : KPW r r1 := ⟨fun q hq => by funext i; rw [t1 q i (by omega)]; rfl, by rw [t2]; rfl, fun g hg => by rw [t3, gi_sI, if_neg (by omega)]⟩
    have eL : gl r1 21464 = gl r 21464 := by rw [t4]; rfl
    have e65 : gi r1 1465 = gi r 1465 := by rw [t3, gi_sI, if_neg (by decide)]
    have se : SEN R f j r r1 (-1) := by
      refine ⟨?_, ?_, fun q i q1 q2 q3 => ?_, Or.inl ⟨rfl, ?_⟩⟩
      · rw [t3, gi_sI, if_neg (by decide)]; exact a2
      · rw [t3, gi_sI, if_neg (by decide)]; exact a3
      · rw [t1 q i (by omega)]; rfl
      · rw [t3, gi_sI, if_neg (by decide)]; exact a1
    refine ⟨fun z => (by cases z), fun _ => ?_⟩
    rw [bk_X9_setParameter_2, show Option.map (G 2) (some c) = some (G 2 c) from rfl, nn_some, cf.1.2.2.1, nn_some]
    refine ⟨cf.1.2.1, nd.1, ?_⟩
    rw [n_countKnown nd]
    simp only [psh]
    rw [bk_X9_setParameter_5]
    have cle : knC (cgK R (wN R) (nkN R) c) (tn (ai R 36 c)) 0 0 < 2 ^ 31 := by
      have ge : ∀ m k c', knC (cgK R (wN R) (nkN R) c) m k c' ≤ c' + m := by
        intro m
        induction m with
        | zero => intro k c'; exact Nat.le_refl _
        | succ m ih =>
          intro k c'
          have := ih (k + 1) (if cgK R (wN R) (nkN R) c k = none then c' else c' + 1)
          show knC (cgK R (wN R) (nkN R) c) m (k + 1) (if cgK R (wN R) (nkN R) c k = none then c' else c' + 1) ≤ _
          refine Nat.le_trans this ?_
          split <;> omega
      have := ge (tn (ai R 36 c)) 0 0
      omega
    refine ⟨fun z => ?_, fun z => ?_⟩
    · rw [show (0 : Int32) = nI 0 from rfl, nI_leI cle (by omega)] at z
      rw [bk_X9_setParameter_12]
      simp only [psh]
      rw [bk_X9_goOver_24]
      have kn := knC_0 _ _ _ (show knC (cgK R (wN R) (nkN R) c) (tn (ai R 36 c)) 0 0 = 0 by omega)
      rw [kn] at t5
      have t5 : ai r1 56 c = ai r 56 c := t5
      exact H h (-1) r1 GW.rf (S.cg kp eL e65 (fun x hx => by
        by_cases y : x = c
        · rw [y]; exact t5
        · rw [t1 56 x (by omega)]; rfl)) (Or.inr se)
    · rw [show (0 : Int32) = nI 0 from rfl, nI_leI cle (by omega)] at z
      rw [bk_X9_setParameter_6, nn_some, cf.1.2.2.1, nn_some]
      refine ⟨cf.1.2.1, nd.1, ?_⟩
      rw [show (1 : Int32) = nI 1 from rfl, n_knownAt nd (by omega)]
      simp only [psh]
      rw [bk_X9_setParameter_11, nn_some]
      refine ⟨cf.1.2.1, ?_⟩
      rw [bk_X9_setParameter_12]
      simp only [psh]
      rw [bk_X9_goOver_24]
      cases ev : knV (cgK R (wN R) (nkN R) c) 1 (tn (ai R 36 c)) 0 0 with
      | none => exact absurd (knV_n _ _ 0 ev) (by omega)
      | some q =>
        rw [ev] at t5
        have t5 : ai r1 56 c = nI q := t5
        obtain ⟨i, -, -, qi⟩ := knV_some _ _ _ _ ev
        have S1 := S.put N p1 (mtl i q qi) kp eL e65 (fun x hx => by rw [t1 56 x (by omega)]; rfl) t5
        exact H _ (-1) r1 GW.rf (S1.less (fun x hx => Or.inl hx)) (Or.inr se)
theorem go_break (N : WEN h0 U V' e0 W R C L G fW par wk pk fS ks rB dp) (X : SCX R G j s) (A : AST h0 W U R G rB dp D f j h r) (e19 : ai R 19 s = 7) (H : FIN h0 W U R G rB D f j s r Q) : wp d K_X9_goOver 42 [] [(0, vr (some W)), (1, vr (some (G 0 s)))] h Q := by
  obtain ⟨T, K, n12, n120, n1024, w2⟩ := N.t
  obtain ⟨S, a1, a2, a3, a4, a5⟩ := A
  have hs := X.2.1
  obtain ⟨SI, JS⟩ := N.si S hs
  have hg := N.hg S
  have r19 : ai r 19 s = ai R 19 s := (hg_s hg (q := 19) (by omega) hs n120).1
  have eb : begF r (wN R) (nkN R) (nmN R) s = begB r s := begF_7 (by rw [r19]; exact e19)
  have et := (hg_pr hg T n120 n1024 hs).2.2
  have rgj := X.1.rg T
  have sm := T.2.2.2.2.2
  have ej : tgS R s = tgF R 2048 j := by unfold tgS; rw [X.2.2.1, tn_nI (by omega)]
  unfold FIN at H
  rw [eb] at H
  unfold begB at H
  rw [et, ej] at H
  have kp : ∀ x y, WKS h0 W U R G rB D h (sI (sI r 1466 x) 1467 y) := fun x y => S.cg ((KPW.rf.s _ (by decide)).s _ (by decide)) rfl rfl (fun _ _ => rfl)
  rw [bk_X9_goOver_42, nn_some, SI.2.2.2.2.2.2.2.2.2.2.2.1, e19, ej]
  refine ⟨SI.1.1, ?_⟩
  cases e : tgF R 2048 j with
  | none =>
    rw [e, if_pos rfl] at H
    refine ⟨fun _ => ?_, fun z => absurd rfl z⟩
    rw [bk_X9_goOver_47, bk_X9_goOver_48]
    refine H h (-1) _ GW.rf (kp _ _) (Or.inr ⟨a2, a3, FRK.rf, Or.inl ⟨rfl, ?_⟩⟩)
    rw [gi_sI, if_neg (by decide), gi_sI, if_pos rfl]
  | some t =>
    rw [e, if_neg (by simp)] at H
    refine ⟨fun z => absurd z (by simp [b2i]), fun _ => ?_⟩
    rw [bk_X9_goOver_45, bk_X9_goOver_48]
    refine H h (-4) _ GW.rf (kp _ _) (Or.inr ⟨a2, a3, FRK.rf, Or.inr (Or.inr (Or.inl ⟨rfl, ?_, t, e, ?_⟩))⟩)
    · rw [gi_sI, if_neg (by decide), gi_sI, if_pos rfl]
    · rw [gi_sI, if_pos rfl]; rfl
theorem go_ret (N : WEN h0 U V' e0 W R C L G fW par wk pk fS ks rB dp) (X : SCX R G j s) (A : AST h0 W U R G rB dp D f j h r) (e19 : ai R 19 s = 8) (H : FIN h0 W U R G rB D f j s r Q) : wp d K_X9_goOver 49 [] [(0, vr (some W)), (1, vr (some (G 0 s)))] h Q := by
  obtain ⟨T, K, n12, n120, n1024, w2⟩ := N.t
  obtain ⟨S, a1, a2, a3, a4, a5⟩ := A
  have hs := X.2.1
  have hg := N.hg S
  have r19 : ai r 19 s = ai R 19 s := (hg_s hg (q := 19) (by omega) hs n120).1
  have eb : begF r (wN R) (nkN R) (nmN R) s = sI r 1466 3 := begF_8 (by rw [r19]; exact e19)
  unfold FIN at H
  rw [eb] at H
  rw [bk_X9_goOver_49]
  exact H h (-5) _ GW.rf (S.cg (KPW.rf.s _ (by decide)) rfl rfl (fun _ _ => rfl)) (Or.inr ⟨a2, a3, FRK.rf, Or.inr (Or.inr (Or.inr ⟨rfl, by rw [gi_sI, if_pos rfl]⟩))⟩)
/-- the first block of a statement -/
theorem kid_26 (N : WEN h0 U V' e0 W R C L G fW par wk pk fS ks rB dp) (hs : SRG R s) {k : Nat} (e19 : ai R 19 s = nI k) (hk : k = 4 ∨ k = 5 ∨ k = 6 ∨ k = 9 ∨ k = 11) : ∃ b, ai R 26 s = nI b ∧ oN (ai R 26 s) = some b ∧ b ∈ kids R s ∧ ai R 40 b = rol k ∧ tn (ai R 26 s) = b := by
  obtain ⟨⟨k0, z0, z00, B6, -, -, -, -, -, z1, -⟩, sm, s240⟩ := N.shp hs
  have ek : k0 = k := by
    have := congrArg tn (z0.symm.trans e19)
    rw [tn_nI (by omega), tn_nI (by omega)] at this
    exact this
  subst ek
  rcases B6 with B6 | ⟨b, B6, b1, b2, b3, -⟩
  · exact absurd B6 (z1 (by omega))
  · have eo : oN (ai R 26 s) = some b := by rw [B6, oN_nI (by omega)]
    exact ⟨b, B6, eo, kid_mem (Or.inl eo), b3, by rw [B6, tn_nI (by omega)]⟩
theorem go_blk (N : WEN h0 U V' e0 W R C L G fW par wk pk fS ks rB dp) (IH : GOB h0 W U R G rB dp m) (X : SCX R G j s) (hm : G 5 j - G 4 j ≤ m + 1) (A : AST h0 W U R G rB dp D f j h r) (e19 : ai R 19 s = 11) (H : FIN h0 W U R G rB D f j s r Q) : wp (d + 8 * m + 26) K_X9_goOver 55 [] [(0, vr (some W)), (1, vr (some (G 0 s)))] h Q := by
  obtain ⟨T, K, n12, n120, n1024, w2⟩ := N.t
  obtain ⟨S, a1, a2, a3, a4, a5⟩ := A
  have hs := X.2.1
  obtain ⟨SI, JS⟩ := N.si S hs
  have hg := N.hg S
  obtain ⟨w1, w2', w3⟩ := N.w S
  have r19 : ai r 19 s = ai R 19 s := (hg_s hg (q := 19) (by omega) hs n120).1
  have r26 : ai r 26 s = ai R 26 s := (hg_s hg (q := 26) (by omega) hs n120).1
  obtain ⟨b, q1, q2, q3, q4, q5⟩ := kid_26 N hs (k := 11) e19 (by omega)
  have eb : begF r (wN R) (nkN R) (nmN R) s = pusF r b := by rw [begF_11 (by rw [r19]; exact e19), r26, q5]
  have ro : ai R 40 b = 9 := q4
  unfold FIN at H
  rw [eb] at H
  rw [bk_X9_goOver_55, nn_some, SI.2.2.2.2.2.1, q2]
  refine ⟨SI.1.1, w1, ?_⟩
  refine wk_kid N IH X hm q3 S a1 a2 a3 a4 a5 (fun z => by rw [ro] at z; exact absurd z (by decide)) (fun z => by rw [ro] at z; exact absurd z (by decide)) (by omega) (fun h2 v r2 g2 S2 B2 => ?_)
  simp only [psh]
  rw [bk_X9_goOver_59]
  rcases B2 with B2 | B2
  · exact H h2 v r2 g2 S2 (Or.inl B2)
  · obtain ⟨r3, g3, S3, se⟩ := lv_o N X q3 a4 S2 B2 (Or.inr (Or.inr ro))
    exact H h2 v r3 (g2.tr g3) S3 (Or.inr se)
theorem go_if (N : WEN h0 U V' e0 W R C L G fW par wk pk fS ks rB dp) (IH : GOB h0 W U R G rB dp m) (X : SCX R G j s) (hm : G 5 j - G 4 j ≤ m + 1) (A : AST h0 W U R G rB dp D f j h r) (e19 : ai R 19 s = 4) (H : FIN h0 W U R G rB D f j s r Q) : wp (d + 8 * m + 26) K_X9_goOver 25 [] [(0, vr (some W)), (1, vr (some (G 0 s)))] h Q := by
  obtain ⟨T, K, n12, n120, n1024, w2⟩ := N.t
  obtain ⟨S, a1, a2, a3, a4, a5⟩ := A
  have hs := X.2.1
  have hg := N.hg S
  obtain ⟨w1, w2', w3⟩ := N.w S
  have r19 : ai r 19 s = ai R 19 s := (hg_s hg (q := 19) (by omega) hs n120).1
  have r26 : ai r 26 s = ai R 26 s := (hg_s hg (q := 26) (by omega) hs n120).1
  have r27 : ai r 27 s = ai R 27 s := (hg_s hg (q := 27) (by omega) hs n120).1
  obtain ⟨b, q1, q2, q3, q4, q5⟩ := kid_26 N hs (k := 4) e19 (by omega)
  obtain ⟨shp, sm, s240⟩ := N.shp hs
  have eb : begF r (wN R) (nkN R) (nmN R) s = if drwV r 2 = 1 then pusF (drwF r) b else if ai R 27 s = -1 then drwF r else pusF (drwF r) (tn (ai R 27 s)) := by
    rw [begF_4 (by rw [r19]; exact e19)]
    unfold begI
    rw [r26, r27, q5]
  have ro : ai R 40 b = 2 := q4
  unfold FIN at H
  rw [eb] at H
  rw [bk_X9_goOver_25]
  refine ⟨w1, ?_⟩
  refine wk_draw N S (by decide) (by decide) (fun h1 S1 => ?_)
  obtain ⟨SI, JS⟩ := N.si S1 hs
  have w1' := (N.w S1).1
  have fk : FRK (f + 1) r (drwF r) := FRK.rf.cg (fun _ _ _ => rfl)
  simp only [psh]
  rw [bk_X9_goOver_29]
  -- one of the two blocks
  have GO : ∀ b', b' ∈ kids R s → (ai R 40 b' = 2 ∨ ai R 40 b' = 3 ∨ ai R 40 b' = 9) → GW R (if drwV r 2 = 1 then pusF (drwF r) b else if ai R 27 s = -1 then drwF r else pusF (drwF r) (tn (ai R 27 s))) (pusF (drwF r) b') → wp (d + 8 * m + 26) K_X9_goOver 36 [vr (some (G 1 b')), vr (some W)] [(0, vr (some W)), (1, vr (some (G 0 s)))] h1 Q := fun b' mb' ro' gw => by
    rw [bk_X9_goOver_36, nn_some]
    refine ⟨w1', ?_⟩
    refine wk_kid N IH X hm mb' S1 a1 a2 a3 a4 a5 (fun z => by rcases ro' with y | y | y <;> rw [y] at z <;> exact absurd z (by decide)) (fun z => by rcases ro' with y | y | y <;> rw [y] at z <;> exact absurd z (by decide)) (by omega) (fun h2 v r2 g2 S2 B2 => ?_)
    simp only [psh]
    rw [bk_X9_goOver_37]
    rcases B2 with B2 | B2
    · exact H h2 v r2 (gw.tr g2) S2 (Or.inl B2)
    · obtain ⟨r3, g3, S3, s1, s2, s3, s4⟩ := lv_o N X mb' a4 S2 B2 ro'
      exact H h2 v r3 (gw.tr (g2.tr g3)) S3 (Or.inr ⟨s1, s2, fk.tr s3, s4⟩)
  refine ⟨fun z => ?_, fun z => ?_⟩
  · rw [if_neg z] at H GO
    rw [bk_X9_goOver_34, nn_some, SI.2.2.2.2.2.2.1, if_neg (by rw [e19]; decide)]
    refine ⟨SI.1.1, ?_⟩
    obtain ⟨k0, z0, z00, B6, B7, -⟩ := shp
    cases e27 : oN (ai R 27 s) with
    | none =>
      have z27 : ai R 27 s = -1 := by
        unfold oN at e27
        split at e27
        · assumption
        · cases e27
      rw [if_pos z27] at H
      rw [show Option.map (G 1) none = none from rfl, bk_X9_goOver_36, nn_some]
      refine ⟨w1', ?_⟩
      rw [bk_X9_goThrough_0]
      refine ⟨fun y => absurd rfl y, fun _ => ?_⟩
      rw [bk_X9_goThrough_2]
      simp only [psh]
      rw [bk_X9_goOver_37]
      exact H h1 (-1) _ GW.rf S1 (Or.inr ⟨a2, a3, fk, Or.inl ⟨rfl, a1⟩⟩)
    | some b' =>
      obtain ⟨n27, t27⟩ := oN_some e27
      obtain ⟨c1, c2, c3, c4, -⟩ := B7.some sm e27
      exact GO b' (kid_mem (Or.inr (Or.inl e27))) (Or.inr (Or.inl c4)) (by rw [if_neg n27, t27]; exact GW.rf)
  · have z := Classical.not_not.mp z
    rw [if_pos z] at H GO
    rw [bk_X9_goOver_31, nn_some, SI.2.2.2.2.2.1, q2]
    exact ⟨SI.1.1, GO b q3 (Or.inl ro) GW.rf⟩
end
