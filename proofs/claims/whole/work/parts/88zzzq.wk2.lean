/-! Walking: contracts, a block is left, methods are closed -/
def MOD (R : RV) (b : Nat) (v : Int32) (r : RV) : Prop := (v = -1 ∧ gi r 1466 = 0) ∨ (∃ k, v = nI k ∧ k < nkN R ∧ gi r 1466 = 1 ∧ gi r 1467 = nI k) ∨ (v = -4 ∧ gi r 1466 = 2 ∧ ∃ s, tgF R 2048 b = some s ∧ gi r 1467 = nI s) ∨ (v = -5 ∧ gi r 1466 = 3)
theorem MOD.cg {R r r' : RV} {b : Nat} {v : Int32} (M : MOD R b v r) (e1 : gi r' 1466 = gi r 1466) (e2 : gi r' 1467 = gi r 1467) : MOD R b v r' := by
  unfold MOD; rw [e1, e2]; exact M
theorem MOD.up {R r : RV} {b j : Nat} {v : Int32} (M : MOD R b v r) (e : tgF R 2048 b = tgF R 2048 j) : MOD R j v r := by
  unfold MOD at M ⊢; rw [← e]; exact M
theorem MOD.one {R r : RV} {b : Nat} {v : Int32} (M : MOD R b v r) (nk : nkN R ≤ 16) : (gi r 1466 = 1 → ∃ k, v = nI k ∧ k < nkN R ∧ gi r 1467 = nI k) ∧ (¬ gi r 1466 = 1 → v < 0) ∧ (v = -1 ↔ gi r 1466 = 0) ∧ ¬ v = -2 ∧ (gi r 1466 = 1 → 0 ≤ v) := by
  rcases M with ⟨e1, e2⟩ | ⟨k, e1, l, e2, e3⟩ | ⟨e1, e2, s, -, e3⟩ | ⟨e1, e2⟩
  · rw [e1, e2]; exact ⟨fun z => absurd z (by decide), fun _ => by decide, by decide, by decide, fun z => absurd z (by decide)⟩
  · rw [e1, e2]
    refine ⟨fun _ => ⟨k, rfl, l, e3⟩, fun z => absurd rfl z, ⟨fun z => absurd z (nI_ne_m1 (by omega)), fun z => absurd z (by decide)⟩, fun z => ?_, fun _ => ?_⟩
    · have y : ¬ (nI k < 0) := nI_pos (by omega)
      rw [z] at y; exact y (by decide)
    · rw [show (0 : Int32) = nI 0 from rfl, nI_leI (by omega) (by omega)]; omega
  · rw [e1, e2]; exact ⟨fun z => absurd z (by decide), fun _ => by decide, by decide, by decide, fun z => absurd z (by decide)⟩
  · rw [e1, e2]; exact ⟨fun z => absurd z (by decide), fun _ => by decide, by decide, by decide, fun z => absurd z (by decide)⟩
def FRK (f : Nat) (r r' : RV) : Prop := ∀ q i, 52 ≤ q → q ≤ 55 → i < f → ai r' q i = ai r q i
theorem FRK.rf {f : Nat} {r : RV} : FRK f r r := fun _ _ _ _ _ => rfl
theorem FRK.tr {f : Nat} {r r1 r2 : RV} (a : FRK f r r1) (b : FRK f r1 r2) : FRK f r r2 := fun q i h1 h2 h3 => (b q i h1 h2 h3).trans (a q i h1 h2 h3)
theorem FRK.less {f g : Nat} {r r1 : RV} (a : FRK f r r1) (h : g ≤ f) : FRK g r r1 := fun q i h1 h2 h3 => a q i h1 h2 (by omega)
theorem FRK.cg {f : Nat} {r r1 r2 : RV} (a : FRK f r r1) (e : ∀ q, 52 ≤ q → q ≤ 55 → ai r2 q = ai r1 q) : FRK f r r2 := fun q i h1 h2 h3 => by rw [e q h1 h2]; exact a q i h1 h2 h3
theorem FRK.pus {r : RV} {f : Nat} (e : gi r 1469 = nI f) (hf : f < 17) (b : Nat) : FRK f r (pusF r b) := fun q i h1 h2 h3 => by
  have ef : fcN r = f := by unfold fcN; rw [e, tn_nI (by omega)]
  unfold pusF
  rw [ai_sI, ef, ai_tI, if_neg (by omega), ai_tI, if_neg (by omega)]
/-- the steps are used up -/
def EDL (v : Int32) (r' : RV) : Prop := v = -2 ∧ ¬ gi r' 11468 = 0 ∧ ∃ g, gi r' 1469 = nI g ∧ g < 17
/-- a block came to its end, and is not left yet -/
def BEN (R : RV) (f b : Nat) (r r' : RV) (v : Int32) : Prop := gi r' 11468 = 0 ∧ gi r' 1469 = nI (f + 1) ∧ FRK f r r' ∧ ai r' 52 f = nI b ∧ ai r' 54 f = ai r 54 f ∧ ai r' 55 f = ai r 55 f ∧ MOD R b v r' ∧ (v = -1 → ai r' 53 f = -1) ∧ rf (ai r' 53 f) (wN R * 120) (wN R * 120 + nsC R)
/-- a statement came to its end -/
def SEN (R : RV) (f j : Nat) (r r' : RV) (v : Int32) : Prop := gi r' 11468 = 0 ∧ gi r' 1469 = nI (f + 1) ∧ FRK (f + 1) r r' ∧ MOD R j v r'
/-- the parameters around a block are in D -/
def DAN (R : RV) (D : Nat → Prop) (b : Nat) : Prop := ∀ m q, anc R m b q → ai R 40 q = 6 → D (prC R q)
section
variable {d : Nat} {h0 h : AH} {Q : Option V → AH → Prop} {U V' e0 W : Nat} {R rB r : RV} {C L : Nat → Int32} {G : Nat → Nat → Nat} {fW par : Nat → Nat} {wk : Nat → Int64} {pk : Nat → Int32} {fS : Nat → Nat} {ks : List Nat} {dp : Nat → Nat} {D : Nat → Prop}
theorem WEN.t (N : WEN h0 U V' e0 W R C L G fW par wk pk fS ks rB dp) : TRE R G (nmN R) ∧ KEQ R (nkN R) par ∧ nmN R ≤ 12 ∧ nsC R ≤ 120 ∧ nbC R ≤ 1024 ∧ wN R < 2 := by
  obtain ⟨N, -, X, -⟩ := N
  have T := N.2.2.2.2.2.2.1.1
  exact ⟨T, N.2.2.2.2.2.1.1, N.2.2.2.2.2.2.1.2.2.1, N.2.2.2.2.2.2.1.2.2.2.2.1, X.2.1.2.2.1, X.2.1.1.2.1⟩
/-- the statements of a block, the blocks of a statement -/
theorem kid_f (N : WEN h0 U V' e0 W R C L G fW par wk pk fS ks rB dp) {j s b : Nat} (rj : RCH R G (nmN R) j) (hs : SRG R s) (e21 : ai R 21 s = nI j) (l1 : G 4 j ≤ s) (l2 : s < G 5 j) (m : b ∈ kids R s) : RCH R G (nmN R) b ∧ upB R b = some j ∧ ai R 41 b = nI s ∧ dp j < dp b ∧ dp b < 8 ∧ G 5 b - G 4 b < G 5 j - G 4 j ∧ (wN R * 1024 ≤ b ∧ b < nbN R) ∧ b < 2048 := by
  obtain ⟨T, -, -, -, -, -⟩ := N.t
  have rb := rj.kid hs.1 hs.2 e21 l1 l2 m
  obtain ⟨⟨-, -, w3, w4, w5, -⟩, -⟩ := T.2.1 s hs.1 hs.2
  have sm := T.2.2.2.2.2
  have s240 := T.2.2.2.2.1
  obtain ⟨k1, k2, -⟩ := kid_is w5 sm m
  have rgj := rj.rg T
  obtain ⟨⟨-, -, -, -, wf⟩, -⟩ := T.2.2.1 j rgj.1 rgj.2
  obtain ⟨g1, -⟩ := wf s l1 l2 e21
  obtain ⟨c1, c2⟩ := w4.le
  have c3 := c2 b m
  have eu : upB R b = some j := upB_of k1 (by have := hs.2; omega) e21 (by omega)
  obtain ⟨d1, d2⟩ := N.2.2.2 b k2.1 k2.2
  exact ⟨rb, eu, k1, d2 j eu, d1, by omega, k2, by omega⟩
theorem DAN.kid {j b : Nat} (a : DAN R D j) (e : upB R b = some j) (h6 : ai R 40 b = 6 → D (prC R b)) : DAN R D b := fun m q an z => by
  cases m with
  | zero => have an : b = q := an; rw [← an] at z ⊢; exact h6 z
  | succ m =>
    obtain ⟨i, i1, i2⟩ := an
    rw [e] at i1
    rw [← Option.some.inj i1] at i2
    exact a m q i2 z
/-- a loop's block is a loop's -/
theorem rol_4 (N : WEN h0 U V' e0 W R C L G fW par wk pk fS ks rB dp) {b : Nat} (rb : RCH R G (nmN R) b) (e : ai R 40 b = 4) : ∃ s, ai R 41 b = nI s ∧ SRG R s ∧ (ai R 19 s = 5 ∨ ai R 19 s = 6) := by
  obtain ⟨T, -, -, -, -, -⟩ := N.t
  have sm := T.2.2.2.2.2
  rcases rb.up T with ⟨-, z⟩ | ⟨o, j, -, ro, e41, -, -, -, mk, -⟩
  · have := rb.top T z; rw [e] at this; exact absurd this (by decide)
  · refine ⟨o, e41, ro, ?_⟩
    obtain ⟨⟨-, -, w3, w4, w5, -⟩, -⟩ := T.2.1 o ro.1 ro.2
    have w6 := w5
    obtain ⟨k0, z0, z00, -, -, -, -, -, -, -, zz, -⟩ := w6
    obtain ⟨-, rg, z⟩ := kid_is w5 sm mk
    rcases z with ⟨z1, k, z2, z3, z4⟩ | ⟨-, z⟩ | ⟨i, -, -, z, -⟩ | ⟨-, z⟩
    · rw [e] at z4
      have ek : k = k0 := by
        have := congrArg tn (z2.symm.trans z0)
        rw [tn_nI (by omega)] at this
        rw [tn_nI (by omega)] at this
        exact this
      subst ek
      rcases (show k = 0 ∨ k = 1 ∨ k = 2 ∨ k = 3 ∨ k = 4 ∨ k = 5 ∨ k = 6 ∨ k = 7 ∨ k = 8 ∨ k = 9 ∨ k = 10 ∨ k = 11 by omega) with y | y | y | y | y | y | y | y | y | y | y | y
      · exact absurd ((zz (by omega)).symm.trans z1).symm (nI_ne_m1 (by omega))
      · rw [y] at z4; exact absurd z4 (by decide)
      · exact absurd ((zz (by omega)).symm.trans z1).symm (nI_ne_m1 (by omega))
      · exact absurd ((zz (by omega)).symm.trans z1).symm (nI_ne_m1 (by omega))
      · rw [y] at z4; exact absurd z4 (by decide)
      · rw [z2, y]; exact Or.inl rfl
      · rw [z2, y]; exact Or.inr rfl
      · exact absurd ((zz (by omega)).symm.trans z1).symm (nI_ne_m1 (by omega))
      · exact absurd ((zz (by omega)).symm.trans z1).symm (nI_ne_m1 (by omega))
      · rw [y] at z4; exact absurd z4 (by decide)
      · rw [y] at z4; exact absurd z4 (by decide)
      · rw [y] at z4; exact absurd z4 (by decide)
    · rw [e] at z; exact absurd z (by decide)
    · rw [e] at z; exact absurd z (by decide)
    · rw [e] at z; exact absurd z (by decide)
/-- a block is left -/
theorem lv_turn (N : WEN h0 U V' e0 W R C L G fW par wk pk fS ks rB dp) {r0 : RV} {f b : Nat} {v : Int32} (S : WKS h0 W U R G rB D h r) (rb : RCH R G (nmN R) b) (hf : f < 15) (B : BEN R f b r0 r v)
    (h1 : ai R 40 b = 1 → ¬ mN R (wN R) (nmN R) (al R 24 (tn (ai R 41 b))) = none) (h5 : ai R 40 b = 5 → gi (lvCl (sI r 1469 (nI f)) (wN R) (nkN R) (nmN R) (tn (ai R 41 b))) 1466 = 1 → ∃ k, k < nkN R ∧ gi (lvCl (sI r 1469 (nI f)) (wN R) (nkN R) (nmN R) (tn (ai R 41 b))) 1467 = nI k) : GW R r (lvF (sI r 1469 (nI f)) (wN R) (nkN R) (nmN R) b f) := by
  obtain ⟨b1, b2, b3, b4, -, -, b5, b6, b7⟩ := B
  obtain ⟨T, K, n12, n120, n1024, w2⟩ := N.t
  obtain ⟨hg, BVr, BKr⟩ := N.x S
  have rg := rb.rg T
  have ebn : nbN R = wN R * 1024 + nbC R := rfl
  have ef : fcN r = f + 1 := by unfold fcN; rw [b2, tn_nI (by omega)]
  have eB : wsB r = b := by unfold wsB; rw [ef, Nat.add_sub_cancel, b4, tn_nI (by omega)]
  have eN : wsN r = ai r 53 f := by unfold wsN; rw [ef, Nat.add_sub_cancel]
  have eP : wsP r = sI r 1469 (nI f) := by unfold wsP; rw [ef, Nat.add_sub_cancel]
  have e40 : ai r 40 b = ai R 40 b := hg_b hg (by omega) rg.1 rg.2 n1024
  have e41 : ai r 41 b = ai R 41 b := hg_b hg (by omega) rg.1 rg.2 n1024
  have own : ¬ ai R 40 b = 0 → ∃ s, ai R 41 b = nI s ∧ SRG R s := fun z => by
    rcases T.2.2.2.1.2.2.1 b rg.1 rg.2 with ⟨-, y⟩ | ⟨-, s, -, q1, q2, q3, -⟩
    · exact absurd y z
    · exact ⟨s, q1, q2, q3⟩
  have nk16 := K.2.1
  have mo := b5.one nk16
  have wr : wrn r := ⟨by rw [ef]; omega, b1⟩
  have LQ : LVQ (wsP r) (wN R) (nkN R) (nmN R) (nsC R) b := by
    rw [eP]
    refine ⟨fun z => ?_, fun z => ?_⟩
    · have z : ai r 40 b = 1 := z
      rw [e40] at z
      obtain ⟨s, q1, q2⟩ := own (by rw [z]; decide)
      show ¬ mN r (wN R) (nmN R) (al r 24 (tn (ai r 41 b))) = none
      rw [hg_mN hg n12, e41]
      have := h1 z
      have s2 := q2.2
      have er : rsN R = wN R * 120 + nsC R := rfl
      rw [q1, tn_nI (by omega)] at this ⊢
      rw [(hg_s hg (q := 24) (by omega) q2 n120).2]; exact this
    · have z : gi r 1466 = 1 := z
      obtain ⟨k, -, k2, k3⟩ := mo.1 z
      show gi r 1467 = nI (tn (gi r 1467)) ∧ tn (gi r 1467) < nkN R
      rw [k3, tn_nI (by omega)]
      exact ⟨rfl, k2⟩
  have P : WPR r (wN R) (nkN R) (nmN R) (nsC R) (nbC R) := by
    refine ⟨BVr, BKr, by rw [ef]; exact b2, by omega, by rw [eN]; exact b7, by rw [ef, Nat.add_sub_cancel, eB]; exact b4, by rw [eB]; exact rg.1, by rw [eB]; omega, by rw [eB]; exact LQ, ?_, ?_⟩
    · rw [eB, e40, e41]
      intro z
      obtain ⟨s, q1, q2, q3⟩ := rol_4 N rb z
      have s2 := q2.2
      have er : rsN R = wN R * 120 + nsC R := rfl
      rw [q1, tn_nI (by omega), (hg_s hg (q := 19) (by omega) q2 n120).1]
      exact q3
    · rw [eB, e40, e41, eP]
      intro z y
      obtain ⟨k, k1, k2⟩ := h5 z y
      rw [k2, tn_nI (by omega)]
      exact ⟨rfl, k1⟩
  have g := GW.one wr P
  have e : wsF r (wN R) (nkN R) (nmN R) = lvF (sI r 1469 (nI f)) (wN R) (nkN R) (nmN R) b f := by
    unfold wsF
    rw [if_neg (fun z => z.2 (by rw [eN]; exact b6 (mo.2.2.1.mpr z.1))), eP, eB, ef, Nat.add_sub_cancel]
  rw [e] at g
  exact g
theorem ixO_oI {mo : Option Nat} {n : Nat} (h : ∀ m, mo = some m → m < n) (hn : n < 2 ^ 31) : ixO (oI mo) n = mo := by
  cases mo with
  | none =>
    unfold ixO
    rw [if_pos (Or.inl (by decide))]
  | some m =>
    have := h m rfl
    unfold ixO
    show (if nI m < 0 ∨ nI n ≤ nI m then none else some (tn (nI m))) = some m
    rw [if_neg, tn_nI (by omega)]
    rintro (q | q)
    · exact nI_pos (by omega) q
    · exact nI_ge this hn q
/-- one of what a method throws is drawn -/
theorem wk_call (N : WEN h0 U V' e0 W R C L G fW par wk pk fS ks rB dp) (S : WKS h0 W U R G rB D h r) {m : Nat} (hm : m < nmN R) {x1 : Int32} {x2 : Option Nat}
    (H : ∀ h' kv, WKS h0 W U R G rB D h' (drwF r) → (∀ k, kv = some k → k < nkN R) → dtF r (wN R) (nkN R) (wN R * 12 + m) = (if gi r 1466 = 1 then drwF r else match kv with
      | none => drwF r
      | some q => thrW (drwF r) (nI q)) → Q (some (vi (oI kv))) h') : wp (d + 4) K_X9_goCall 35 [] [(0, vr (some W)), (1, vi x1), (2, vr x2), (3, vr (some (fW m)))] h Q := by
  obtain ⟨T, K, n12, n120, n1024, w2⟩ := N.t
  obtain ⟨w1, w2', w3⟩ := N.w S
  obtain ⟨hg, BVr, BKr⟩ := N.x S
  have n4 : tn (ai R 14 (wN R * 12 + m)) ≤ 4 := ((N.unf S).2.2.2.2.2.2.2.2.2.1 m hm).1.2.2.2.2.2.2.2.2.2.2
  have nds : ∀ h1 r1, WKS h0 W U R G rB D h1 r1 → tg h1 (fW m) = 13 ∧ fP h1 31200 (fW m) = some (fW m + 1) ∧ ND h1 (fW m + 1) (tn (ai R 14 (wN R * 12 + m))) (fun i => conv (al R 15 (4 * (wN R * 12 + m) + i))) (fun i => ai R 16 (4 * (wN R * 12 + m) + i)) (fun i => kN R (wN R) (nkN R) (al R 15 (4 * (wN R * 12 + m) + i)) (ai R 16 (4 * (wN R * 12 + m) + i))) := fun h1 r1 S1 => by
    obtain ⟨⟨t1, t2, t3⟩, nd, -⟩ := ((N.unf S1).2.2.2.2.2.2.2.2.2.1 m hm).1
    exact ⟨t1, t3, nd⟩
  obtain ⟨j, j1, j2, j3, j4⟩ := dt_is (r := r) (w := wN R) (nk := nkN R) (x := wN R * 12 + m) (n := tn (ai R 14 (wN R * 12 + m))) (mt := fun i => kN R (wN R) (nkN R) (al R 15 (4 * (wN R * 12 + m) + i)) (ai R 16 (4 * (wN R * 12 + m) + i))) (by rw [(hg_w hg (q := 14) (by omega) (by omega)).1]) n4 (fun i hi => by
    have e1 : al r 15 (4 * (wN R * 12 + m) + i) = al R 15 (4 * (wN R * 12 + m) + i) := (hg 15 _ (by unfold HF; omega)).2
    have e2 : ai r 16 (4 * (wN R * 12 + m) + i) = ai R 16 (4 * (wN R * 12 + m) + i) := (hg 16 _ (by unfold HF; omega)).1
    rw [e1, e2, hg_kN hg K.2.1])
  have mtl : ∀ i k, (fun i => kN R (wN R) (nkN R) (al R 15 (4 * (wN R * 12 + m) + i)) (ai R 16 (4 * (wN R * 12 + m) + i))) i = some k → k < nkN R := fun i k e => kN_lt e
  generalize (fun i => kN R (wN R) (nkN R) (al R 15 (4 * (wN R * 12 + m) + i)) (ai R 16 (4 * (wN R * 12 + m) + i))) = mt at nds j1 j2 j3 j4 mtl
  generalize tn (ai R 14 (wN R * 12 + m)) = n at n4 nds j1 j2 j3 j4
  obtain ⟨t1, t3, nd⟩ := nds h r S
  rw [bk_X9_goCall_35, nn_some, t3, nn_some]
  refine ⟨t1, nd.1, ?_⟩
  rw [n_countKnown nd]
  simp only [psh]
  rw [bk_X9_goCall_40, nn_some]
  refine ⟨w1, ?_⟩
  rw [show (1 : Int32) + nI (knC mt n 0 0) = nI (1 + knC mt n 0 0) by rw [lt1, nI_add]]
  refine wk_draw N S ?_ ?_ (fun h1 S1 => ?_)
  · rw [show (0 : Int32) = nI 0 from rfl, nI_ltI (by omega) (by omega)]; omega
  · rcases (show 1 + knC mt n 0 0 = 1 ∨ 1 + knC mt n 0 0 = 2 ∨ 1 + knC mt n 0 0 = 3 ∨ 1 + knC mt n 0 0 = 4 ∨ 1 + knC mt n 0 0 = 5 by omega) with z | z | z | z | z <;> rw [z] <;> decide
  · simp only [psh]
    rw [j3, bk_X9_goCall_42]
    obtain ⟨t1', t3', nd1⟩ := nds h1 _ S1
    have fin : Q (some (vi (oI (knV mt j n 0 0)))) h1 := H h1 _ S1 (fun k e => by
      obtain ⟨i, -, -, q⟩ := knV_some _ _ _ _ e
      exact mtl i k q) j4
    refine ⟨fun z => ?_, fun z => ?_⟩
    · rw [bk_X9_goCall_47, nn_some, t3', nn_some]
      refine ⟨t1', nd1.1, ?_⟩
      rw [n_knownAt nd1 (by omega)]
      simp only [psh]
      rw [bk_X9_goCall_51]
      exact fin
    · have z := Classical.not_not.mp z
      have ej : j = 0 := by
        have := congrArg tn z
        rw [tn_nI (by omega)] at this
        exact this
      rw [bk_X9_goCall_45, bk_X9_goCall_51]
      rw [ej, knV_0] at fin
      exact fin
/-- a method is closed -/
theorem wk_close1 (N : WEN h0 U V' e0 W R C L G fW par wk pk fS ks rB dp) (S : WKS h0 W U R G rB D h r) {mo : Option Nat} (hm : ∀ m, mo = some m → m < nmN R)
    (H0 : mo = none → Q (some (vi (-1))) h) (H1 : ∀ m, mo = some m → ∀ h' kv, WKS h0 W U R G rB D h' (drwF r) → (∀ k, kv = some k → k < nkN R) → dtF r (wN R) (nkN R) (wN R * 12 + m) = (if gi r 1466 = 1 then drwF r else match kv with
      | none => drwF r
      | some q => thrW (drwF r) (nI q)) → Q (some (vi (oI kv))) h') : wp (d + 5) K_X9_goCall 0 [] [(0, vr (some W)), (1, vi (oI mo)), (2, vr none)] h Q := by
  obtain ⟨T, K, n12, n120, n1024, w2⟩ := N.t
  obtain ⟨w1, w2', w3⟩ := N.w S
  have UF := N.unf S
  rw [bk_X9_goCall_0, w3]
  refine ⟨w1, fun _ => ?_, fun z => by cases z⟩
  rw [bk_X9_goCall_5, w3, nn_some]
  refine ⟨w1, UF.1.1, ?_⟩
  refine c_wayAt (d := d + 1) UF (oI mo) ?_
  rw [ixO_oI hm (by omega)]
  simp only [psh]
  rw [bk_X9_goCall_9]
  cases mo with
  | none =>
    refine ⟨fun z => absurd rfl z, fun _ => ?_⟩
    rw [bk_X9_goCall_12]
    exact H0 rfl
  | some m =>
    refine ⟨fun _ => ?_, fun z => by cases z⟩
    rw [bk_X9_goCall_14]
    refine ⟨fun _ => ?_, fun z => absurd rfl z⟩
    exact wk_call (d := d + 1) N S (hm m rfl) (H1 m rfl)
theorem dtK.kp {r r' : RV} (k : dtK r r') : KPW r r' := ⟨fun q _ => by rw [k.1], k.2.1, fun f hf => k.2.2 f (by omega) (by omega)⟩
theorem drw_K (r : RV) : dtK r (drwF r) := ⟨rfl, rfl, fun _ _ _ => rfl⟩
end
