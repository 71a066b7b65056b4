/-! Walking: over statements, through blocks -/
def K1 (nk : Nat) (r : RV) : Prop := gi r 1466 = 1 → ∃ k, k < nk ∧ gi r 1467 = nI k
theorem k1_dt {r : RV} {w nk x : Nat} (h : K1 nk r) : K1 nk (dtF r w nk x) := by
  unfold dtF
  have L : ∀ i k (p : RV × Int32), K1 nk p.1 → K1 nk (fup (dtS r w nk x) i k p).1 := by
    intro i
    induction i with
    | zero => intro k p hp; exact hp
    | succ i ih =>
      intro k p hp
      rw [fup]
      refine ih (k + 1) _ ?_
      unfold dtS
      split
      · exact hp
      · rename_i q eq
        show K1 nk (if _ then thrW p.1 _ else p.1)
        split
        · intro _
          exact ⟨q, kN_lt eq, by unfold thrW; rw [gi_sI, if_pos rfl]⟩
        · exact hp
  refine L _ _ _ ?_
  show gi r 1466 = 1 → ∃ k, k < nk ∧ gi r 1467 = nI k
  exact h
theorem k1_cl {r : RV} {w nk nm s : Nat} (h : K1 nk r) : K1 nk (lvCl r w nk nm s) := by
  unfold lvCl
  have L : ∀ n (x : RV), K1 nk x → K1 nk (fdn (lvC1 r w nk nm s) n x) := by
    intro n
    induction n with
    | zero => intro x hx; exact hx
    | succ n ih =>
      intro x hx
      show K1 nk (fdn (lvC1 r w nk nm s) n (lvC1 r w nk nm s n x))
      refine ih _ ?_
      unfold lvC1
      split
      · exact hx
      · exact k1_dt hx
  exact L _ _ h
theorem pus_f {r : RV} {f b : Nat} (e69 : gi r 1469 = nI f) (hf : f < 17) : gi (pusF r b) 1469 = nI (f + 1) ∧ gi (pusF r b) 11468 = gi r 11468 ∧ gi (pusF r b) 1466 = gi r 1466 ∧ ai (pusF r b) 52 f = nI b ∧ ai (pusF r b) 53 f = ai r 44 b ∧ ai (pusF r b) 54 f = ai r 54 f ∧ ai (pusF r b) 55 f = ai r 55 f ∧ ∀ c, ai (pusF r b) 56 c = ai r 56 c := by
  have ef : fcN r = f := by unfold fcN; rw [e69, tn_nI (by omega)]
  unfold pusF
  rw [ef]
  refine ⟨by rw [gi_sI, if_pos rfl], by rw [gi_sI, if_neg (by decide)]; rfl, by rw [gi_sI, if_neg (by decide)]; rfl, ?_, ?_, ?_, ?_, fun c => ?_⟩
  · rw [ai_sI, ai_tI, if_neg (by omega), ai_tI, if_pos ⟨rfl, rfl⟩]
  · rw [ai_sI, ai_tI, if_pos ⟨rfl, rfl⟩]
  · rw [ai_sI, ai_tI, if_neg (by omega), ai_tI, if_neg (by omega)]
  · rw [ai_sI, ai_tI, if_neg (by omega), ai_tI, if_neg (by omega)]
  · rw [ai_sI, ai_tI, if_neg (by omega), ai_tI, if_neg (by omega)]
theorem stp_f (r : RV) : ai (stpW r) = ai r ∧ gi (stpW r) 1466 = gi r 1466 ∧ gi (stpW r) 1469 = gi r 1469 := by
  unfold stpW
  split <;> exact ⟨rfl, rfl, rfl⟩
section
variable {d : Nat} {h0 h : AH} {Q : Option V → AH → Prop} {U V' e0 W : Nat} {R rB r : RV} {C L : Nat → Int32} {G : Nat → Nat → Nat} {fW par : Nat → Nat} {wk : Nat → Int64} {pk : Nat → Int32} {fS : Nat → Nat} {ks : List Nat} {dp : Nat → Nat} {D : Nat → Prop} {f j s m : Nat}
theorem WKS.pus (S : WKS h0 W U R G rB D h r) (e69 : gi r 1469 = nI f) (hf : f < 17) (b : Nat) : WKS h0 W U R G rB D h (pusF r b) := S.cg (KPW.rf.pus b) rfl (pus_65 r b) (fun c _ => (pus_f e69 hf).2.2.2.2.2.2.2 c)
/-- a statement begins: the reference's turn -/
theorem st_turn (N : WEN h0 U V' e0 W R C L G fW par wk pk fS ks rB dp) {b : Nat} (S : WKS h0 W U R G rB D h r) (rb : RCH R G (nmN R) b) (h1 : ai R 40 b = 1 → ¬ mN R (wN R) (nmN R) (al R 24 (tn (ai R 41 b))) = none) (hf : f < 15) (e66 : gi r 1466 = 0) (e68 : gi r 11468 = 0) (e69 : gi r 1469 = nI (f + 1)) (e52 : ai r 52 f = nI b) (e53 : ai r 53 f = nI s) (hs : SRG R s) : GW R r (if okW (tI r 53 f (ai R 23 s)) = true then begF (stpW (tI r 53 f (ai R 23 s))) (wN R) (nkN R) (nmN R) s else stpW (tI r 53 f (ai R 23 s))) := by
  obtain ⟨T, K, n12, n120, n1024, w2⟩ := N.t
  obtain ⟨hg, BVr, BKr⟩ := N.x S
  have rg := rb.rg T
  have ebn : nbN R = wN R * 1024 + nbC R := rfl
  have er : rsN R = wN R * 120 + nsC R := rfl
  have s2 := hs.2
  have ef : fcN r = f + 1 := by unfold fcN; rw [e69, tn_nI (by omega)]
  have eB : wsB r = b := by unfold wsB; rw [ef, Nat.add_sub_cancel, e52, tn_nI (by omega)]
  have eN : wsN r = nI s := by unfold wsN; rw [ef, Nat.add_sub_cancel, e53]
  have eS : tn (wsN r) = s := by rw [eN, tn_nI (by omega)]
  have eQ : wsQ r = tI r 53 f (ai R 23 s) := by unfold wsQ; rw [ef, Nat.add_sub_cancel, eS, (hg_s hg (q := 23) (by omega) hs n120).1]
  have e40 : ai r 40 b = ai R 40 b := hg_b hg (by omega) rg.1 rg.2 n1024
  have e41 : ai r 41 b = ai R 41 b := hg_b hg (by omega) rg.1 rg.2 n1024
  have own : ¬ ai R 40 b = 0 → ∃ s, ai R 41 b = nI s ∧ SRG R s := fun z => by
    rcases T.2.2.2.1.2.2.1 b rg.1 rg.2 with ⟨-, y⟩ | ⟨-, s, -, q1, q2, q3, -⟩
    · exact absurd y z
    · exact ⟨s, q1, q2, q3⟩
  have nk16 := K.2.1
  have wr : wrn r := ⟨by rw [ef]; omega, e68⟩
  have p66 : gi (wsP r) 1466 = 0 := by unfold wsP; rw [gi_sI, if_neg (by decide)]; exact e66
  have LQ : LVQ (wsP r) (wN R) (nkN R) (nmN R) (nsC R) b := by
    refine ⟨fun z => ?_, fun z => by rw [p66] at z; exact absurd z (by decide)⟩
    have z : ai r 40 b = 1 := z
    rw [e40] at z
    obtain ⟨s', q1, q2⟩ := own (by rw [z]; decide)
    show ¬ mN r (wN R) (nmN R) (al r 24 (tn (ai r 41 b))) = none
    rw [hg_mN hg n12, e41]
    have := h1 z
    have s2' := q2.2
    rw [q1, tn_nI (by omega)] at this ⊢
    rw [(hg_s hg (q := 24) (by omega) q2 n120).2]; exact this
  have P : WPR r (wN R) (nkN R) (nmN R) (nsC R) (nbC R) := by
    refine ⟨BVr, BKr, by rw [ef]; exact e69, by omega, ?_, by rw [ef, Nat.add_sub_cancel, eB]; exact e52, by rw [eB]; exact rg.1, by rw [eB]; omega, by rw [eB]; exact LQ, ?_, ?_⟩
    · rw [eN]
      exact Or.inr ⟨by rw [tn_nI (by omega)], by rw [tn_nI (by omega)]; exact hs.1, by rw [tn_nI (by omega)]; omega⟩
    · rw [eB, e40, e41]
      intro z
      obtain ⟨s', q1, q2, q3⟩ := rol_4 N rb z
      have s2' := q2.2
      rw [q1, tn_nI (by omega), (hg_s hg (q := 19) (by omega) q2 n120).1]
      exact q3
    · intro _ y
      obtain ⟨k, k1, k2⟩ := k1_cl (w := wN R) (nm := nmN R) (s := tn (ai r 41 (wsB r))) (show K1 (nkN R) (wsP r) from fun z => by rw [p66] at z; exact absurd z (by decide)) y
      rw [k2, tn_nI (by omega)]
      exact ⟨rfl, k1⟩
  have g := GW.one wr P
  have e : wsF r (wN R) (nkN R) (nmN R) = (if okW (tI r 53 f (ai R 23 s)) = true then begF (stpW (tI r 53 f (ai R 23 s))) (wN R) (nkN R) (nmN R) s else stpW (tI r 53 f (ai R 23 s))) := by
    unfold wsF
    rw [if_pos ⟨e66, by rw [eN]; exact nI_ne_m1 (by omega)⟩, eQ, eS]
  rw [e] at g
  exact g
theorem go_over (N : WEN h0 U V' e0 W R C L G fW par wk pk fS ks rB dp) (IH : GOB h0 W U R G rB dp m) (X : SCX R G j s) (hm : G 5 j - G 4 j ≤ m + 1) (A : AST h0 W U R G rB dp D f j h r) (H : FIN h0 W U R G rB D f j s r Q) : wp (d + 8 * m + 26) K_X9_goOver 0 [] [(0, vr (some W)), (1, vr (some (G 0 s)))] h Q := by
  obtain ⟨T, K, n12, n120, n1024, w2⟩ := N.t
  have hs := X.2.1
  obtain ⟨SI, -⟩ := N.si A.1 hs
  have r19 : ai r 19 s = ai R 19 s := (hg_s (N.hg A.1) (q := 19) (by omega) hs n120).1
  rw [bk_X9_goOver_0, nn_some, SI.2.1.1]
  refine ⟨SI.1.1, fun c => ?_, fun i hi e => ?_⟩
  · exact go_60 A (begF_o (by rw [r19]; exact c)) H
  · rcases (show i = 0 ∨ i = 1 ∨ i = 2 ∨ i = 3 ∨ i = 4 ∨ i = 5 ∨ i = 6 ∨ i = 7 ∨ i = 8 ∨ i = 9 ∨ i = 10 by omega) with z | z | z | z | z | z | z | z | z | z | z <;> subst z
    · have e : ai R 19 s = 1 := e
      change wp (d + 8 * m + 26) K_X9_goOver 3 [] _ h Q
      exact go_call N IH X hm A e H
    · have e : ai R 19 s = 2 := e
      change wp (d + 8 * m + 26) K_X9_goOver 10 [] _ h Q
      exact go_throw N X A e H
    · have e : ai R 19 s = 3 := e
      change wp (d + 8 * m + 26) K_X9_goOver 20 [] _ h Q
      exact go_set (d := d + 8 * m + 22) N X A e H
    · have e : ai R 19 s = 4 := e
      change wp (d + 8 * m + 26) K_X9_goOver 25 [] _ h Q
      exact go_if N IH X hm A e H
    · have e : ai R 19 s = 5 := e
      change wp (d + 8 * m + 26) K_X9_goOver 38 [] _ h Q
      exact go_loop N IH X hm A (Or.inl e) H
    · have e : ai R 19 s = 6 := e
      change wp (d + 8 * m + 26) K_X9_goOver 38 [] _ h Q
      exact go_loop N IH X hm A (Or.inr e) H
    · have e : ai R 19 s = 7 := e
      change wp (d + 8 * m + 26) K_X9_goOver 42 [] _ h Q
      exact go_break N X A e H
    · have e : ai R 19 s = 8 := e
      change wp (d + 8 * m + 26) K_X9_goOver 49 [] _ h Q
      exact go_ret N X A e H
    · have e : ai R 19 s = 9 := e
      change wp (d + 8 * m + 26) K_X9_goOver 51 [] _ h Q
      exact go_try N IH X hm A e H
    · have e : ai R 19 s = 10 := e
      change wp (d + 8 * m + 26) K_X9_goOver 60 [] _ h Q
      exact go_60 A (begF_10 (by rw [r19]; exact e)) H
    · have e : ai R 19 s = 11 := e
      change wp (d + 8 * m + 26) K_X9_goOver 55 [] _ h Q
      exact go_blk N IH X hm A e H
/-- through blocks of any size -/
theorem gob_all (N : WEN h0 U V' e0 W R C L G fW par wk pk fS ks rB dp) : ∀ m, GOB h0 W U R G rB dp m := by
  obtain ⟨T, K, n12, n120, n1024, w2⟩ := N.t
  intro m
  induction m with
  | zero =>
    intro b rb hz d h r f D Q S e66 e68 e69 hf hD h1 H
    have rg := rb.rg T
    have dl := (N.2.2.2 b rg.1 rg.2).1
    obtain ⟨⟨-, z1, z2, -⟩, -⟩ := T.2.2.1 b rg.1 rg.2
    have e44 := (z2 (by omega)).1
    have BM := (N.unf S).2.2.2.2.2.2.2.2.1 b rg
    obtain ⟨p1, p2, p3, p4, p5, p6, p7, -⟩ := pus_f (b := b) e69 (show f < 17 by omega)
    rw [hg_b (N.hg S) (by omega) rg.1 rg.2 n1024, e44] at p5
    rw [bk_X9_goThrough_0]
    refine ⟨fun _ => ?_, fun z => (by cases z)⟩
    rw [bk_X9_goThrough_4, nn_some, BM.2.2, e44, show oN (-1) = none from rfl, show Option.map (G 0) none = none from rfl]
    refine ⟨BM.1.1, ?_⟩
    rw [bk_X9_goThrough_7]
    refine ⟨fun _ => ?_, fun z => absurd rfl z⟩
    rw [bk_X9_goThrough_27]
    exact H h (-1) (pusF r b) GW.rf (S.pus e69 (by omega) b) (Or.inr ⟨by rw [p2]; exact e68, p1, FRK.pus e69 (by omega) b, p4, p6, p7, Or.inl ⟨rfl, by rw [p3]; exact e66⟩, fun _ => p5, by rw [p5]; exact Or.inl rfl⟩)
  | succ m IH =>
    intro b rb hz d h r f D Q S e66 e68 e69 hf hD h1 H
    rw [show d + 8 * (m + 1) + 20 = d + 1 + 8 * m + 27 by omega]
    have rg := rb.rg T
    have dl := (N.2.2.2 b rg.1 rg.2).1
    obtain ⟨⟨-, z1, z2, z3, wf⟩, g4, g5⟩ := T.2.2.1 b rg.1 rg.2
    have s240 := T.2.2.2.2.1
    have er : rsN R = wN R * 120 + nsC R := rfl
    have BM := (N.unf S).2.2.2.2.2.2.2.2.1 b rg
    have LE : ∀ h1 r1, WKS h0 W U R G rB D h1 r1 → GW R (pusF r b) r1 → gi r1 1466 = 0 → gi r1 11468 = 0 → gi r1 1469 = nI (f + 1) → FRK f r r1 → ai r1 52 f = nI b → ai r1 54 f = ai r 54 f → ai r1 55 f = ai r 55 f → ai r1 53 f = -1 → wp (d + 1 + 8 * m + 27) K_X9_goThrough 7 [] [(0, vr (some W)), (1, vr (some (G 1 b))), (2, vr none)] h1 Q := fun h1 r1 S1 c1 c2 c3 c4 c5 c6 c7 c8 c9 => by
      rw [bk_X9_goThrough_7]
      refine ⟨fun _ => ?_, fun z => absurd rfl z⟩
      rw [bk_X9_goThrough_27]
      exact H h1 (-1) r1 c1 S1 (Or.inr ⟨c3, c4, c5, c6, c7, c8, Or.inl ⟨rfl, c2⟩, fun _ => c9, by rw [c9]; exact Or.inl rfl⟩)
    have Lp : ∀ n s h1 r1, WKS h0 W U R G rB D h1 r1 → GW R (pusF r b) r1 → gi r1 1466 = 0 → gi r1 11468 = 0 → gi r1 1469 = nI (f + 1) → FRK f r r1 → ai r1 52 f = nI b → ai r1 54 f = ai r 54 f → ai r1 55 f = ai r 55 f → ai r1 53 f = nI s → SCX R G b s → G 5 b - s ≤ n → wp (d + 1 + 8 * m + 27) K_X9_goThrough 7 [] [(0, vr (some W)), (1, vr (some (G 1 b))), (2, vr (some (G 0 s)))] h1 Q := by
      intro n
      induction n with
      | zero =>
        intro s h1 r1 _ _ _ _ _ _ _ _ _ _ X hn
        have := X.2.2.2.2
        omega
      | succ n ih =>
        intro s h2 r1 S1 c1 c2 c3 c4 c5 c6 c7 c8 c9 X hn
        have hs := X.2.1
        obtain ⟨v1, v2, v3⟩ := wf s X.2.2.2.1 X.2.2.2.2 X.2.2.1
        have g3 : s < G 3 s := (T.2.1 s hs.1 hs.2).1.2.2.1
        have tn1 := st_turn N S1 rb h1 (show f < 15 by omega) c2 c3 c4 c6 c9 hs
        have S1' : WKS h0 W U R G rB D h2 (tI r1 53 f (ai R 23 s)) := S1.cg (KPW.rf.t _ (by decide)) rfl rfl (fun c _ => by rw [ai_tI, if_neg (by omega)])
        have d52 : ai (tI r1 53 f (ai R 23 s)) 52 f = nI b := by rw [ai_tI, if_neg (by omega)]; exact c6
        have d53 : ai (tI r1 53 f (ai R 23 s)) 53 f = ai R 23 s := by rw [ai_tI, if_pos ⟨rfl, rfl⟩]
        have d54 : ai (tI r1 53 f (ai R 23 s)) 54 f = ai r 54 f := by rw [ai_tI, if_neg (by omega)]; exact c7
        have d55 : ai (tI r1 53 f (ai R 23 s)) 55 f = ai r 55 f := by rw [ai_tI, if_neg (by omega)]; exact c8
        have dfk : FRK f r (tI r1 53 f (ai R 23 s)) := c5.tr (fun q i _ _ hi => by rw [ai_tI, if_neg (by omega)])
        have d66 : gi (tI r1 53 f (ai R 23 s)) 1466 = 0 := c2
        have d69 : gi (tI r1 53 f (ai R 23 s)) 1469 = nI (f + 1) := c4
        generalize tI r1 53 f (ai R 23 s) = r1' at *
        obtain ⟨sf1, sf2, sf3⟩ := stp_f r1'
        rw [bk_X9_goThrough_7]
        refine ⟨fun z => (by cases z), fun _ => ?_⟩
        rw [bk_X9_goThrough_9]
        refine ⟨(N.w S1).1, ?_⟩
        refine wk_beg N S1' (fun ok h3 S3 fl => ?_) (fun ok S3 fl => ?_)
        · rw [if_pos ok] at tn1
          simp only [psh]
          rw [bk_X9_goThrough_11]
          refine ⟨fun z => absurd z (by decide), fun _ => ?_⟩
          rw [bk_X9_goThrough_12]
          refine ⟨(N.w S3).1, ?_⟩
          refine go_over (d := d + 1) N IH X hz ⟨S3, by rw [sf2]; exact d66, fl, by rw [sf3]; exact d69, hf, hD⟩ (fun h4 v r4 g4 S4 E4 => ?_)
          simp only [psh]
          rw [bk_X9_goThrough_15, bk_X9_goThrough_17]
          rcases E4 with E4 | ⟨y1, y2, y3, y4⟩
          · have ev := E4.1
            rw [ev]
            refine ⟨fun z => absurd z (by decide), fun _ => ?_⟩
            rw [bk_X9_goThrough_21]
            rw [ev] at E4
            exact H h4 _ r4 (c1.tr (tn1.tr g4)) S4 (Or.inl E4)
          · have q52 : ai r4 52 f = nI b := by rw [y3 52 f (by omega) (by omega) (by omega), sf1]; exact d52
            have q53 : ai r4 53 f = ai R 23 s := by rw [y3 53 f (by omega) (by omega) (by omega), sf1]; exact d53
            have q54 : ai r4 54 f = ai r 54 f := by rw [y3 54 f (by omega) (by omega) (by omega), sf1]; exact d54
            have q55 : ai r4 55 f = ai r 55 f := by rw [y3 55 f (by omega) (by omega) (by omega), sf1]; exact d55
            have qfk : FRK f r r4 := (dfk.cg (fun q _ _ => by rw [sf1])).tr (y3.less (by omega))
            have mo := y4.one K.2.1
            refine ⟨fun z => ?_, fun z => ?_⟩
            · have m0 := mo.2.2.1.mp z
              obtain ⟨SI4, -⟩ := N.si S4 hs
              have nx : NXF h4 R G s := SI4.2.2.2.2.2.2.2.2.2.2.2.2.1
              rw [bk_X9_goThrough_23, nn_some, show fP h4 30804 (G 0 s) = (oN (ai R 23 s)).map (G 0) from nx]
              refine ⟨SI4.1.1, ?_⟩
              refine wp_cut 3 ?_
              by_cases e3 : G 3 s = G 5 b
              · rw [if_pos e3] at v2
                rw [v2] at q53
                rw [v2, show oN (-1) = none from rfl]
                exact LE h4 r4 S4 (c1.tr (tn1.tr g4)) m0 y1 y2 qfk q52 q54 q55 q53
              · rw [if_neg e3] at v2
                rw [v2] at q53
                rw [v2, oN_nI (by omega)]
                exact ih (G 3 s) h4 r4 S4 (c1.tr (tn1.tr g4)) m0 y1 y2 qfk q52 q54 q55 q53 ⟨rb, ⟨by have := hs.1; omega, by omega⟩, v3 (by omega), by have := X.2.2.2.1; omega, by omega⟩ (by omega)
            · rw [bk_X9_goThrough_21]
              refine H h4 _ r4 (c1.tr (tn1.tr g4)) S4 (Or.inr ⟨y1, y2, qfk, q52, q54, q55, y4, fun y => absurd y z, ?_⟩)
              rw [q53, v2]
              split
              · exact Or.inl rfl
              · refine Or.inr ?_
                rw [tn_nI (by omega)]
                have := hs.1
                exact ⟨rfl, by omega, by omega⟩
        · rw [if_neg (by rw [ok]; decide)] at tn1
          simp only [psh]
          rw [bk_X9_goThrough_11]
          refine ⟨fun _ => ?_, fun z => absurd rfl z⟩
          rw [bk_X9_goThrough_16, bk_X9_goThrough_17]
          refine ⟨fun z => absurd z (by decide), fun _ => ?_⟩
          rw [bk_X9_goThrough_21]
          exact H h2 _ _ (c1.tr tn1) S3 (Or.inl ⟨rfl, fl, f + 1, by rw [sf3]; exact d69, by omega⟩)
    obtain ⟨p1, p2, p3, p4, p5, p6, p7, -⟩ := pus_f (b := b) e69 (show f < 17 by omega)
    rw [hg_b (N.hg S) (by omega) rg.1 rg.2 n1024] at p5
    have Sp := S.pus e69 (show f < 17 by omega) b
    have Fp := FRK.pus e69 (show f < 17 by omega) b
    rw [bk_X9_goThrough_0]
    refine ⟨fun _ => ?_, fun z => (by cases z)⟩
    rw [bk_X9_goThrough_4, nn_some, BM.2.2]
    refine ⟨BM.1.1, ?_⟩
    by_cases e5 : G 4 b = G 5 b
    · have e44 := (z2 e5).1
      rw [e44] at p5
      rw [e44, show oN (-1) = none from rfl]
      exact LE h (pusF r b) Sp GW.rf (by rw [p3]; exact e66) (by rw [p2]; exact e68) p1 Fp p4 p6 p7 p5
    · obtain ⟨e44, e21, -⟩ := z3 (by omega)
      rw [e44] at p5
      rw [e44, oN_nI (by omega)]
      exact Lp _ (G 4 b) h (pusF r b) Sp GW.rf (by rw [p3]; exact e66) (by rw [p2]; exact e68) p1 Fp p4 p6 p7 p5 ⟨rb, ⟨g4, by omega⟩, e21, Nat.le_refl _, by omega⟩ (Nat.le_refl _)
end
