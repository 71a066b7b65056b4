/-! Walking: the steps do not grow less; loops -/
section
variable {r : RV} {w nk nm : Nat}
theorem pus_65 (r : RV) (b : Nat) : gi (pusF r b) 1465 = gi r 1465 := by unfold pusF; rw [gi_sI, if_neg (by decide)]; rfl
theorem dt_65 (r : RV) (x : Nat) : gi (dtF r w nk x) 1465 = gi r 1465 := (dtK_dt r w nk x).2.2 1465 (by decide) (by decide)
theorem thr_65 (r : RV) (k : Int32) : gi (thrW r k) 1465 = gi r 1465 := by unfold thrW; rw [gi_sI, if_neg (by decide), gi_sI, if_neg (by decide)]
theorem st_65 (r : RV) (c : Nat) : gi (stF r w nk c) 1465 = gi r 1465 := by rw [(st_is (r := r) (w := w) (nk := nk) (c := c) (mt := cgK r w nk c) rfl (fun _ _ => rfl)).2.2.1]
theorem beg_65 (r : RV) (s : Nat) : gi (begF r w nk nm s) 1465 = gi r 1465 := by
  unfold begF
  split
  · unfold begC
    split
    · rfl
    · split
      · exact dt_65 _ _
      · split
        · exact pus_65 _ _
        · exact dt_65 _ _
  split
  · unfold begT
    split
    · rw [gi_sI, if_neg (by decide)]
    · rw [thr_65, gi_sI, if_neg (by decide)]
  split
  · unfold begS
    split
    · rw [gi_sI, if_neg (by decide)]
    · rw [st_65, gi_sI, if_neg (by decide)]
  split
  · unfold begI
    split
    · exact pus_65 _ _
    · split
      · rfl
      · exact pus_65 _ _
  split
  · unfold begW
    split
    · exact pus_65 _ _
    · rfl
  split
  · unfold begB
    rw [gi_sI, if_neg (by decide), gi_sI, if_neg (by decide)]
  split
  · rw [gi_sI, if_neg (by decide)]
  split
  · exact pus_65 _ _
  · rfl
/-- the steps stay, or grow by one -/
def G65 (r r' : RV) : Prop := gi r' 1465 = gi r 1465 ∨ (¬ gi r 1465 = 300 ∧ gi r' 1465 = gi r 1465 + 1)
theorem stp_65 (r : RV) : G65 r (stpW r) := by
  unfold stpW
  split
  · refine Or.inl ?_
    rw [gi_sI, if_pos rfl]; simp
  · rename_i z
    exact Or.inr ⟨z, by rw [gi_sI, if_pos rfl]⟩
theorem fin_65 (r : RV) (s : Nat) : gi (finF r s) 1465 = gi r 1465 := by
  unfold finF
  split
  · rfl
  · rw [pus_65, gi_sI, if_neg (by decide)]; rfl
theorem cl_65 (r : RV) (s : Nat) : gi (lvCl r w nk nm s) 1465 = gi r 1465 := by
  unfold lvCl
  have K : ∀ n (x : RV), gi (fdn (lvC1 r w nk nm s) n x) 1465 = gi x 1465 := by
    intro n
    induction n with
    | zero => intro x; rfl
    | succ n ih =>
      intro x
      show gi (fdn (lvC1 r w nk nm s) n (lvC1 r w nk nm s n x)) 1465 = _
      rw [ih]
      unfold lvC1
      split
      · rfl
      · exact dt_65 _ _
  exact K _ _
theorem lv_65 (r : RV) (b f : Nat) : G65 r (lvF r w nk nm b f) := by
  unfold lvF
  split
  · refine Or.inl ?_
    unfold lvLa
    generalize (if gi r 1466 = 3 then (0 : Int32) else gi r 1466) = x
    split
    · unfold lvL1
      split
      · rw [gi_sI, if_neg (by decide)]
      · rw [dt_65, gi_sI, if_neg (by decide)]
    · rw [gi_sI, if_neg (by decide)]
  split
  · unfold lvTu
    split
    · exact Or.inl (by rw [gi_sI, if_neg (by decide)])
    split
    · split
      · have := stp_65 r
        have e : gi (lvT1 (stpW r) (tn (ai r 41 b))) 1465 = gi (stpW r) 1465 := by
          unfold lvT1
          split
          · exact pus_65 _ _
          · split
            · exact pus_65 _ _
            · rfl
        unfold G65 at this ⊢
        rw [e]; exact this
      · exact stp_65 r
    · exact Or.inl rfl
  split
  · refine Or.inl ?_
    rw [← cl_65 (w := w) (nk := nk) (nm := nm) r (tn (ai r 41 b))]
    generalize lvCl r w nk nm (tn (ai r 41 b)) = r1
    unfold lvB1
    split
    · split
      · exact fin_65 _ _
      · rw [pus_65, gi_sI, if_neg (by decide)]; rfl
    · exact fin_65 _ _
  split
  · exact Or.inl (fin_65 _ _)
  split
  · refine Or.inl ?_
    unfold lvLs
    split
    · rw [gi_sI, if_neg (by decide), gi_sI, if_neg (by decide)]
    · rfl
  · exact Or.inl rfl
theorem ws_65 (r : RV) : G65 r (wsF r w nk nm) := by
  unfold wsF
  split
  · split
    · have := stp_65 (wsQ r)
      unfold G65 at this ⊢
      rw [beg_65]; exact this
    · exact stp_65 (wsQ r)
  · have := lv_65 (w := w) (nk := nk) (nm := nm) (wsP r) (wsB r) (fcN r - 1)
    unfold G65 at this ⊢
    rw [show gi (wsP r) 1465 = gi r 1465 by unfold wsP; rw [gi_sI, if_neg (by decide)]] at this
    exact this
end
theorem gw_65 {R : RV} : ∀ {r r' : RV} {k : Nat}, GW R r r' → gi r 1465 = nI k → k ≤ 300 → ∃ k', gi r' 1465 = nI k' ∧ k ≤ k' ∧ k' ≤ 300 := by
  intro r r' k ⟨n, g⟩
  revert r k
  induction n with
  | zero => intro r k g e l; rw [show r' = r from g]; exact ⟨k, e, Nat.le_refl _, l⟩
  | succ n ih =>
    intro r k g e l
    rcases ws_65 (w := wN R) (nk := nkN R) (nm := nmN R) r with z | ⟨y, z⟩
    · exact ih g.2.2 (z.trans e) l
    · have k3 : ¬ k = 300 := fun q => y (by rw [e, q]; rfl)
      obtain ⟨k', h1, h2, h3⟩ := ih (k := k + 1) g.2.2 (by rw [z, e, lt1, nI_add]) (by omega)
      exact ⟨k', h1, by omega, h3⟩
section
variable {d : Nat} {h0 h : AH} {Q : Option V → AH → Prop} {U V' e0 W : Nat} {R rB r : RV} {C L : Nat → Int32} {G : Nat → Nat → Nat} {fW par : Nat → Nat} {wk : Nat → Int64} {pk : Nat → Int32} {fS : Nat → Nat} {ks : List Nat} {dp : Nat → Nat} {D : Nat → Prop} {f j s m : Nat}
theorem go_loop (N : WEN h0 U V' e0 W R C L G fW par wk pk fS ks rB dp) (IH : GOB h0 W U R G rB dp m) (X : SCX R G j s) (hm : G 5 j - G 4 j ≤ m + 1) (A : AST h0 W U R G rB dp D f j h r) (e19 : ai R 19 s = 5 ∨ ai R 19 s = 6) (H : FIN h0 W U R G rB D f j s r Q) : wp (d + 8 * m + 26) K_X9_goOver 38 [] [(0, vr (some W)), (1, vr (some (G 0 s)))] h Q := by
  obtain ⟨T, K, n12, n120, n1024, w2⟩ := N.t
  obtain ⟨S, a1, a2, a3, a4, a5⟩ := A
  have hs := X.2.1
  obtain ⟨w1, w2', w3⟩ := N.w S
  have nk16 := K.2.1
  have KB : ∃ b, ai R 26 s = nI b ∧ oN (ai R 26 s) = some b ∧ b ∈ kids R s ∧ ai R 40 b = 4 ∧ tn (ai R 26 s) = b := by
    rcases e19 with z | z
    · exact kid_26 N hs (k := 5) z (by omega)
    · exact kid_26 N hs (k := 6) z (by omega)
  obtain ⟨b, q1, q2, q3, q4, q5⟩ := KB
  obtain ⟨k1, k2, k3, k4, k5, k6, k7, k8⟩ := kid_f N X.1 X.2.1 X.2.2.1 X.2.2.2.1 X.2.2.2.2 q3
  have s240 := T.2.2.2.2.1
  have s31 : s < 2 ^ 31 := by have := hs.2; omega
  have T1 : ∀ h1 r1, WKS h0 W U R G rB D h1 r1 → lvT1 r1 s = if ai R 19 s = 6 then pusF r1 b else if drwV r1 2 = 1 then pusF (drwF r1) b else drwF r1 := fun h1 r1 S1 => by
    have hg := N.hg S1
    unfold lvT1
    rw [(hg_s hg (q := 19) (by omega) hs n120).1, (hg_s hg (q := 26) (by omega) hs n120).1, q5]
  have eb : begF r (wN R) (nkN R) (nmN R) s = lvT1 r s := by
    have hg := N.hg S
    have r19 : ai r 19 s = ai R 19 s := (hg_s hg (q := 19) (by omega) hs n120).1
    rw [T1 h r S]
    rcases e19 with z | z
    · rw [begF_5 (by rw [r19]; exact z), if_neg (by rw [z]; decide)]
      unfold begW
      rw [(hg_s hg (q := 26) (by omega) hs n120).1, q5]
    · rw [begF_6 (by rw [r19]; exact z), if_pos z, (hg_s hg (q := 26) (by omega) hs n120).1, q5]
  unfold FIN at H
  rw [eb] at H
  -- the rounds
  have Lp : ∀ n h1 r1 t st, WKS h0 W U R G rB D h1 r1 → gi r1 1466 = 0 → gi r1 11468 = 0 → gi r1 1469 = nI (f + 1) → FRK (f + 1) r r1 → GW R (lvT1 r s) (lvT1 r1 s) → gi r1 1465 = nI st → t ≤ st → st ≤ 300 → 300 - st < n → wp (d + 8 * m + 25) K_X9_goRound 12 [] [(0, vr (some W)), (1, vr (some (G 0 s))), (2, vi (nI t))] h1 (fun v h1 => wp (d + 8 * m + 26) K_X9_goOver 41 (psh v []) [(0, vr (some W)), (1, vr (some (G 0 s)))] h1 Q) := by
    intro n
    induction n with
    | zero =>
      intro h1 r1 t st S1 c1 c2 c3 c4 c5 c6 c7 c8 c9
      exact absurd c9 (Nat.not_lt_zero _)
    | succ n ih =>
      intro h1 r1 t st S1 c1 c2 c3 c4 c5 c6 c7 c8 c9
      obtain ⟨SI, JS⟩ := N.si S1 hs
      have w1' := (N.w S1).1
      -- the body, from a state with the same frames
      have BODY : ∀ h2 r2, WKS h0 W U R G rB D h2 r2 → gi r2 1466 = 0 → gi r2 11468 = 0 → gi r2 1469 = nI (f + 1) → FRK (f + 1) r r2 → GW R (lvT1 r s) (pusF r2 b) → gi r2 1465 = nI st → wp (d + 8 * m + 25) K_X9_goRound 22 [] [(0, vr (some W)), (1, vr (some (G 0 s))), (2, vi (nI t))] h2 (fun v h1 => wp (d + 8 * m + 26) K_X9_goOver 41 (psh v []) [(0, vr (some W)), (1, vr (some (G 0 s)))] h1 Q) := fun h2 r2 S2 e1 e2 e3 e4 e5 e6 => by
        obtain ⟨SI2, JS2⟩ := N.si S2 hs
        rw [bk_X9_goRound_22, nn_some, SI2.2.2.2.2.2.1, q2]
        refine ⟨SI2.1.1, (N.w S2).1, ?_⟩
        refine wk_kid N IH X hm q3 S2 e1 e2 e3 a4 a5 (fun z => by rw [q4] at z; exact absurd z (by decide)) (fun z => by rw [q4] at z; exact absurd z (by decide)) (by omega) (fun h3 v r3 g3 S3 B3 => ?_)
        simp only [psh]
        rw [bk_X9_goRound_26]
        rcases B3 with B3 | B3
        · have ev := B3.1
          rw [ev]
          refine ⟨fun z => absurd z (by decide), fun _ => ?_⟩
          rw [bk_X9_goRound_30]
          refine ⟨fun _ => ?_, fun z => absurd (by decide) z⟩
          rw [bk_X9_goRound_35, bk_X9_goRound_36]
          simp only [psh]
          rw [bk_X9_goOver_41]
          rw [ev] at B3
          exact H h3 _ r3 (e5.tr g3) S3 (Or.inl B3)
        · have hg3 := N.hg S3
          have e40 : ai r3 40 b = 4 := by rw [hg_b hg3 (by omega) k7.1 k7.2 n1024]; exact q4
          have e41 : tn (ai r3 41 b) = s := by rw [hg_b hg3 (by omega) k7.1 k7.2 n1024, k3, tn_nI s31]
          have g4 := lv_turn N S3 k1 (show f + 1 < 15 by omega) B3 (fun z => by rw [q4] at z; exact absurd z (by decide)) (fun z => by rw [q4] at z; exact absurd z (by decide))
          rw [lvF_4 (show ai (sI r3 1469 (nI (f + 1))) 40 b = 4 from e40), show ai (sI r3 1469 (nI (f + 1))) 41 b = ai r3 41 b from rfl, e41] at g4
          obtain ⟨b1, b2, b3, b4, -, -, b5, b6, b7⟩ := B3
          have fk3 : FRK (f + 1) r r3 := e4.tr b3
          have S4 : WKS h0 W U R G rB D h3 (sI r3 1469 (nI (f + 1))) := S3.cg (KPW.rf.s _ (by decide)) rfl rfl (fun _ _ => rfl)
          have d6 : gi (sI r3 1469 (nI (f + 1))) 1466 = gi r3 1466 := by rw [gi_sI, if_neg (by decide)]
          have d7 : gi (sI r3 1469 (nI (f + 1))) 1467 = gi r3 1467 := by rw [gi_sI, if_neg (by decide)]
          have d8 : gi (sI r3 1469 (nI (f + 1))) 11468 = 0 := by rw [gi_sI, if_neg (by decide)]; exact b1
          have d9 : gi (sI r3 1469 (nI (f + 1))) 1469 = nI (f + 1) := by rw [gi_sI, if_pos rfl]
          have fk4 : FRK (f + 1) r (sI r3 1469 (nI (f + 1))) := fk3.cg (fun _ _ _ => rfl)
          obtain ⟨st3, u1, u2, u3⟩ := gw_65 g3 (by rw [pus_65]; exact e6) c8
          have u1' : gi (sI r3 1469 (nI (f + 1))) 1465 = nI st3 := by rw [gi_sI, if_neg (by decide)]; exact u1
          generalize sI r3 1469 (nI (f + 1)) = r4 at *
          unfold lvTu at g4
          rw [d6, d7] at g4
          rcases b5 with ⟨v1, v2⟩ | ⟨k, v1, v2, v3, v4⟩ | ⟨v1, v2, t', v3, v4⟩ | ⟨v1, v2⟩
          · -- once more
            rw [if_neg (by rw [v2]; exact fun z => absurd z.1 (by decide)), if_pos v2] at g4
            rw [v1]
            refine ⟨fun _ => ?_, fun z => absurd rfl z⟩
            rw [bk_X9_goRound_37]
            refine wp_cut 3 ?_
            show wp (d + 8 * m + 25) K_X9_goRound 2 [] [(0, vr (some W)), (1, vr (some (G 0 s))), (2, vi (nI t + 1))] h3 _
            rw [show nI t + 1 = nI (t + 1) by rw [lt1, nI_add]]
            have s465 : (okW r4 = false ↔ st3 = 300) := by
              unfold okW
              rw [u1']
              constructor
              · intro z
                have z := of_decide_eq_false z
                have z := Classical.not_not.mp z
                have := congrArg tn z
                rw [tn_nI (by omega)] at this
                exact this
              · intro z; rw [z]; rfl
            have ENDL : okW r4 = false → WKS h0 W U R G rB D h3 (stpW r4) → ¬ gi (stpW r4) 11468 = 0 → Q (some (vi (-2))) h3 := fun z S5 fl => by
              rw [if_neg (by rw [z]; decide)] at g4
              have e69 : gi (stpW r4) 1469 = nI (f + 1) := by
                unfold stpW; split <;> (rw [gi_sI, if_neg (by decide), gi_sI, if_neg (by decide)]; exact d9)
              exact H h3 _ _ (e5.tr (g3.tr g4)) S5 (Or.inl ⟨rfl, fl, f + 1, e69, by omega⟩)
            rw [bk_X9_goRound_2]
            refine ⟨fun z => ?_, fun z => ?_⟩
            · -- too many rounds
              rw [show (300 : Int32) = nI 300 from rfl, nI_ltI (by omega) (by omega)] at z
              have e3 : st3 = 300 := by omega
              have ok := s465.mpr e3
              rw [bk_X9_goRound_39]
              simp only [psh]
              rw [bk_X9_goOver_41]
              have es : stpW r4 = sI (sI r4 11468 1) 1465 (gi r4 1465 + 0) := by unfold stpW; rw [if_pos (by rw [u1', e3]; rfl)]
              refine ENDL ok (S4.cg KPW.rf.stp ?_ ?_ ?_) ?_
              · rw [es]; rfl
              · rw [es, gi_sI, if_pos rfl, u1', e3]; rfl
              · intro c _; rw [es]; rfl
              · rw [es, gi_sI, if_neg (by decide), gi_sI, if_pos rfl]; decide
            · rw [bk_X9_goRound_5]
              refine ⟨fun y => ?_, fun _ => ?_⟩
              · rw [show (0 : Int32) = nI 0 from rfl, nI_leI (by omega) (by omega)] at y
                omega
              · rw [bk_X9_goRound_7]
                refine ⟨(N.w S4).1, ?_⟩
                refine wk_beg N S4 (fun ok h5 S5 fl => ?_) (fun ok S5 fl => ?_)
                · simp only [psh]
                  rw [bk_X9_goRound_9]
                  refine ⟨fun _ => ?_, fun y => absurd (by decide) y⟩
                  rw [if_pos ok] at g4
                  have n3 : ¬ st3 = 300 := fun y => by rw [s465.mpr y] at ok; exact absurd ok (by decide)
                  have es : stpW r4 = sI (sI r4 11468 0) 1465 (gi r4 1465 + 1) := by
                    unfold stpW
                    rw [if_neg]
                    intro y
                    exact n3 (s465.mp (by unfold okW; rw [y]; rfl))
                  refine ih h5 (stpW r4) (t + 1) (st3 + 1) S5 ?_ fl ?_ (fk4.cg (fun _ _ _ => by rw [es]; rfl)) (e5.tr (g3.tr g4)) ?_ (by omega) (by omega) (by omega)
                  · rw [es, gi_sI, if_neg (by decide), gi_sI, if_neg (by decide), d6]; exact v2
                  · rw [es, gi_sI, if_neg (by decide), gi_sI, if_neg (by decide)]; exact d9
                  · rw [es, gi_sI, if_pos rfl, u1', lt1, nI_add]
                · simp only [psh]
                  rw [bk_X9_goRound_9]
                  refine ⟨fun y => absurd rfl y, fun _ => ?_⟩
                  rw [bk_X9_goRound_10]
                  simp only [psh]
                  rw [bk_X9_goOver_41]
                  exact ENDL ok S5 fl
          · -- thrown
            rw [if_neg (by rw [v3]; exact fun z => absurd z.1 (by decide)), if_neg (by rw [v3]; decide)] at g4
            rw [v1]
            refine ⟨fun z => absurd z (nI_ne_m1 (by omega)), fun _ => ?_⟩
            rw [bk_X9_goRound_30]
            have n4 : ¬ nI k = -4 := fun z => nI_pos (n := k) (by omega) (by rw [z]; decide)
            refine ⟨fun _ => ?_, fun z => absurd n4 z⟩
            rw [bk_X9_goRound_35, bk_X9_goRound_36]
            simp only [psh]
            rw [bk_X9_goOver_41]
            exact H h3 _ r4 (e5.tr (g3.tr g4)) S4 (Or.inr ⟨d8, d9, fk4, Or.inr (Or.inl ⟨k, rfl, v2, d6.trans v3, d7.trans v4⟩)⟩)
          · -- broken off
            have et : t' = s := by
              rw [tg_up T.2.2.2.1 k7.1 k7.2 k2, if_neg (by rw [q4]; decide), if_pos q4, k3, tn_nI s31] at v3
              exact (Option.some.inj v3).symm
            rw [et] at v4
            rw [if_pos ⟨v2, v4⟩] at g4
            rw [v1]
            refine ⟨fun z => absurd z (by decide), fun _ => ?_⟩
            rw [bk_X9_goRound_30]
            refine ⟨fun z => absurd rfl z, fun _ => ?_⟩
            rw [bk_X9_goRound_33, bk_X9_goRound_36]
            simp only [psh]
            rw [bk_X9_goOver_41]
            refine H h3 _ (sI r4 1466 0) (e5.tr (g3.tr g4)) (S4.cg (KPW.rf.s _ (by decide)) rfl rfl (fun _ _ => rfl)) (Or.inr ⟨?_, ?_, fk4.cg (fun _ _ _ => rfl), Or.inl ⟨rfl, by rw [gi_sI, if_pos rfl]⟩⟩)
            · rw [gi_sI, if_neg (by decide)]; exact d8
            · rw [gi_sI, if_neg (by decide)]; exact d9
          · -- returned
            rw [if_neg (by rw [v2]; exact fun z => absurd z.1 (by decide)), if_neg (by rw [v2]; decide)] at g4
            rw [v1]
            refine ⟨fun z => absurd z (by decide), fun _ => ?_⟩
            rw [bk_X9_goRound_30]
            refine ⟨fun _ => ?_, fun z => absurd (by decide) z⟩
            rw [bk_X9_goRound_35, bk_X9_goRound_36]
            simp only [psh]
            rw [bk_X9_goOver_41]
            exact H h3 _ r4 (e5.tr (g3.tr g4)) S4 (Or.inr ⟨d8, d9, fk4, Or.inr (Or.inr (Or.inr ⟨rfl, d6.trans v2⟩))⟩)
      rw [T1 h1 r1 S1] at c5
      rw [bk_X9_goRound_12, nn_some, SI.2.1.1]
      refine ⟨SI.1.1, fun z => ?_, fun z => ?_⟩
      · have z6 : ai R 19 s = 6 := by rcases e19 with y | y; exact absurd y z; exact y
        rw [if_pos z6] at c5
        exact BODY h1 r1 S1 c1 c2 c3 c4 c5 c6
      · have z5 := Classical.not_not.mp z
        rw [if_neg (by rw [z5]; decide)] at c5
        rw [bk_X9_goRound_16]
        refine ⟨w1', ?_⟩
        refine wk_draw N S1 (by decide) (by decide) (fun h2 S2 => ?_)
        simp only [psh]
        rw [bk_X9_goRound_19]
        obtain ⟨i, i1, i2⟩ := drw_j (gl r1 21464 * 6364136223846793005 + 1442695040888963407) (m := 2) (by omega) (by omega)
        have i2 : drwV r1 2 = nI i := i2
        refine ⟨fun y => ?_, fun y => ?_⟩
        · have e1 : drwV r1 2 = 1 := by
            rw [i2] at y ⊢
            rcases (show i = 0 ∨ i = 1 by omega) with x | x
            · rw [x] at y; exact absurd rfl y
            · rw [x]; rfl
          rw [if_pos e1] at c5
          exact BODY h2 (drwF r1) S2 c1 c2 c3 (c4.cg (fun _ _ _ => rfl)) c5 c6
        · have y := Classical.not_not.mp y
          rw [if_neg (by rw [y]; decide)] at c5
          rw [bk_X9_goRound_20]
          simp only [psh]
          rw [bk_X9_goOver_41]
          exact H h2 _ (drwF r1) c5 S2 (Or.inr ⟨c2, c3, c4.cg (fun _ _ _ => rfl), Or.inl ⟨rfl, c1⟩⟩)
  obtain ⟨st, u1, u2⟩ := S.2.2.1.2.2
  rw [bk_X9_goOver_38]
  refine ⟨w1, ?_⟩
  rw [bk_X9_goRound_0, bk_X9_goRound_2]
  refine ⟨fun z => absurd z (by decide), fun _ => ?_⟩
  rw [bk_X9_goRound_5]
  refine ⟨fun _ => ?_, fun z => absurd (by decide) z⟩
  exact Lp 301 h r 0 st S a1 a2 a3 FRK.rf GW.rf u1 (Nat.zero_le _) u2 (by omega)
end
