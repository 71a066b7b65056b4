/-! try: what is held of its catches; the end -/
theorem CTN.fx {E : Nat → Nat → Prop} {h h' : AH} {U n b : Nat} {R r : RV} {G : Nat → Nat → Nat} (c : CTN h U R G r n b) (x : FX E h h') (hl : G 2 (4 * rsN r + n) + 4 < tp h) (no : ∀ f z, G 2 (4 * rsN r + n) ≤ z → z ≤ G 2 (4 * rsN r + n) + 4 → f / 100 % 100 = 3 ∨ f / 100 % 100 = 6 ∨ f = 90001 → ¬ f = 30306 → ¬ E f z) : CTN h' U R G r n b := by
  obtain ⟨c1, c2, c3, c4, c5⟩ := c
  refine ⟨c1.fx x (by omega) (fun f y h1 h2 h3 _ _ h4 => no f y h1 h2 h3 h4), c2, ?_, ?_, c5⟩
  · rw [x.fP (by omega) (no _ _ (by omega) (by omega) (by omega) (by omega))]; exact c3
  · rw [x.fI (by omega) (no _ _ (by omega) (by omega) (by omega) (by omega))]; exact c4
theorem CTN.cg {h : AH} {U n b : Nat} {R r : RV} {G G' : Nat → Nat → Nat} (c : CTN h U R G r n b) (hn : n < 4) (v21 : ai R 21 (rsN r) = nI (rsB r)) (lb : rsB r < 2 ^ 31) (e2 : G' 2 (4 * rsN r + n) = G 2 (4 * rsN r + n)) (eh : ∀ c, c ∈ cch R (rsB r) → G' 2 c = G 2 c) (eb : G' 1 b = G 1 b ∧ G' 4 b = G 4 b ∧ G' 5 b = G 5 b) : CTN h U R G' r n b := by
  obtain ⟨⟨u1, u2, u3, u4, u5, u6, u7⟩, c2, c3, c4, c5⟩ := c
  unfold CTN CFH
  rw [e2, eb.1, eb.2.1, eb.2.2]
  refine ⟨⟨u1, u2, u3, u4, ?_, u6, u7⟩, c2, c3, c4, c5⟩
  rw [u5, show (4 * rsN r + n) / 4 = rsN r by omega, v21, tn_nI lb]
  exact om_cg (fun t ht => (eh t (List.mem_of_mem_head? ht)).symm)
/-- the catches so far -/
def CTS (h h4 : AH) (U : Nat) (R : RV) (G : Nat → Nat → Nat) (r : RV) (n nb : Nat) : Prop := ∀ i, i < n → (∃ b, b < nb ∧ CTN h U R G r i b) ∧ fP h 30306 (G 2 (4 * rsN r + i)) = (if i + 1 < n then some (G 2 (4 * rsN r + (i + 1))) else none) ∧ (tp h4 ≤ G 2 (4 * rsN r + i) ∧ G 2 (4 * rsN r + i) + 4 < tp h) ∧ ∀ j, i < j → j < n → G 2 (4 * rsN r + i) + 4 < G 2 (4 * rsN r + j)
theorem CTS.fx {E : Nat → Nat → Prop} {h h' h4 : AH} {U n nb : Nat} {R r : RV} {G : Nat → Nat → Nat} (c : CTS h h4 U R G r n nb) (x : FX E h h') (no : ∀ f z, tp h4 ≤ z → z < tp h → f / 100 % 100 = 3 ∨ f / 100 % 100 = 6 ∨ f = 90001 → ¬ E f z) : CTS h' h4 U R G r n nb := fun i hi => by
  obtain ⟨⟨b, b1, b2⟩, c2, ⟨c3, c4⟩, c5⟩ := c i hi
  refine ⟨⟨b, b1, b2.fx x c4 (fun f z h1 h2 h3 _ => no f z (by omega) (by omega) h3)⟩, ?_, ⟨c3, by have := x.1; omega⟩, c5⟩
  rw [x.fP (by omega) (no _ _ (by omega) (by omega) (by omega))]; exact c2
theorem try_fin {h h4 h' : AH} {U D nm l : Nat} {R r rc rd X1 : RV} {G G' : Nat → Nat → Nat} {bs ks ks4 ks' : List Nat} {fS' : Nat → Nat} {u : Nat → Int64} {p : Nat → Option Nat} {x1 N n kn W : Nat} {y : Option Nat} (A : RIL r) (hr : rng r) (hD : dN r = D) (D0 : 0 < D) (d1 : ¬ gi r 1451 = 125) (EN : ENR r R) (hc : ∀ c, c ∈ cch R (rsB r) → c / 4 < rsN r) (hnm : nm = nmN r) (hl : l = lmB R (rsB r)) (M : MBO h h4 h' U R G G' r rc bs (flr (mpC R (rsN r)) n 0) ks4 ks' fS' n W) (OD : OPD r X1 D 5) (x19 : ai X1 19 (rsN r) = nI 9) (l1 : rsN r + 1 ≤ rsN rc) (l2 : nbN r ≤ nbN rc) (htp : tp h < tp h4) (htp2 : tp h4 ≤ tp h') (t9 : tg h' (tp h) = 9) (hU : U + 10 ≤ tp h) (F : FO h' 8 (tp h) (vS0 (nI 9) (gi r 1449) (nI nm - 1) (nI l)) u p) (pn : p 30804 = none ∧ p 30808 = none) (p9 : p 30809 = some x1) (p10 : p 30810 = y) (p11 : p 30811 = some N) (p12 : p 30812 = if 0 < n then some (G' 2 (4 * rsN r)) else none) (g1 : G' 1 (nbN r) = x1)
    (v28 : (ai R 28 (rsN r) = -1 ∧ y = none ∧ bs = nbN r :: (List.range n).map (fun i => tn (ai R 33 (4 * rsN r + i)))) ∨ (∃ b, ai R 28 (rsN r) = nI b ∧ BK R (rsN r) (nI b) 7 0 ∧ y = some (G' 1 b) ∧ bs = (nbN r :: (List.range n).map (fun i => tn (ai R 33 (4 * rsN r + i)))) ++ [b] ∧ b < nbN rc)) (smb : nbN rc < 2 ^ 31) (v27 : ai R 27 (rsN r) = -1) (v29 : ai R 29 (rsN r) = nI kn) (kn4 : kn ≤ 4) (v32 : ai R 32 (rsN r) = nI n) (n4 : n ≤ 4) (nd : ND h' N kn (fun i => conv (al R 30 (4 * rsN r + i))) (fun i => ai R 31 (4 * rsN r + i)) (fun _ => none)) (wv : ∀ i, i < kn → WV (al R 30 (4 * rsN r + i))) (pls : ∀ i, i < kn → plp (ai R 31 (4 * rsN r + i))) (hN : tp h < N ∧ N + 3 < tp h4) (nt : tg h' (N - 1) = 9 ∨ tg h' (N - 1) = 109) (ct : CTS h' h4 U R G' r n (nbN rc)) (hw : 2 * kn + sumN (wtC R (rsN r)) n 0 ≤ W) (pp : plp (gi r 1449)) (w' : wN rd = wN rc) (ns' : nsC rd = nsC rc) (nb' : nbN rd = nbN rc) (qq : qN rc ≤ qN rd) (c1 : CTK ks4 [] ks) (s1 : ∀ c, c ∈ cch R (rsB r) → fI h4 10304 (G 2 c) = fI h 10304 (G 2 c)) : ∃ G'', DPO h h' U R G G'' r rd (tp h) ks ks' fS' := by
  have d0 : 0 < dN r := by omega
  obtain ⟨v20, v21, v22, ew, lb, FR, rl⟩ := st_vals A hr d0 d1 EN
  have sm := small A
  obtain ⟨q1, q2, q3, q4, q5, q6, q7, q8, q9, q10, q11, q12⟩ := OD
  have v19 : ai R 19 (rsN r) = nI 9 := by
    rw [(FR.2.1 19 _ (by omega) rl).1, (q12 19 (by omega) (by omega)).1]; exact x19
  have v26 : ai R 26 (rsN r) = nI (nbN r) := by rw [(FR.2.1 26 _ (by omega) rl).1]; exact q11
  have i9 : ai R 19 (rsN r) = 9 := v19
  have n1 : ¬ ai R 19 (rsN r) = 1 := by rw [i9]; decide
  have n2 : ¬ ai R 19 (rsN r) = 2 := by rw [i9]; decide
  have n3 : ¬ ai R 19 (rsN r) = 3 := by rw [i9]; decide
  have n7 : ¬ ai R 19 (rsN r) = 7 := by rw [i9]; decide
  have t32 : tn (ai R 32 (rsN r)) = n := by rw [v32, tn_nI (by omega)]
  have t29 : tn (ai R 29 (rsN r)) = kn := by rw [v29, tn_nI (by omega)]
  have m0 : mpS R (rsN r) = flr (mpC R (rsN r)) n 0 := by
    rw [mpS_n v19 (by omega), if_neg (by omega), if_neg (by omega), if_neg (by omega), if_pos rfl, t32]
  have wt : wtS R (rsN r) = 2 * kn + sumN (wtC R (rsN r)) n 0 := by
    unfold wtS
    rw [t29, t32]
  have hb1 : nbN r < nbN (stpF r) := by omega
  have f40 : ∀ q, 40 ≤ q → q ≤ 43 → ai R q (nbN r) = ai (stpF r) q (nbN r) := fun q h1 h2 => FR.2.2.1 q _ h1 h2 hb1
  have B26 : BK R (rsN r) (ai R 26 (rsN r)) (rol 9) 0 := Or.inr ⟨nbN r, v26, by rw [ew]; exact Nat.le_add_right _ _, by have := FR.1.2.2.1; omega, by rw [f40 40 (by omega) (by omega), q8]; rfl, by rw [f40 41 (by omega) (by omega), q9], by rw [f40 42 (by omega) (by omega), q10]⟩
  have B28 : BK R (rsN r) (ai R 28 (rsN r)) 7 0 := by
    rcases v28 with ⟨z, -⟩ | ⟨b, z, z2, -⟩
    · exact Or.inl z
    · rw [z]; exact z2
  have kd : kids R (rsN r) = bs := by
    unfold kids
    rw [v26, v27, t32, oN_nI sm.2]
    rcases v28 with ⟨z, -, z3⟩ | ⟨b, z, -, -, z3, z4⟩
    · rw [z, z3, oN_m1]
      show [nbN r] ++ ([] ++ (_ ++ [])) = _
      rw [List.append_nil, List.nil_append]; rfl
    · rw [z, oN_nI (by omega), z3]; rfl
  have ge : ∀ q i, ¬ (q = 6 ∧ i = rsN r) → (fun q i => if q = 6 ∧ i = rsN r then N else G' q i) q i = G' q i := fun q i hq => if_neg hq
  have g6 : (fun q i => if q = 6 ∧ i = rsN r then N else G' q i) 6 (rsN r) = N := if_pos ⟨rfl, rfl⟩
  have G0 := M.1.2
  generalize (fun q i => if q = 6 ∧ i = rsN r then N else G' q i) = G2 at *
  have gf : ∀ q, ¬ q = 6 → G2 q = G' q := fun q hq => by funext i; exact ge q i (fun z => hq z.1)
  refine mb_fin (G2 := G2) (C1 := []) A hr d0 d1 EN hc M ge l1 l2 htp htp2 ?_ ?_ kd ⟨9, v19, by omega, B26, Or.inl v27, B28, fun i hi => ?_, fun _ => v27, fun z => absurd rfl z, fun _ => by rw [v26]; exact nI_ne_m1 sm.2, fun z => by omega, fun z => absurd rfl z⟩ ⟨by rw [v20]; exact pp, fun z => ?_, fun i hi => pls i (by omega), fun i hi => ?_⟩ (by rw [v29]; exact ⟨by rw [tn_nI (by omega)], by rw [tn_nI (by omega)]; exact kn4⟩) (by rw [v32]; exact ⟨by rw [tn_nI (by omega)], by rw [tn_nI (by omega)]; exact n4⟩) (fun _ => by rw [g6]; exact hN) (fun i hi => ?_) w' ns' nb' (by omega) qq c1 (fun a => by rw [m0]; simp) s1 n3
  · unfold SFF
    rw [gf 0 (by decide), gf 1 (by decide), gf 2 (by decide), g6, G0]
    have f := fun g hg => F g hg
    refine ⟨⟨hU, t9⟩, ⟨?_, ?_, ?_, ?_⟩, fun y => ?_, ?_, ?_, ?_, ?_, ?_, ?_, ?_⟩
    · rw [(f 800 (by decide)).1, v19]; rfl
    · rw [(f 801 (by decide)).1, v20]; rfl
    · rw [(f 802 (by decide)).1, v22, ← hnm]; rfl
    · rw [(f 803 (by decide)).1, v21, tn_nI lb, ← hl]; rfl
    · rcases y with y | y | y
      · exact absurd y n1
      · exact absurd y n2
      · exact absurd y n3
    · rw [(f 807 (by decide)).1, if_neg (fun y => n2 y.1)]; rfl
    · rw [(f 30808 (by decide)).2.2, if_neg]
      · exact pn.2
      · rintro (y | y)
        · exact n2 y
        · exact n3 y
    · rw [(f 30809 (by decide)).2.2, v26, oN_nI sm.2, p9, ← g1]; rfl
    · rw [(f 30810 (by decide)).2.2, if_pos i9, p10]
      rcases v28 with ⟨z, z2, -⟩ | ⟨b, z, -, z2, z3, z4⟩
      · rw [z, z2]; rfl
      · rw [z, oN_nI (by omega), z2]; rfl
    · rw [if_pos (Or.inl i9), t29]
      refine ⟨by rw [(f 30811 (by decide)).2.2]; exact p11, ?_, wv, fun _ => nt⟩
      exact nd.cg (fun i hi => ⟨rfl, rfl, by rw [if_pos i9]⟩)
    · rw [(f 30812 (by decide)).2.2, t32]; exact p12
    · exact ⟨by rw [(f 10813 (by decide)).1, decide_eq_false n7]; rfl, by rw [(f 814 (by decide)).1]; rfl⟩
  · rw [(F 30804 (by decide)).2.2]; exact pn.1
  · rw [t32] at hi
    obtain ⟨⟨b, b1, b2⟩, -⟩ := ct i hi
    obtain ⟨-, c2, -, -, -, c6⟩ := b2
    rw [c2]
    exact ⟨c6, nI_ne_m1 (by omega)⟩
  · rcases z with z | z | z
    · exact absurd z n1
    · exact absurd z n2
    · exact absurd z n3
  · rw [t32] at hi
    obtain ⟨⟨b, b1, b2⟩, -⟩ := ct i hi
    exact b2.2.2.2.2.1
  · rw [t32] at hi
    obtain ⟨⟨b, b1, b2⟩, c2, ⟨c3, c4⟩, c5⟩ := ct i hi
    obtain ⟨b3, b4, b5, b6, b7, b8⟩ := b2
    refine ⟨⟨?_, ?_, ?_, ?_⟩, ?_, ?_⟩
    · unfold CFH at b3 ⊢
      rw [gf 2 (by decide)]; exact b3
    · rw [gf 2 (by decide), gf 1 (by decide), b5, b4, oN_nI (by omega)]; rfl
    · rw [gf 2 (by decide), c2, show (4 * rsN r + i) % 4 = i by omega, show (4 * rsN r + i) / 4 = rsN r by omega, t32]; rfl
    · rw [gf 2 (by decide), gf 4 (by decide), gf 5 (by decide), b6, b4, tn_nI (by omega)]
    · rw [gf 2 (by decide)]; omega
    · rw [gf 2 (by decide)]; exact c4
