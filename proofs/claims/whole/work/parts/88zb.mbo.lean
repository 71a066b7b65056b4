/-! Statements with more than one block: what is held of what was read -/
def DJ (R : RV) (G : Nat → Nat → Nat) (s0 s1 y : Nat) : Prop := ∀ s i, s0 ≤ s → s < s1 → i < tn (ai R 32 s) → G 2 (4 * s + i) + 4 < y ∨ y + 4 < G 2 (4 * s + i)
theorem AD.fc {h h' : AH} {U a z : Nat} {R : RV} {G : Nat → Nat → Nat} {E : Nat → Nat → Prop} {pe : Nat → Prop} {s0 s1 b0 b1 : Nat} (A : AD h U a z R G pe s0 s1 b0 b1) (x : FX E h h') (n : ∀ g y, a ≤ y → y < z → E g y → g = 90003 ∨ (g / 100 % 100 = 3 ∧ DJ R G s0 s1 y)) : AD h' U a z R G pe s0 s1 b0 b1 := by
  have A0 := A
  obtain ⟨a1, a2, a3, a4, a5⟩ := A
  refine A0.fo x (fun s f h1 h2 hf e => ?_) (fun s f y h1 h2 hn h3 h4 hf e => ?_) (fun s i f y h1 h2 hi h3 h4 hf e => ?_) (fun b f h1 h2 hf e => ?_)
  · have q5 := (a2 s h1 h2).2.2.2.2.1
    rcases n _ _ q5.1 q5.2 e with w | ⟨w, -⟩ <;> omega
  · have q6 := (a2 s h1 h2).2.2.2.2.2.1 hn
    rcases n _ _ (by omega) (by omega) e with w | ⟨w, -⟩ <;> omega
  · have q7 := (a2 s h1 h2).2.2.2.2.2.2 i hi
    rcases n _ _ (by omega) (by omega) e with w | ⟨w, dj⟩
    · omega
    · have := dj s i h1 h2 hi; omega
  · have q3 := (a3 b h1 h2).2.2.1
    rcases n _ _ q3.1 q3.2 e with w | ⟨w, -⟩ <;> omega
theorem AD.gc {h : AH} {U a z : Nat} {R : RV} {G G' : Nat → Nat → Nat} {pe : Nat → Prop} {s0 s1 b0 b1 : Nat} (A : AD h U a z R G pe s0 s1 b0 b1) (g : ((∀ s, s < s1 → G' 0 s = G 0 s) ∧ ∀ s, s0 ≤ s → s < s1 → G' 3 s = G 3 s ∧ G' 6 s = G 6 s) ∧ (∀ b, b0 ≤ b → b < b1 → G' 1 b = G 1 b ∧ G' 4 b = G 4 b ∧ G' 5 b = G 5 b) ∧ ∀ s c, s0 ≤ s → s < s1 → (prS R s = some c ∨ (cch R (tn (ai R 21 s))).head? = some c ∨ c / 4 = s) → G' 2 c = G 2 c) : AD h U a z R G' pe s0 s1 b0 b1 := by
  obtain ⟨a1, a2, a3, a4, a5⟩ := A
  refine ⟨a1, fun s h1 h2 => ?_, fun b h1 h2 => ?_, fun s t h1 h2 h3 => ?_, fun b c h1 h2 h3 => ?_⟩
  · obtain ⟨q1, ⟨q2, q3⟩, ⟨k1, k2, k3⟩, q4, q5, q6, q7⟩ := a2 s h1 h2
    have e0 := g.1.1 s h2
    obtain ⟨e3, e6⟩ := g.1.2 s h1 h2
    have kb : ∀ b, b ∈ kids R s → G' 1 b = G 1 b ∧ G' 4 b = G 4 b ∧ G' 5 b = G 5 b := fun b hb => g.2.1 b (k1 b hb).1 (k1 b hb).2
    have c2 : ∀ i, i < 4 → G' 2 (4 * s + i) = G 2 (4 * s + i) := fun i hi => g.2.2 s _ h1 h2 (Or.inr (Or.inr (by omega)))
    have i4 : ∀ i, i < tn (ai R 32 s) → i < 4 := fun i hi => by have := q4.2.1.2; omega
    rw [e0, e6]
    refine ⟨?_, ⟨fun p => ?_, q3⟩, ⟨k1, k2, k3⟩, ?_, q5, q6, fun i hi => ?_⟩
    · obtain ⟨w1, w2, w3, w4, w5, w6, w7, w8, w9, w10⟩ := q1
      unfold SFF
      rw [e0, e6]
      refine ⟨w1, w2, w3, w4, ?_, ?_, ?_, w8, ?_, w10⟩
      · rw [w5]
        split
        · exact om_cg (fun t ht => (g.2.2 s t h1 h2 (Or.inl ht)).symm)
        · rfl
      · rw [w6]; exact om_cg (fun t ht => (kb t (kid26 ht)).1.symm)
      · rw [w7]
        split
        · exact om_cg (fun t ht => (kb t (kid28 ht)).1.symm)
        · exact om_cg (fun t ht => (kb t (kid27 ht)).1.symm)
      · rw [w9]
        split
        · rw [show 4 * s = 4 * s + 0 by omega, c2 0 (by omega)]
        · rfl
    · obtain ⟨w1, w2⟩ := q2 p
      refine ⟨?_, w2⟩
      unfold NXF at w1 ⊢
      rw [e0, w1]
      exact om_cg (fun t ht => (g.1.1 t (w2 t ht)).symm)
    · obtain ⟨w1, w2, w3, w4, w5, w6⟩ := q4
      exact ⟨w1, w2, by rw [e3]; exact w3, by rw [e3]; exact CI.cg w4 (fun b hb => (kb b hb).2), w5, w6⟩
    · obtain ⟨w1, w2, w3⟩ := q7 i hi
      have ec := c2 i (i4 i hi)
      rw [ec]
      refine ⟨?_, w2, w3⟩
      obtain ⟨⟨v1, v2, v3, v4, v5, v6, v7⟩, u2, u3, u4⟩ := w1
      have d4 : (4 * s + i) / 4 = s := by have := i4 i hi; omega
      have m4 : (4 * s + i) % 4 = i := by have := i4 i hi; omega
      unfold CFF CFH
      rw [ec]
      refine ⟨⟨v1, v2, v3, v4, ?_, v6, v7⟩, ?_, ?_, ?_⟩
      · rw [v5]
        refine om_cg (fun t ht => (g.2.2 s t h1 h2 ?_).symm)
        rw [d4] at ht
        exact Or.inr (Or.inl ht)
      · rw [u2]
        refine om_cg (fun t ht => ?_)
        have := kid33 hi
        have e : tn (ai R 33 (4 * s + i)) = t := by
          unfold oN at ht
          split at ht
          · cases ht
          · cases ht; rfl
        rw [e] at this
        exact (kb t this).1.symm
      · rw [u3, d4, m4]
        split
        · rename_i hlt
          rw [show 4 * s + i + 1 = 4 * s + (i + 1) by omega, c2 (i + 1) (i4 _ hlt)]
        · rfl
      · rw [u4]
        obtain ⟨-, f1, f2⟩ := kb _ (kid33 hi)
        rw [f1, f2]
  · obtain ⟨⟨w1, w2, w3⟩, q2, q3, q4, q5⟩ := a3 b h1 h2
    obtain ⟨e1, e4, e5⟩ := g.2.1 b h1 h2
    rw [e1, e4, e5]
    refine ⟨?_, ?_, q3, q4, q5⟩
    · unfold BFF
      rw [e1]
      refine ⟨w1, w2, ?_⟩
      rw [w3]
      exact om_cg (fun t ht => (g.1.1 t (q5 t ht)).symm)
    · obtain ⟨v1, v2, v3, v4, v5⟩ := q2
      unfold WFB
      rw [e4, e5]
      refine ⟨v1, v2, v3, fun hl => ?_, fun s hs1 hs2 hs3 => ?_⟩
      · obtain ⟨u1, u2, e, u3, u4, u5, u6, u7⟩ := v4 hl
        exact ⟨u1, u2, e, u3, u4, u5, by rw [(g.1.2 e (by omega) (by omega)).1]; exact u6, u7⟩
      · rw [(g.1.2 s (by omega) (by omega)).1]
        exact v5 s hs1 hs2 hs3
  · obtain ⟨p1, p2⟩ := a4 s t h1 h2 h3
    rw [g.1.1 s (by omega), g.1.1 t (by omega), (g.1.2 s (by omega) (by omega)).2, (g.1.2 t (by omega) (by omega)).2]
    exact ⟨p1, p2⟩
  · rw [(g.2.1 b (by omega) (by omega)).1, (g.2.1 c (by omega) (by omega)).1]
    exact a5 b c h1 h2 h3
theorem CI.app {G : Nat → Nat → Nat} : ∀ {l l' : List Nat} {lo mid hi : Nat}, CI G lo l mid → CI G mid l' hi → CI G lo (l ++ l') hi := by
  intro l
  induction l with
  | nil => intro l' lo mid hi c d; rw [show lo = mid from c]; exact d
  | cons b l ih => intro l' lo mid hi c d; exact ⟨c.1, c.2.1, ih c.2.2 d⟩
/-- a statement's blocks so far, read to the end of the last one (rc); bs: the blocks, nc: how many catches -/
def MBO (h h4 h' : AH) (U : Nat) (R : RV) (G G' : Nat → Nat → Nat) (r rc : RV) (bs C ks4 ks' : List Nat) (fS' : Nat → Nat) (nc W : Nat) : Prop :=
  (GA (rsN r) (nbN r) G G' ∧ G' 0 (rsN r) = tp h) ∧ (∀ k, k < nsC rc → fS' k = G' 0 (wN r * 120 + k)) ∧ AD h' U (tp h4) (tp h') R G' (fun _ => False) (rsN r + 1) (rsN rc) (nbN r) (nbN rc) ∧ (CI G' (rsN r + 1) bs (rsN rc) ∧ ∀ b, b ∈ bs → nbN r ≤ b ∧ b < nbN rc) ∧
  (∀ c, c ∈ cch R (rsB r) → fI h' 10304 (G 2 c) = (if stR R (rsN r + 1) (rsN rc) c then 1 else fI h4 10304 (G 2 c))) ∧ CTK ks' (C ++ flr (mpS R) (rsN rc - (rsN r + 1)) (rsN r + 1)) ks4 ∧ sumN (wtS R) (rsN rc - (rsN r + 1)) (rsN r + 1) + 2 * (nbN rc - nbN r) + W + qN r ≤ qN rc ∧
  (∀ j, j < nc → DJ R G' (rsN r + 1) (rsN rc) (G' 2 (4 * rsN r + j))) ∧ PBO R r rc bs
section
variable {h h4 h1 h2 h' : AH} {U : Nat} {R r rc rd : RV} {G G1 G' : Nat → Nat → Nat} {bs C ks ks4 ks1 ks2 ks' : List Nat} {fS fS' : Nat → Nat} {nc W : Nat}
theorem mbo_1 {x : Nat} (BP : BPO h4 h' U R (fun q i => if q = 0 ∧ i = rsN r then tp h else G q i) G' (stpF r) rc (nbN r) x ks4 ks' fS') (er : rsN (stpF r) = rsN r + 1) (nb : nbN (stpF r) = nbN r + 1) (w : wN (stpF r) = wN r) (l1 : rsN r + 1 ≤ rsN rc) (l2 : nbN r + 1 ≤ nbN rc) (cc : cch R (nbN r) = cch R (rsB r)) (hq : qN r + 2 + W ≤ qN (stpF r)) (P : PBO R r rc [nbN r]) : MBO h h4 h' U R G G' r rc [nbN r] [] ks4 ks' fS' 0 W ∧ G' 1 (nbN r) = x := by
  obtain ⟨b1, b2, b3, ⟨b4, b5, b6⟩, b7, b8, b9⟩ := BP
  rw [er] at b1 b3 b5 b7 b8 b9
  rw [w] at b2
  refine ⟨⟨⟨⟨fun s hs => ⟨?_, ?_, ?_⟩, fun b hb => ⟨?_, ?_, ?_⟩, fun c hcc => ?_⟩, ?_⟩, b2, b3, ⟨⟨b5, by rw [b6]; exact l1, b6⟩, fun b m => ?_⟩, fun c m => ?_, ?_, by omega, fun j hj => by omega, P⟩, b4⟩
  · rw [(b1.1 s (by omega)).1]; simp [show ¬ s = rsN r by omega]
  · rw [(b1.1 s (by omega)).2.1]; simp
  · rw [(b1.1 s (by omega)).2.2]; simp
  · rw [(b1.2.1 b hb).1]; simp
  · rw [(b1.2.1 b hb).2.1]; simp
  · rw [(b1.2.1 b hb).2.2]; simp
  · rw [b1.2.2 c (by omega)]; simp
  · rw [(b1.1 (rsN r) (by omega)).1]; simp
  · have := List.mem_singleton.mp m; omega
  · have := b7 c (by rw [cc]; exact m)
    simp only [show ¬ (2 : Nat) = 0 by decide, false_and, if_false] at this
    exact this
  · rw [List.nil_append]; exact b8
/-- the heap changes -/
theorem mbo_fx {E : Nat → Nat → Prop} {C' : List Nat} (M : MBO h h4 h1 U R G G1 r rc bs C ks4 ks1 fS nc W) (X : FX E h1 h2) (nE : ∀ g y, tp h4 ≤ y → y < tp h1 → E g y → g = 90003 ∨ (g / 100 % 100 = 3 ∧ ∃ j, j < nc ∧ y = G1 2 (4 * rsN r + j))) (nS : ∀ c, c ∈ cch R (rsB r) → G 2 c < tp h1 ∧ ¬ E 10304 (G 2 c)) (ct : CTK ks2 C' ks1) (htp : tp h4 ≤ tp h1) : MBO h h4 h2 U R G G1 r rc bs (C ++ C') ks4 ks2 fS nc W := by
  obtain ⟨m1, m2, m3, m4, m5, m6, m7, m8, m9⟩ := M
  refine ⟨m1, m2, ?_, m4, fun c m => ?_, fun a => ?_, m7, m8, m9⟩
  · refine AD.wide (AD.fc m3 X (fun g y a1 a2 e => ?_)) (Nat.le_refl _) X.1 (Nat.le_refl _)
    rcases nE g y a1 a2 e with w | ⟨w, j, w1, w2⟩
    · exact Or.inl w
    · exact Or.inr ⟨w, by rw [w2]; exact m8 j w1⟩
  · obtain ⟨n1, n2⟩ := nS c m
    rw [X.fI n1 n2]; exact m5 c m
  · have e1 := ct a
    have e2 := m6 a
    simp only [List.count_append] at e2 ⊢
    omega
/-- a catch comes new -/
theorem mbo_new {y : Nat} (M : MBO h h4 h1 U R G G1 r rc bs C ks4 ks1 fS nc W) (hn : nc < 4) (hy : tp h1 ≤ y) (smb : nbN rc < 2 ^ 31) (no : ∀ q, nbN r ≤ q → q < nbN rc → ∀ c, c ∈ cch R q → c / 4 = rsN r → c % 4 < nc) : MBO h h4 h1 U R G (fun q i => if q = 2 ∧ i = 4 * rsN r + nc then y else G1 q i) r rc bs C ks4 ks1 fS (nc + 1) W := by
  obtain ⟨m1, m2, m3, m4, m5, m6, m7, m8, m9⟩ := M
  have g0 : ∀ q i, ¬ (q = 2 ∧ i = 4 * rsN r + nc) → (fun q i => if q = 2 ∧ i = 4 * rsN r + nc then y else G1 q i) q i = G1 q i := fun q i hq => if_neg hq
  have gy : (fun q i => if q = 2 ∧ i = 4 * rsN r + nc then y else G1 q i) 2 (4 * rsN r + nc) = y := if_pos ⟨rfl, rfl⟩
  generalize (fun q i => if q = 2 ∧ i = 4 * rsN r + nc then y else G1 q i) = G2 at *
  have c4 : ∀ s i, rsN r + 1 ≤ s → s < rsN rc → i < tn (ai R 32 s) → i < 4 := fun s i h1 h2 hi => by
    have := (m3.2.1 s h1 h2).2.2.2.1.2.1.2
    omega
  refine ⟨⟨⟨fun s hs => ?_, fun b hb => ?_, fun c hc => ?_⟩, ?_⟩, fun k hk => ?_, ?_, ⟨CI.cg m4.1 (fun b _ => ⟨g0 _ _ (fun z => absurd z.1 (by decide)), g0 _ _ (fun z => absurd z.1 (by decide))⟩), m4.2⟩, m5, m6, m7, fun j hj => ?_, m9⟩
  · rw [g0 0 s (fun z => absurd z.1 (by decide)), g0 3 s (fun z => absurd z.1 (by decide)), g0 6 s (fun z => absurd z.1 (by decide))]; exact m1.1.1 s hs
  · rw [g0 1 b (fun z => absurd z.1 (by decide)), g0 4 b (fun z => absurd z.1 (by decide)), g0 5 b (fun z => absurd z.1 (by decide))]; exact m1.1.2.1 b hb
  · rw [g0 2 c (fun z => by omega)]; exact m1.1.2.2 c hc
  · rw [g0 0 _ (fun z => absurd z.1 (by decide))]; exact m1.2
  · rw [g0 0 _ (fun z => absurd z.1 (by decide))]; exact m2 k hk
  · refine AD.gc m3 ⟨⟨fun s _ => g0 _ _ (fun z => absurd z.1 (by decide)), fun s _ _ => ⟨g0 _ _ (fun z => absurd z.1 (by decide)), g0 _ _ (fun z => absurd z.1 (by decide))⟩⟩, fun b _ _ => ⟨g0 _ _ (fun z => absurd z.1 (by decide)), g0 _ _ (fun z => absurd z.1 (by decide)), g0 _ _ (fun z => absurd z.1 (by decide))⟩, fun s c h1 h2 hh => g0 _ _ (fun z => ?_)⟩
    obtain ⟨j, e, j1, j2⟩ := m9.2 s h1 h2
    have j3 : j < 2 ^ 31 := by omega
    have w : c ∈ cch R j → False := fun m => by
      have := no j j1 j2 c m (by omega)
      omega
    rcases hh with hh | hh | hh
    · rw [prS_find e j3] at hh
      exact w (List.mem_of_find?_eq_some hh)
    · rw [e, tn_nI j3] at hh
      exact w (List.mem_of_mem_head? hh)
    · omega
  · by_cases z : j = nc
    · rw [z, gy]
      intro s i h1 h2 hi
      have i4 := c4 s i h1 h2 hi
      rw [g0 2 (4 * s + i) (fun w => by omega)]
      have := ((m3.2.1 s h1 h2).2.2.2.2.2.2 i hi).2.2
      exact Or.inl (by omega)
    · rw [g0 2 (4 * rsN r + j) (fun w => by omega)]
      intro s i h1 h2 hi
      have i4 := c4 s i h1 h2 hi
      rw [g0 2 (4 * s + i) (fun w => by omega)]
      exact m8 j (by omega) s i h1 h2 hi
/-- one block more -/
theorem mbo_step {T e0 x W' : Nat} {sc : List Nat} (M : MBO h h4 h2 U R G G1 r rc bs C ks4 ks2 fS nc W) (BP : BPO h2 h' U R G1 G' (stpF rc) rd (nbN rc) x ks2 ks' fS') (X : FX (EPa T U e0 sc) h2 h') (er : rsN (stpF rc) = rsN rc) (nb : nbN (stpF rc) = nbN rc + 1) (ew : wN (stpF rc) = wN r) (l1 : rsN r + 1 ≤ rsN rc) (l2 : nbN r ≤ nbN rc) (k1 : rsN rc ≤ rsN rd) (k2 : nbN rc + 1 ≤ nbN rd) (hs : ∀ a, a ∈ sc → tp h4 ≤ a → ∃ j, j < nc ∧ a = G1 2 (4 * rsN r + j)) (hT : T < U) (hU : U + 10 ≤ tp h4) (htp : tp h4 ≤ tp h2) (cc : ∀ c, c ∈ cch R (rsB r) → c ∈ cch R (nbN rc)) (hc : ∀ c, c ∈ cch R (rsB r) → c / 4 < rsN r) (hq : qN rc + 2 + W' ≤ qN (stpF rc)) (hn : nc ≤ 4) (cat : ∀ j, j < nc → G1 2 (4 * rsN r + j) + 4 < tp h2) (P : PBO R r rd (bs ++ [nbN rc])) : MBO h h4 h' U R G G' r rd (bs ++ [nbN rc]) C ks4 ks' fS' nc (W + W') ∧ G' 1 (nbN rc) = x ∧ (∀ q i, (q = 0 ∨ q = 2 ∨ q = 3 ∨ q = 6) → i < 4 * rsN r + 4 → (¬ q = 2 → i ≤ rsN r) → G' q i = G1 q i) ∧ (∀ b, b < nbN rc → G' 1 b = G1 1 b ∧ G' 4 b = G1 4 b ∧ G' 5 b = G1 5 b) ∧ G' 4 (nbN rc) = rsN rc ∧ G' 5 (nbN rc) = rsN rd := by
  obtain ⟨m1, m2, m3, m4, m5, m6, m7, m8, m9⟩ := M
  obtain ⟨b1, b2, b3, ⟨b4, b5, b6⟩, b7, b8, b9⟩ := BP
  rw [er] at b1 b3 b5 b7 b8 b9
  rw [ew] at b2
  have c4 : ∀ s i, rsN r + 1 ≤ s → s < rsN rc → i < tn (ai R 32 s) → i < 4 := fun s i h1 h2 hi => by
    have := (m3.2.1 s h1 h2).2.2.2.1.2.1.2
    omega
  have A1 : AD h' U (tp h4) (tp h2) R G' (fun _ => False) (rsN r + 1) (rsN rc) (nbN r) (nbN rc) := by
    refine AD.ga (AD.fc m3 X (fun g y a1 a2 e => ?_)) b1
    rcases EPa_is e with w | w | w | ⟨w, w2⟩ | w
    · omega
    · omega
    · exact Or.inl w.1
    · obtain ⟨j, j1, j2⟩ := hs y w a1
      exact Or.inr ⟨by omega, by rw [j2]; exact m8 j j1⟩
    · omega
  refine ⟨⟨⟨⟨fun s hs' => ?_, fun b hb => ?_, fun c hcc => ?_⟩, ?_⟩, b2, AD.app A1 b3 htp X.1 k1 l2 (by omega) l1, ⟨CI.app (CI.cg m4.1 (fun b m => (b1.2.1 b (m4.2 b m).2).2)) ⟨b5, by rw [b6]; exact k1, b6⟩, fun b m => ?_⟩, fun c m => ?_, fun a => ?_, ?_, fun j hj => ?_, P⟩, b4, fun q i hq hi hi2 => ?_, fun b hb => b1.2.1 b hb, b5, b6⟩
  · obtain ⟨p1, p2, p3⟩ := m1.1.1 s hs'
    obtain ⟨q1, q2, q3⟩ := b1.1 s (by omega)
    exact ⟨q1.trans p1, q2.trans p2, q3.trans p3⟩
  · obtain ⟨p1, p2, p3⟩ := m1.1.2.1 b hb
    obtain ⟨q1, q2, q3⟩ := b1.2.1 b (by omega)
    exact ⟨q1.trans p1, q2.trans p2, q3.trans p3⟩
  · rw [b1.2.2 c (by omega)]; exact m1.1.2.2 c hcc
  · rw [(b1.1 (rsN r) (by omega)).1]; exact m1.2
  · rw [List.mem_append] at m
    rcases m with m | m
    · have := m4.2 b m; omega
    · have := List.mem_singleton.mp m; omega
  · have e1 := b7 c (cc c m)
    rw [m1.1.2.2 c (hc c m)] at e1
    rw [e1, m5 c m, stR_add R c l1 k1]
    cases stR R (rsN r + 1) (rsN rc) c <;> cases stR R (rsN rc) (rsN rd) c <;> rfl
  · have e1 := b8 a
    have e2 := m6 a
    rw [show rsN rd - (rsN r + 1) = (rsN rc - (rsN r + 1)) + (rsN rd - rsN rc) by omega, flr_add, show rsN r + 1 + (rsN rc - (rsN r + 1)) = rsN rc by omega]
    simp only [List.count_append] at e2 ⊢
    omega
  · rw [show rsN rd - (rsN r + 1) = (rsN rc - (rsN r + 1)) + (rsN rd - rsN rc) by omega, sumN_add, show rsN r + 1 + (rsN rc - (rsN r + 1)) = rsN rc by omega]
    omega
  · have ej : G' 2 (4 * rsN r + j) = G1 2 (4 * rsN r + j) := b1.2.2 _ (by omega)
    rw [ej]
    intro s i h1 h2' hi
    by_cases y : s < rsN rc
    · have i4 := c4 s i h1 y hi
      rw [b1.2.2 (4 * s + i) (by omega)]
      exact m8 j hj s i h1 y hi
    · have := ((b3.2.1 s (by omega) h2').2.2.2.2.2.2 i hi).2.1
      have := cat j hj
      exact Or.inr (by omega)
  · rcases hq with rfl | rfl | rfl | rfl
    · exact (b1.1 i (by have := hi2 (by decide); omega)).1
    · exact b1.2.2 i (by omega)
    · exact (b1.1 i (by have := hi2 (by decide); omega)).2.1
    · exact (b1.1 i (by have := hi2 (by decide); omega)).2.2
/-- the statement at its end -/
theorem mb_fin {G2 : Nat → Nat → Nat} {C1 : List Nat} (A : RIL r) (hr : rng r) (d0 : 0 < dN r) (d1 : ¬ gi r 1451 = 125) (EN : ENR r R) (hc : ∀ c, c ∈ cch R (rsB r) → c / 4 < rsN r) (M : MBO h h4 h' U R G G' r rc bs C ks4 ks' fS' nc W) (ge : ∀ q i, ¬ (q = 6 ∧ i = rsN r) → G2 q i = G' q i) (l1 : rsN r + 1 ≤ rsN rc) (l2 : nbN r ≤ nbN rc) (htp : tp h < tp h4) (htp2 : tp h4 ≤ tp h') (S : SFF h' U R G2 (rsN r)) (nx : fP h' 30804 (tp h) = none) (kd : kids R (rsN r) = bs) (SH : SHP R (rsN r)) (Pl : PLS R (rsN r)) (v29 : cnt (ai R 29 (rsN r)) 4) (v32 : cnt (ai R 32 (rsN r)) 4) (h6 : hasN R (rsN r) → tp h < G2 6 (rsN r) ∧ G2 6 (rsN r) + 3 < tp h4) (hC : ∀ i, i < tn (ai R 32 (rsN r)) → CFF h' U R G2 (4 * rsN r + i) ∧ tp h ≤ G2 2 (4 * rsN r + i) ∧ G2 2 (4 * rsN r + i) + 4 < tp h')
    (w' : wN rd = wN rc) (ns' : nsC rd = nsC rc) (nb' : nbN rd = nbN rc) (hw : wtS R (rsN r) ≤ W) (qq : qN rc ≤ qN rd) (c1 : CTK ks4 C1 ks) (cm : ∀ a, List.count a C1 + List.count a C = List.count a (mpS R (rsN r))) (s1 : ∀ c, c ∈ cch R (rsB r) → fI h4 10304 (G 2 c) = fI h 10304 (G 2 c)) (n3 : ¬ ai R 19 (rsN r) = 3) : ∃ G'', DPO h h' U R G G'' r rd (tp h) ks ks' fS' := by
  obtain ⟨v20, v21, v22, ew, lb, FR, rl⟩ := st_vals A hr d0 d1 EN
  obtain ⟨m1, m2, m3, m4, m5, m6, m7, m8, m9⟩ := M
  have rs' : rsN rd = rsN rc := by
    have e1 : rsN rd = wN rd * 120 + nsC rd := rfl
    have e2 : rsN rc = wN rc * 120 + nsC rc := rfl
    rw [e1, e2, w', ns']
  have G0 : G2 0 (rsN r) = tp h := by
    rw [ge 0 _ (fun z => absurd z.1 (by decide))]; exact m1.2
  have A3 : AD h' U (tp h4) (tp h') R G2 (fun _ => False) (rsN r + 1) (rsN rc) (nbN r) (nbN rc) := m3.gb ⟨⟨fun s _ => ge _ _ (fun z => absurd z.1 (by decide)), fun s h1 _ => ⟨ge _ _ (fun z => absurd z.1 (by decide)), ge _ _ (fun z => by omega)⟩⟩, fun b _ _ => ⟨ge _ _ (fun z => absurd z.1 (by decide)), ge _ _ (fun z => absurd z.1 (by decide)), ge _ _ (fun z => absurd z.1 (by decide))⟩, fun c _ => ge _ _ (fun z => absurd z.1 (by decide))⟩
  have KK : (∀ b, b ∈ kids R (rsN r) → nbN r ≤ b ∧ b < nbN rc) ∧ (∀ c, prS R (rsN r) = some c → c / 4 < rsN r) ∧ ∀ c, (cch R (tn (ai R 21 (rsN r)))).head? = some c → c / 4 < rsN r := by
    refine ⟨fun b hbm => ?_, fun c hcm => ?_, fun c hcm => ?_⟩
    · rw [kd] at hbm; exact m4.2 b hbm
    · rw [prS_find v21 lb] at hcm
      exact hc c (List.mem_of_find?_eq_some hcm)
    · rw [v21, tn_nI lb] at hcm
      exact hc c (List.mem_of_mem_head? hcm)
  obtain ⟨G'', g0, g3, AD'⟩ := st_fin (a := tp h4) (z := tp h') (a' := tp h) (z' := tp h') A3 S (by rw [G0]; exact nx) KK ⟨v29, v32, by omega, by
      rw [kd]
      exact CI.cg m4.1 (fun b _ => ⟨ge 4 _ (fun z => absurd z.1 (by decide)), ge 5 _ (fun z => absurd z.1 (by decide))⟩), SH, Pl⟩ (by rw [G0]; omega) (fun z => by
      have := h6 z
      exact ⟨by omega, by omega, Or.inl (by omega)⟩) hC ⟨htp2, Nat.le_refl _, Nat.le_refl _⟩ l2
  have gg : ∀ q i, ¬ q = 3 → ¬ q = 6 → G'' q i = G' q i := fun q i h1 h2 => by
    rw [g0 q i (fun z => h1 z.1), ge q i (fun z => h2 z.1)]
  refine ⟨G'', ⟨fun s hs => ⟨?_, ?_, ?_⟩, fun b hb => ⟨?_, ?_, ?_⟩, fun c hcc => ?_⟩, fun k' hk' => ?_, ?_, ?_, ?_, fun c m => ?_, ?_, ?_⟩
  · rw [gg 0 s (by decide) (by decide)]; exact (m1.1.1 s hs).1
  · rw [g0 3 s (fun z => by omega), ge 3 s (fun z => absurd z.1 (by decide))]; exact (m1.1.1 s hs).2.1
  · rw [g0 6 s (fun z => absurd z.1 (by decide)), ge 6 s (fun z => by omega)]; exact (m1.1.1 s hs).2.2
  · rw [gg 1 b (by decide) (by decide)]; exact (m1.1.2.1 b hb).1
  · rw [gg 4 b (by decide) (by decide)]; exact (m1.1.2.1 b hb).2.1
  · rw [gg 5 b (by decide) (by decide)]; exact (m1.1.2.1 b hb).2.2
  · rw [gg 2 c (by decide) (by decide)]; exact m1.1.2.2 c hcc
  · rw [gg 0 _ (by decide) (by decide)]; exact m2 k' (by omega)
  · rw [rs', nb']; exact AD'
  · rw [rs']; exact g3
  · rw [g0 0 _ (fun z => absurd z.1 (by decide))]; exact G0.symm
  · rw [m5 c m, s1 c m, rs', stR_add R c (show rsN r ≤ rsN r + 1 by omega) l1, stR_one, decide_eq_false n3, Bool.false_and, Bool.false_or]
  · rw [rs', show rsN rc - rsN r = 1 + (rsN rc - (rsN r + 1)) by omega, flr_add]
    intro a
    have e1 := c1 a
    have e2 := m6 a
    have e4 := cm a
    rw [List.count_append, show flr (mpS R) 1 (rsN r) = mpS R (rsN r) ++ [] from rfl, List.append_nil]
    rw [List.count_append] at e2
    omega
  · rw [rs', nb', show rsN rc - rsN r = 1 + (rsN rc - (rsN r + 1)) by omega, sumN_add]
    rw [show sumN (wtS R) 1 (rsN r) = wtS R (rsN r) + 0 from rfl]
    omega
end
