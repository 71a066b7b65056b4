/-! The two halves: a text that is wrong leaves the other half as it was -/
def HF (w q i : Nat) : Prop := ((q = 2 ∨ q = 8 ∨ q = 18 ∨ q = 39) ∧ i = w) ∨ ((3 ≤ q ∧ q ≤ 7) ∧ i / 16 = w) ∨ (((9 ≤ q ∧ q ≤ 14) ∨ q = 17) ∧ i / 12 = w) ∨ ((q = 15 ∨ q = 16) ∧ i / 48 = w) ∨ (((19 ≤ q ∧ q ≤ 29) ∨ q = 32 ∨ q = 47 ∨ q = 48) ∧ i / 120 = w) ∨ ((q = 30 ∨ q = 31 ∨ (33 ≤ q ∧ q ≤ 36)) ∧ i / 480 = w) ∨ ((q = 37 ∨ q = 38) ∧ i / 1920 = w) ∨ ((40 ≤ q ∧ q ≤ 45) ∧ i / 1024 = w) ∨ (49 ≤ q ∧ q ≤ 51)
def HAG (w : Nat) (r X : RV) : Prop := ∀ q i, HF w q i → ai r q i = ai X q i ∧ al r q i = al X q i
theorem HAG.rf {w : Nat} {r : RV} : HAG w r r := fun _ _ _ => ⟨rfl, rfl⟩
theorem HAG.tr {w : Nat} {r r1 r2 : RV} (a : HAG w r r1) (b : HAG w r1 r2) : HAG w r r2 := fun q i h => ⟨(a q i h).1.trans (b q i h).1, (a q i h).2.trans (b q i h).2⟩
theorem hag_turn {x : RV} {w : Nat} (A : RIL x) (ne : ¬ w = wN x) : HAG w (stpF x) x := by
  have W := ow_turn (RIL_pre A)
  have w2 := A.w2
  have eb : nbN x = wN x * 1024 + nbC x := rfl
  have er : rsN x = wN x * 120 + nsC x := rfl
  have ek : rkI x = wN x * 16 + nkN x := rfl
  have em : rmI x = wN x * 12 + nmN x := rfl
  have b2 := A.b.2.1
  have s2 := A.s
  have k2 : ai x 2 (wN x) = nI (nkN x) ∧ nkN x ≤ 16 := A.2.2.2.2.1.1
  have m2 : ai x 8 (wN x) = nI (nmN x) ∧ nmN x ≤ 12 := A.2.2.2.2.2.1
  intro q i hf
  refine W q i (fun h => ?_)
  have ow : ¬ gi x 1455 = 0 → (wN x * 1024 ≤ rsB x ∧ rsB x < nbN x) ∧ (¬ ai x 40 (rsB x) = 0 → wN x * 120 ≤ tn (ai x 41 (rsB x)) ∧ tn (ai x 41 (rsB x)) < wN x * 120 + 120) ∧ (¬ ai x 45 (rsB x) = -1 → wN x * 120 ≤ tn (ai x 45 (rsB x)) ∧ tn (ai x 45 (rsB x)) < wN x * 120 + 120) := fun d0 => by
    have dp := dN_pos A d0
    obtain ⟨o1, o2, o3, o4, o5⟩ := A.o (j := dN x - 1) (by omega)
    refine ⟨⟨o2, o3⟩, fun n => ?_, fun n => ?_⟩
    · rcases o4 with o4 | ⟨-, s, s1, s2', s3, -⟩
      · exact absurd o4.1 n
      · show wN x * 120 ≤ tn (ai x 41 (obN x (dN x - 1))) ∧ tn (ai x 41 (obN x (dN x - 1))) < _
        rw [s1, tn_nI (by omega)]
        omega
    · rcases o5 with o5 | ⟨e, e1, e2, e3, -⟩
      · exact absurd o5 n
      · show wN x * 120 ≤ tn (ai x 45 (obN x (dN x - 1))) ∧ tn (ai x 45 (obN x (dN x - 1))) < _
        rw [e1, tn_nI (by omega)]
        omega
  unfold HF at hf
  unfold AT at h
  rcases h with ⟨h1, h2⟩ | h | ⟨h1, h2, h3⟩ | ⟨d0, h⟩ | ⟨d0, d1, h⟩ | ⟨d0, d1, h⟩
  · omega
  · omega
  · omega
  · unfold ATo at h
    rcases h with ⟨-, ⟨h1, h2⟩ | ⟨h1, h2, n, h3⟩⟩ | ⟨-, ⟨h1, h2⟩ | ⟨h1, n, h2⟩ | ⟨h1, n, h2⟩⟩
    · omega
    · have : nkN x < 16 := by
        rcases Nat.lt_or_ge (nkN x) 16 with y | y
        · exact y
        · exact absurd (by rw [k2.1, show nkN x = 16 by omega]; rfl) n
      omega
    · omega
    · have : nmN x < 12 := by
        rcases Nat.lt_or_ge (nmN x) 12 with y | y
        · exact y
        · exact absurd (by rw [m2.1, show nmN x = 12 by omega]; rfl) n
      omega
    · have : nmN x < 12 := by
        rcases Nat.lt_or_ge (nmN x) 12 with y | y
        · exact y
        · exact absurd (by rw [m2.1, show nmN x = 12 by omega]; rfl) n
      omega
  · unfold ATs at h
    obtain ⟨n, h⟩ := h
    have : nsC x < 120 := by
      rcases Nat.lt_or_ge (nsC x) 120 with y | y
      · exact y
      · exact absurd (by rw [s2.1, show nsC x = 120 by omega]; rfl) n
    obtain ⟨o1, o2, o3⟩ := ow d0
    rcases h with ⟨h1, h2⟩ | ⟨h1, h2⟩ | ⟨h1, h2⟩ | ⟨h1, h2, h3⟩ | ⟨h1, h2⟩
    · omega
    · omega
    · omega
    · have := o3 h2; omega
    · omega
  · unfold ATi at h
    obtain ⟨n, h⟩ := h
    obtain ⟨o1, o2, o3⟩ := ow d0
    have := o2 n
    rcases h with ⟨h1, h2⟩ | ⟨-, ⟨h1, h2⟩ | ⟨h1, h2⟩⟩ | ⟨h1, h2, h3, h4⟩ | ⟨h1, h2, h3⟩
    · omega
    · omega
    · omega
    · omega
    · omega
theorem hag_go {w : Nat} : ∀ {n : Nat} {r r' : RV}, RIL r → ¬ w = wN r → goN n r r' → HAG w r' r ∧ gi r' 1402 = gi r 1402 := by
  intro n
  induction n with
  | zero => intro r r' A _ g; rw [show r' = r from g]; exact ⟨HAG.rf, rfl⟩
  | succ n ih =>
    intro r r' A ne g
    obtain ⟨hr, -, g⟩ := g
    have h1 := hag_turn (w := w) A ne
    have e02 : gi (stpF r) 1402 = gi r 1402 := gk_turn (Or.inr (Or.inl rfl))
    by_cases ok : gi (stpF r) 1452 = -1
    · obtain ⟨A1, O⟩ := turn A hr ok
      have ew : wN (stpF r) = wN r := by unfold wN; rw [e02]
      obtain ⟨i1, i2⟩ := ih A1 (by rw [ew]; exact ne) g
      exact ⟨i1.tr h1, i2.trans e02⟩
    · cases n with
      | zero => rw [show r' = stpF r from g]; exact ⟨h1, e02⟩
      | succ n => exact absurd g.1.1 ok
/-- what is cleared for a new text -/
theorem hag_rd {r : RV} {w n : Nat} (hn : gi r 1401 = nI n) (n2 : n ≤ 2000) (hw : w < 2) : HAG w (rdI r w) r := by
  obtain ⟨-, -, -, -, -, -, ea, el⟩ := rdY_v (w := w) hn n2
  intro q i hf
  rw [rd_is, ai_adv, al_adv, ea, el]
  have e : ∀ (r : RV), ai (sI (sI r 1448 (gi r 1401)) 1401 0) = ai r ∧ al (sI (sI r 1448 (gi r 1401)) 1401 0) = al r := fun r => ⟨rfl, rfl⟩
  unfold HF at hf
  unfold crF crK crN
  have n1 : ∀ (r : RV) k j (v : Int32), (k = 2 ∨ k = 8 ∨ k = 18 ∨ k = 39) → j = 1 - w → ai (tI r k j v) q i = ai r q i := fun r k j v hk hj => by
    rw [ai_tI, if_neg (by omega)]
  have n3 : ∀ (r : RV) k j (v : Int32), (k = 4 ∨ k = 5) → (1 - w) * 16 ≤ j → j < (1 - w) * 16 + 4 → ai (tI r k j v) q i = ai r q i := fun r k j v hk h1 h2 => by
    rw [ai_tI, if_neg (by omega)]
  have n4 : ∀ (r : RV) j (v : Int64), (1 - w) * 16 ≤ j → j < (1 - w) * 16 + 4 → al (tL r 3 j v) q i = al r q i := fun r j v h1 h2 => by
    rw [al_tL, if_neg (by omega)]
  refine ⟨?_, ?_⟩
  · rw [n3 _ 5 _ _ (by omega) (by omega) (by omega), n3 _ 4 _ _ (by omega) (by omega) (by omega), ai_tL, n3 _ 5 _ _ (by omega) (by omega) (by omega), n3 _ 4 _ _ (by omega) (by omega) (by omega), ai_tL, n3 _ 5 _ _ (by omega) (by omega) (by omega), n3 _ 4 _ _ (by omega) (by omega) (by omega), ai_tL, n3 _ 5 _ _ (by omega) (by omega) (by omega), n3 _ 4 _ _ (by omega) (by omega) (by omega), ai_tL, n1 _ 39 _ _ (by omega) rfl, n1 _ 18 _ _ (by omega) rfl, n1 _ 8 _ _ (by omega) rfl, n1 _ 2 _ _ (by omega) rfl]
    rfl
  · show al (tL _ 3 _ _) q i = _
    rw [n4 _ _ _ (by omega) (by omega)]
    show al (tL _ 3 _ _) q i = _
    rw [n4 _ _ _ (by omega) (by omega)]
    show al (tL _ 3 _ _) q i = _
    rw [n4 _ _ _ (by omega) (by omega)]
    show al (tL _ 3 _ _) q i = _
    rw [n4 _ _ _ (by omega) (by omega)]
    rfl
