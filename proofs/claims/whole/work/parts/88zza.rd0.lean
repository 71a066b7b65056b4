/-! The reference's state when a text begins; its run ends -/
theorem cr_gi (r : RV) (w : Nat) {f : Nat} (h : ¬ f = 1402) : gi (crF r w) f = gi r f := by
  unfold crF crK crN
  simp only [gi_tI, gi_tL, gi_sI, if_neg h]
theorem cr_02 (r : RV) (w : Nat) : gi (crF r w) 1402 = nI w := by
  unfold crF crK crN
  simp only [gi_tI, gi_tL, gi_sI, if_true]
theorem cr_lo (r : RV) (w : Nat) {q : Nat} (h : ¬ q = 2 ∧ ¬ q = 8 ∧ ¬ q = 18 ∧ ¬ q = 39 ∧ ¬ q = 4 ∧ ¬ q = 5) : ai (crF r w) q = ai r q := by
  unfold crF crK crN
  rw [ai_ne h.2.2.2.2.2, ai_ne h.2.2.2.2.1, ai_tL, ai_ne h.2.2.2.2.2, ai_ne h.2.2.2.2.1, ai_tL, ai_ne h.2.2.2.2.2, ai_ne h.2.2.2.2.1, ai_tL, ai_ne h.2.2.2.2.2, ai_ne h.2.2.2.2.1, ai_tL, ai_ne h.2.2.2.1, ai_ne h.2.2.1, ai_ne h.2.1, ai_ne h.1]
  rfl
theorem cr_cnt (r : RV) (w : Nat) : ai (crF r w) 2 w = nI 4 ∧ ai (crF r w) 8 w = nI 0 ∧ ai (crF r w) 18 w = nI 0 ∧ ai (crF r w) 39 w = nI 0 := by
  have e : ∀ q, ¬ q = 4 → ¬ q = 5 → ai (crF r w) q = ai (crN r w) q := fun q h4 h5 => by
    unfold crF crK
    rw [ai_ne h5, ai_ne h4, ai_tL, ai_ne h5, ai_ne h4, ai_tL, ai_ne h5, ai_ne h4, ai_tL, ai_ne h5, ai_ne h4, ai_tL]
  rw [e 2 (by decide) (by decide), e 8 (by decide) (by decide), e 18 (by decide) (by decide), e 39 (by decide) (by decide)]
  unfold crN
  refine ⟨?_, ?_, ?_, ?_⟩
  · rw [ai_ne (by decide), ai_ne (by decide), ai_ne (by decide), ai_tI, if_pos ⟨rfl, rfl⟩]; rfl
  · rw [ai_ne (by decide), ai_ne (by decide), ai_tI, if_pos ⟨rfl, rfl⟩]; rfl
  · rw [ai_ne (by decide), ai_tI, if_pos ⟨rfl, rfl⟩]; rfl
  · rw [ai_tI, if_pos ⟨rfl, rfl⟩]; rfl
theorem cr_k (r : RV) (w k : Nat) (hk : k < 4) : al (crF r w) 3 (w * 16 + k) = bwS.getD k 0 ∧ ai (crF r w) 4 (w * 16 + k) = -1 ∧ ai (crF r w) 5 (w * 16 + k) = -1 := by
  unfold crF crK
  have : k = 0 ∨ k = 1 ∨ k = 2 ∨ k = 3 := by omega
  rcases this with e | e | e | e <;> subst e <;> simp [al_tI, al_tL, ai_tI, ai_tL, bwS]
/-- the state before the first token -/
def rdY (r : RV) (w : Nat) : RV := sI (sI (sI (crF (sI (sI r 1448 (gi r 1401)) 1401 0) (1 - w)) 1447 0) 1455 0) 1452 (-1)
theorem rd_is (r : RV) (w : Nat) : rdI r w = advF (rdY r w) := rfl
theorem rdY_v {r : RV} {w n : Nat} (hn : gi r 1401 = nI n) (n2 : n ≤ 2000) : PT (rdY r w) ∧ gi (rdY r w) 1447 = 0 ∧ gi (rdY r w) 1448 = nI n ∧ gi (rdY r w) 1452 = -1 ∧ gi (rdY r w) 1455 = 0 ∧ gi (rdY r w) 1402 = nI (1 - w) ∧ ai (rdY r w) = ai (crF (sI (sI r 1448 (gi r 1401)) 1401 0) (1 - w)) ∧ al (rdY r w) = al (crF (sI (sI r 1448 (gi r 1401)) 1401 0) (1 - w)) := by
  have g48 : gi (rdY r w) 1448 = nI n := by
    unfold rdY
    rw [gi_sI, if_neg (by decide), gi_sI, if_neg (by decide), gi_sI, if_neg (by decide), cr_gi _ _ (by decide), gi_sI, if_neg (by decide), gi_sI, if_pos rfl]
    exact hn
  have g47 : gi (rdY r w) 1447 = 0 := by
    unfold rdY
    rw [gi_sI, if_neg (by decide), gi_sI, if_neg (by decide), gi_sI, if_pos rfl]
  refine ⟨⟨0, n, g47, g48, by omega, n2⟩, g47, g48, ?_, ?_, ?_, rfl, rfl⟩
  · unfold rdY; rw [gi_sI, if_pos rfl]
  · unfold rdY; rw [gi_sI, if_neg (by decide), gi_sI, if_pos rfl]
  · unfold rdY; rw [gi_sI, if_neg (by decide), gi_sI, if_neg (by decide), gi_sI, if_neg (by decide), cr_02]
theorem ril_0 {r : RV} {w n : Nat} (hn : gi r 1401 = nI n) (n2 : n ≤ 2000) (hw : w < 2) : RIL (rdI r w) ∧ gi (rdI r w) 1452 = -1 ∧ dN (rdI r w) = 0 ∧ wN (rdI r w) = 1 - w ∧ nkN (rdI r w) = 4 ∧ nmN (rdI r w) = 0 ∧ nsC (rdI r w) = 0 ∧ nbC (rdI r w) = 0 ∧ tn (gi (rdI r w) 1448) = n ∧ ai (rdI r w) 1 = ai r 1 ∧ ∀ k, k < 4 → al (rdI r w) 3 ((1 - w) * 16 + k) = bwS.getD k 0 ∧ ai (rdI r w) 4 ((1 - w) * 16 + k) = -1 ∧ ai (rdI r w) 5 ((1 - w) * 16 + k) = -1 := by
  obtain ⟨P, g47, g48, g52, g55, g02, ea, el⟩ := rdY_v (w := w) hn n2
  rw [rd_is]
  have wv : wN (advF (rdY r w)) = 1 - w := by unfold wN; rw [gi_adv, g02, tn_nI (by omega)]
  have a0 : ai (advF (rdY r w)) = ai (crF (sI (sI r 1448 (gi r 1401)) 1401 0) (1 - w)) := by rw [ai_adv, ea]
  have l0 : al (advF (rdY r w)) = al (crF (sI (sI r 1448 (gi r 1401)) 1401 0) (1 - w)) := by rw [al_adv, el]
  obtain ⟨c2, c8, c18, c39⟩ := cr_cnt (sI (sI r 1448 (gi r 1401)) 1401 0) (1 - w)
  rw [← a0] at c2 c8 c18 c39
  have d0 : dN (advF (rdY r w)) = 0 := by unfold dN; rw [gi_adv, g55]; rfl
  have b0 : nbC (advF (rdY r w)) = 0 := by unfold nbC; rw [wv, c39]; rfl
  refine ⟨⟨RT_adv P, ⟨by rw [gi_adv, g02, wv], by rw [wv]; omega⟩, ⟨by rw [wv, c39]; exact ⟨rfl, by decide⟩, by omega⟩, by rw [gi_adv, g55]; exact ⟨rfl, by decide⟩, ⟨by rw [wv, c2]; exact ⟨rfl, by decide⟩, by rw [wv, c2]; decide⟩, by rw [wv, c8]; exact ⟨rfl, by decide⟩, by rw [wv, c18]; exact ⟨rfl, by decide⟩, fun j hj => by omega, fun i j _ hj => by omega⟩, by rw [gi_adv]; exact g52, d0, wv, ?_, ?_, ?_, b0, by rw [gi_adv, g48, tn_nI (by omega)], ?_, fun k hk => ?_⟩
  · unfold nkN; rw [wv, c2]; rfl
  · unfold nmN; rw [wv, c8]; rfl
  · unfold nsC; rw [wv, c18]; rfl
  · rw [a0, cr_lo _ _ (by decide)]; rfl
  · rw [a0, l0]; exact cr_k _ _ k hk
/-- the run ends -/
theorem run_ends : ∀ m r, RIL r → gi r 1452 = -1 → 2001 ≤ qN r + m → ∃ n R, goN n r R ∧ ¬ rng R := by
  intro m
  induction m with
  | zero => intro r A _ h; have := A.q.2.1; omega
  | succ m ih =>
    intro r A er h
    by_cases hr : rng r
    · by_cases ok : gi (stpF r) 1452 = -1
      · obtain ⟨A1, O⟩ := turn A hr ok
        obtain ⟨n, R, g, e⟩ := ih (stpF r) A1 ok (by have := O.2.2.1; omega)
        exact ⟨n + 1, R, ⟨hr, RIL_pre A, g⟩, e⟩
      · exact ⟨1, stpF r, ⟨hr, RIL_pre A, rfl⟩, fun z => ok z.1⟩
    · exact ⟨0, r, rfl, hr⟩
theorem run_det : ∀ {n m : Nat} {r R R' : RV}, goN n r R → ¬ rng R → goN m r R' → ¬ rng R' → R = R' ∧ n = m := by
  intro n
  induction n with
  | zero =>
    intro m r R R' a e b e'
    cases m with
    | zero => exact ⟨(show R = r from a).trans (show R' = r from b).symm, rfl⟩
    | succ m =>
      rw [show R = r from a] at e
      exact absurd b.1 e
  | succ n ih =>
    intro m r R R' a e b e'
    cases m with
    | zero =>
      rw [show R' = r from b] at e'
      exact absurd a.1 e'
    | succ m =>
      obtain ⟨i1, i2⟩ := ih a.2.2 e b.2.2 e'
      exact ⟨i1, by omega⟩
theorem WV_bw : ∀ k, k < 4 → WV (bwS.getD k 0) := by
  have e : ∀ k, k < 4 → vdB 8 (([6384748, 482854660462, 465726042981, 435711799154] : List Nat).getD k 0) = true ∧ bwS.getD k 0 = lN (([6384748, 482854660462, 465726042981, 435711799154] : List Nat).getD k 0) := by decide +kernel
  intro k hk
  exact ⟨_, vdB_vd 8 _ (e k hk).1, (e k hk).2⟩
