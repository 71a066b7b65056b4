/-! Walking: draws, what a method throws, what a parameter is set to -/
theorem drw_j (x : Int64) {m : Nat} (h1 : 1 ≤ m) (h2 : m ≤ 5) : ∃ j, j < m ∧ drwN x (nI m) = nI j := by
  unfold drwN
  have ey : ∃ u : Nat, u < 2 ^ 31 ∧ ((x.toUInt64 >>> ((Int32.toInt64 33).toUInt64 &&& Int64.toUInt64 63)).toInt64).toInt = (u : Int) := by
    have e : ((x.toUInt64 >>> ((Int32.toInt64 33).toUInt64 &&& Int64.toUInt64 63)).toInt64).toBitVec = x.toBitVec >>> 33 := rfl
    have l := x.toBitVec.isLt
    have n33 : (x.toBitVec >>> 33).toNat = x.toBitVec.toNat / 2 ^ 33 := by rw [BitVec.toNat_ushiftRight, Nat.shiftRight_eq_div_pow]
    refine ⟨x.toBitVec.toNat / 2 ^ 33, by omega, ?_⟩
    rw [← Int64.toInt_toBitVec, e, BitVec.toInt_eq_toNat_of_lt (by rw [n33]; omega), n33]
  generalize (x.toUInt64 >>> ((Int32.toInt64 33).toUInt64 &&& Int64.toUInt64 63)).toInt64 = y at *
  obtain ⟨u, u1, u2⟩ := ey
  have em : (Int32.toInt64 (nI m)).toInt = (m : Int) := by
    rcases (show m = 1 ∨ m = 2 ∨ m = 3 ∨ m = 4 ∨ m = 5 by omega) with z | z | z | z | z <;> subst z <;> rfl
  refine ⟨u % m, Nat.mod_lt _ h1, Int32.toInt_inj.mp ?_⟩
  have q1 : u % m < m := Nat.mod_lt _ h1
  have q2 : u / m * m + u % m = u := by rw [Nat.mul_comm]; exact Nat.div_add_mod u m
  have q3 : u / m ≤ u := Nat.div_le_self _ _
  have e1 : (y / Int32.toInt64 (nI m)).toInt = ((u / m : Nat) : Int) := by
    rw [Int64.toInt_div, u2, em, ← Int.ofNat_tdiv]
    clear q2
    generalize u / m = t at q3 ⊢
    exact Int.bmod_eq_of_le (by omega) (by omega)
  have e2 : (y / Int32.toInt64 (nI m) * Int32.toInt64 (nI m)).toInt = ((u / m * m : Nat) : Int) := by
    rw [Int64.toInt_mul, e1, em]
    show Int.bmod (((u / m * m : Nat)) : Int) (2 ^ 64) = _
    exact Int.bmod_eq_of_le (by omega) (by omega)
  rw [Int64.toInt_toInt32, Int64.toInt_sub, u2, e2, show (u : Int) - ((u / m * m : Nat) : Int) = ((u % m : Nat) : Int) by omega, Int.bmod_eq_of_le (m := 2 ^ 64) (by omega) (by omega), Int.bmod_eq_of_le (m := 2 ^ 32) (by omega) (by omega)]
  exact (Int32.toInt_ofNat_of_lt (by omega)).symm
theorem sub_z {a b : Int32} : a - b = 0 ↔ a = b := by
  constructor
  · intro h
    have : a - b + b = 0 + b := by rw [h]
    simpa using this
  · intro h; rw [h]; simp
theorem dts_is {r : RV} {w nk x j n0 : Nat} {mt : Nat → Option Nat} (hj : j < 100) (e : ∀ i, i < n0 → kN r w nk (al r 15 (4 * x + i)) (ai r 16 (4 * x + i)) = mt i) : ∀ m k (p : RV) c, k + m = n0 → c < 100 - m → (fup (dtS r w nk x) m k (p, nI j - nI c)).1 = (if gi p 1466 = 1 then p else match knV mt j m k c with
    | none => p
    | some q => thrW p (nI q)) := by
  intro m
  induction m with
  | zero => intro k p c _ _; show p = _; split <;> rfl
  | succ m ih =>
    intro k p c hk hc
    show (fup (dtS r w nk x) m (k + 1) (dtS r w nk x k (p, nI j - nI c))).1 = _
    have ek := e k (by omega)
    cases em : mt k with
    | none =>
      have e1 : dtS r w nk x k (p, nI j - nI c) = (p, nI j - nI c) := by
        unfold dtS; rw [ek, em]
        show (p, nI j - nI c - 0) = _
        simp
      rw [e1, ih (k + 1) p c (by omega) (by omega)]
      rw [show knV mt j (m + 1) k c = knV mt j m (k + 1) c by rw [knV, if_pos em]]
    | some q =>
      have es : nI j - nI c - 1 = nI j - nI (c + 1) := by
        rw [← nI_add, ← lt1]
        have : ∀ a b : Int32, a - b - 1 = a - (b + 1) := fun a b => by simp only [Int32.sub_eq_add_neg, Int32.add_assoc, Int32.neg_add]
        exact this _ _
      have e1 : dtS r w nk x k (p, nI j - nI c) = (if nI j - nI (c + 1) = 0 ∧ ¬ gi p 1466 = 1 then thrW p (nI q) else p, nI j - nI (c + 1)) := by
        unfold dtS; rw [ek, em]
        show (if nI j - nI c - 1 = 0 ∧ ¬ gi p 1466 = 1 then thrW p (nI q) else p, nI j - nI c - 1) = _
        rw [es]
      have ez : (nI j - nI (c + 1) = 0) ↔ c + 1 = j := by
        rw [sub_z, nI_eq (by omega) (by omega)]; omega
      have ekn : knV mt j (m + 1) k c = if c + 1 = j then some q else knV mt j m (k + 1) (c + 1) := by rw [knV, if_neg (by rw [em]; simp), em]
      by_cases m1 : gi p 1466 = 1
      · have hp : (if nI j - nI (c + 1) = 0 ∧ ¬ gi p 1466 = 1 then thrW p (nI q) else p) = p := if_neg (fun z => z.2 m1)
        rw [e1, hp, ih (k + 1) _ (c + 1) (by omega) (by omega), if_pos m1, if_pos m1]
      · by_cases cj : c + 1 = j
        · have hp : (if nI j - nI (c + 1) = 0 ∧ ¬ gi p 1466 = 1 then thrW p (nI q) else p) = thrW p (nI q) := if_pos ⟨ez.mpr cj, m1⟩
          rw [e1, hp, ih (k + 1) _ (c + 1) (by omega) (by omega), ekn, if_pos (by unfold thrW; rw [gi_sI, if_neg (by decide), gi_sI, if_pos rfl]), if_neg m1, if_pos cj]
        · have hp : (if nI j - nI (c + 1) = 0 ∧ ¬ gi p 1466 = 1 then thrW p (nI q) else p) = p := if_neg (fun z => cj (ez.mp z.1))
          rw [e1, hp, ih (k + 1) _ (c + 1) (by omega) (by omega), ekn, if_neg m1, if_neg m1, if_neg cj]
/-- what is drawn of a method -/
theorem dt_is {r : RV} {w nk x n : Nat} {mt : Nat → Option Nat} (hn : tn (ai r 14 x) = n) (n4 : n ≤ 4) (e : ∀ i, i < n → kN r w nk (al r 15 (4 * x + i)) (ai r 16 (4 * x + i)) = mt i) : ∃ j, j < 1 + knC mt n 0 0 ∧ knC mt n 0 0 ≤ n ∧ drwV r (nI (1 + knC mt n 0 0)) = nI j ∧ dtF r w nk x = (if gi r 1466 = 1 then drwF r else match knV mt j n 0 0 with
    | none => drwF r
    | some q => thrW (drwF r) (nI q)) := by
  have ec : knN r w nk x = knC mt n 0 0 := by
    unfold knN knC
    rw [hn]
    refine fup_cg n 0 0 (fun i c h1 h2 => ?_)
    rw [e i (by omega)]
    by_cases z : mt i = none
    · rw [if_pos z, if_pos z]; rfl
    · rw [if_neg z, if_neg z]
  have le := knN_le r w nk x n 0 0
  have le2 : knC mt n 0 0 ≤ n := by
    rw [← ec]; unfold knN; rw [hn]; omega
  obtain ⟨j, j1, j2⟩ := drw_j (gl r 21464 * 6364136223846793005 + 1442695040888963407) (m := 1 + knC mt n 0 0) (by omega) (by omega)
  refine ⟨j, j1, le2, j2, ?_⟩
  unfold dtF
  have e0 : drwV r (nI (1 + knN r w nk x)) = nI j - nI 0 := by
    rw [ec]
    show drwV r (nI (1 + knC mt n 0 0)) = nI j - 0
    rw [show drwV r (nI (1 + knC mt n 0 0)) = nI j from j2]
    simp
  rw [e0, hn, dts_is (mt := mt) (n0 := n) (by omega) e n 0 (drwF r) 0 (by omega) (by omega)]
  rfl
theorem knV_0 {mt : Nat → Option Nat} : ∀ m k c, knV mt 0 m k c = none := by
  intro m
  induction m with
  | zero => intro k c; rfl
  | succ m ih =>
    intro k c
    rw [knV]
    split
    · exact ih _ _
    · rw [if_neg (by omega)]; exact ih _ _
theorem knV_some {mt : Nat → Option Nat} {j : Nat} : ∀ m k c q, knV mt j m k c = some q → ∃ i, k ≤ i ∧ i < k + m ∧ mt i = some q := by
  intro m
  induction m with
  | zero => intro k c q e; cases e
  | succ m ih =>
    intro k c q e
    rw [knV] at e
    split at e
    · obtain ⟨i, h1, h2, h3⟩ := ih _ _ _ e; exact ⟨i, by omega, by omega, h3⟩
    · split at e
      · exact ⟨k, by omega, by omega, e⟩
      · obtain ⟨i, h1, h2, h3⟩ := ih _ _ _ e; exact ⟨i, by omega, by omega, h3⟩
theorem knV_1 {mt : Nat → Option Nat} : ∀ m k, knV mt 1 (m + 1) k 0 = match knV mt 1 m k 0 with
    | none => mt (k + m)
    | some q => some q := by
  intro m
  induction m with
  | zero =>
    intro k
    show knV mt 1 (0 + 1) k 0 = mt (k + 0)
    rw [knV]
    cases e : mt k with
    | none => rw [if_pos rfl]; rfl
    | some q => rw [if_neg (by simp), if_pos rfl]
  | succ m ih =>
    intro k
    rw [knV]
    rw [show knV mt 1 (m + 1) k 0 = (if mt k = none then knV mt 1 m (k + 1) 0 else if 0 + 1 = 1 then mt k else knV mt 1 m (k + 1) (0 + 1)) from rfl]
    cases e : mt k with
    | none => rw [if_pos rfl, if_pos rfl, ih (k + 1), show k + 1 + m = k + (m + 1) by omega]
    | some q => rw [if_neg (by simp), if_pos rfl, if_neg (by simp), if_pos rfl]
theorem knC_0 {mt : Nat → Option Nat} : ∀ m k c, knC mt m k c = c → knV mt 1 m k 0 = none := by
  intro m
  induction m with
  | zero => intro k c _; rfl
  | succ m ih =>
    intro k c e
    have e : knC mt m (k + 1) (if mt k = none then c else c + 1) = c := e
    have ge : ∀ m k c, c ≤ knC mt m k c := by
      intro m
      induction m with
      | zero => intro k c; exact Nat.le_refl _
      | succ m ih2 =>
        intro k c
        have := ih2 (k + 1) (if mt k = none then c else c + 1)
        show c ≤ knC mt m (k + 1) (if mt k = none then c else c + 1)
        split at this <;> rename_i z
        · rw [if_pos z]; exact this
        · rw [if_neg z]; omega
    by_cases z : mt k = none
    · rw [if_pos z] at e
      rw [knV, if_pos z]; exact ih _ _ e
    · rw [if_neg z] at e
      have := ge m (k + 1) (c + 1)
      omega
/-- a parameter is set -/
theorem st_is {r : RV} {w nk c n : Nat} {mt : Nat → Option Nat} (hn : tn (ai r 36 c) = n) (e : ∀ i, i < n → cgK r w nk c i = mt i) : (∀ q i, ¬ (q = 56 ∧ i = c) → ai (stF r w nk c) q i = ai r q i) ∧ al (stF r w nk c) = al r ∧ gi (stF r w nk c) = gi r ∧ gl (stF r w nk c) = gl r ∧ ai (stF r w nk c) 56 c = (match knV mt 1 n 0 0 with
    | none => ai r 56 c
    | some q => nI q) := by
  unfold stF
  rw [hn]
  have K : ∀ j (x : RV), j ≤ n → (∀ q i, ¬ (q = 56 ∧ i = c) → ai (fdn (fun i r' => match cgK r w nk c i with | none => tI r' 56 c (ai r' 56 c) | some x => tI r' 56 c (nI x)) j x) q i = ai x q i) ∧ al (fdn (fun i r' => match cgK r w nk c i with | none => tI r' 56 c (ai r' 56 c) | some x => tI r' 56 c (nI x)) j x) = al x ∧ gi (fdn (fun i r' => match cgK r w nk c i with | none => tI r' 56 c (ai r' 56 c) | some x => tI r' 56 c (nI x)) j x) = gi x ∧ gl (fdn (fun i r' => match cgK r w nk c i with | none => tI r' 56 c (ai r' 56 c) | some x => tI r' 56 c (nI x)) j x) = gl x ∧ ai (fdn (fun i r' => match cgK r w nk c i with | none => tI r' 56 c (ai r' 56 c) | some x => tI r' 56 c (nI x)) j x) 56 c = (match knV mt 1 j 0 0 with
      | none => ai x 56 c
      | some q => nI q) := by
    intro j
    induction j with
    | zero => intro x _; exact ⟨fun _ _ _ => rfl, rfl, rfl, rfl, rfl⟩
    | succ j ih =>
      intro x hj
      have ej := e j (by omega)
      have one : ∃ v, (match cgK r w nk c j with | none => tI x 56 c (ai x 56 c) | some y => tI x 56 c (nI y)) = tI x 56 c v ∧ v = (match mt j with | none => ai x 56 c | some y => nI y) := by
        rw [ej]
        cases mt j with
        | none => exact ⟨_, rfl, rfl⟩
        | some y => exact ⟨_, rfl, rfl⟩
      obtain ⟨v, v1, v2⟩ := one
      have es : fdn (fun i r' => match cgK r w nk c i with | none => tI r' 56 c (ai r' 56 c) | some x => tI r' 56 c (nI x)) (j + 1) x = fdn (fun i r' => match cgK r w nk c i with | none => tI r' 56 c (ai r' 56 c) | some x => tI r' 56 c (nI x)) j (tI x 56 c v) := by
        rw [← v1]; rfl
      rw [es]
      obtain ⟨i1, i2, i3, i4, i5⟩ := ih (tI x 56 c v) (by omega)
      refine ⟨fun q i hq => ?_, i2, i3, i4, ?_⟩
      · rw [i1 q i hq, ai_tI, if_neg hq]
      · rw [i5, knV_1, Nat.zero_add, ai_tI, if_pos ⟨rfl, rfl⟩, v2]
        cases knV mt 1 j 0 0 with
        | none => rfl
        | some q => rfl
  exact K n r (Nat.le_refl _)
