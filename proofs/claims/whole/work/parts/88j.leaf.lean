/-! Statements without blocks -/
/-- a statement of sort k, from where it stands in its list -/
def SC (D k : Nat) : Prop := ∀ (d : Nat) (h h3 : AH) (Q : Option V → AH → Prop) (T U e0 l : Nat) (il : Bool) (so : Option Nat) (sc : List Nat) (r R : RV) (nk : Nat) (par : Nat → Nat) (wk : Nat → Int64) (pk : Nat → Int32) (nm : Nat) (fW : Nat → Nat) (fS : Nat → Nat) (ks : List Nat) (B B0 : Nat) (G : Nat → Nat → Nat),
  20 * (9 - D) + 10 ≤ d → RIL r → rng r → dN r = D → 0 < D → ¬ gi r 1451 = 125 → l ≤ D → CHN h3 U sc so → (∀ a, a ∈ sc → a + 1 < tp h ∧ U + 10 ≤ a) → KD h3 (U + 1) nk par wk pk → srt r = some k → nsC r < 120 → ES h3 T U e0 1 r D l il so → LST h3 U e0 nm fW (nsC r + 1) (up1 fS (nsC r) (tp h)) ks B → U + 10 ≤ tp h → FX (ENL U e0 (tp h)) h h3 → tg h3 (tp h) = 9 → (tp h < tp h3 ∧ (tg h3 (tp h3 - 1) = 9 ∨ tg h3 (tp h3 - 1) = 109)) → FO h3 8 (tp h) (vS0 (nI k) (gi r 1449) (nI nm - 1) (nI l)) (fun _ => 0) (fun _ => none) → B0 ≤ B + 1 + 3 * qN r → 3 * tn (gi r 1448) + 100 ≤ B0 → (ENR r R → DPR h3 R G r (rsB r) sc l il nk wk nm (nsC r) fS) →
  (∀ h' r' ks' B' ns' fS' n, goK D n (stpF r) r' → ES h' T U e0 1 r' D l il so → FX (EPa T U e0 sc) h h' → LST h' U e0 nm fW ns' fS' ks' B' → (∀ k, k < nsC r → fS' k = fS k) → (gi r' 1452 = -1 → ns' = nsC r' ∧ nsC r < ns' ∧ B0 ≤ B' + 3 * qN r' ∧ dN r' = D) → (¬ gi r' 1452 = -1 → B0 + D ≤ B' + 3 * tn (gi r 1448) + 20) → (tg h' (tp h) = 9 ∧ tp h < tp h') → (ENR r R → ENR r' R ∧ ∃ G', DPO h h' U R G G' r r' (tp h) ks ks' fS') → Q (some (vr (some (tp h)))) h') →
  wp d K_X5_takeStatement (if k = 11 then 41 else 47) [] [(0, vr (some (U + 9))), (1, vi (nI k)), (2, vr (some (tp h)))] h3 Q
theorem st_sw {d a k : Nat} {x2 : Option Nat} {h : AH} {Q : Option V → AH → Prop} (hk : k ≤ 10) (H : wp d K_X5_takeStatement (if k = 0 then 80 else swAt [68, 68, 68, 52, 57, 57, 72, 80, 63, 76] (k - 1) 80) [] [(0, vr (some a)), (1, vi (nI k)), (2, vr x2)] h Q) : wp d K_X5_takeStatement 50 [] [(0, vr (some a)), (1, vi (nI k)), (2, vr x2)] h Q := by
  rw [bk_X5_takeStatement_50]
  refine ⟨fun z => ?_, fun j hj z => ?_⟩
  · have : k = 0 := by
      rcases z with z | z
      · rw [lt1, nI_ltI (by omega) (by omega)] at z; omega
      · rw [show (1 + Int32.ofNat 10 : Int32) = nI 11 from rfl, nI_leI (by omega) (by omega)] at z; omega
    rw [if_pos this] at H; exact H
  · have e : (1 + Int32.ofNat j : Int32) = nI (j + 1) := by
      show (1 : Int32) + nI j = _
      rw [lt1, nI_add, Nat.add_comm]
    rw [e] at z
    have := congrArg tn z
    rw [tn_nI (by omega), tn_nI (by omega)] at this
    rw [if_neg (by omega), show k - 1 = j by omega] at H
    exact H
/-- since h: tokens, lists, new things; no set -/
def ENX (T U e0 b g y : Nat) : Prop := EPW T U g y ∨ ENL U e0 b g y
theorem ENX_en {T U e0 b : Nat} {sc : List Nat} {h h' : AH} (x : FX (ENX T U e0 b) h h') : FX (EPn T U e0 b sc) h h' := x.mono (fun g y z => by
  rcases z with z | z | z
  · exact Or.inl (EPW_a z)
  · exact Or.inl (Or.inr (Or.inl z))
  · exact Or.inr z)
theorem ENX_set {T U e0 b y : Nat} (hy : y < b) : ¬ ENX T U e0 b 10304 y := fun z => by
  rcases z with z | (z | z) | z
  · exact EPW_no (by omega) z
  · omega
  · omega
  · omega
theorem srt_kw {r : RV} {k : Nat} (h : srt r = some k) (hk : ¬ k = 11) : tkn r = k ∧ k ≤ 10 := by
  unfold srt at h
  split at h
  · cases h; exact absurd rfl hk
  · split at h
    · cases h; exact ⟨rfl, by omega⟩
    · cases h
theorem srt_11 {r : RV} (h : srt r = some 11) : tkn r = 20 := by
  unfold srt at h
  split at h
  · assumption
  · split at h
    · have := Option.some.inj h; omega
    · cases h
/-- a statement without blocks, at the end -/
theorem leaf_dpo {h h' : AH} {U : Nat} {R r : RV} {G : Nat → Nat → Nat} {ks ks' : List Nat} {fS fS' : Nat → Nat} (A : RIL r) (hr : rng r) (d0 : 0 < dN r) (d1 : ¬ gi r 1451 = 125) (E : ENR r R) (hb : nbN (stpF r) = nbN r) (hc : ∀ c, c ∈ cch R (rsB r) → c / 4 < rsN r) (hf : ∀ k, k < nsC r → fS k = G 0 (wN r * 120 + k)) (hf' : fS' = up1 fS (nsC r) (tp h))
    (S : SFF h' U R (fun q i => if q = 0 ∧ i = rsN r then tp h else G q i) (rsN r)) (nx : fP h' 30804 (tp h) = none) (htp : tp h < tp h')
    (v : ai R 26 (rsN r) = -1 ∧ ai R 27 (rsN r) = -1 ∧ ai R 28 (rsN r) = -1 ∧ ai R 29 (rsN r) = nI 0 ∧ ai R 32 (rsN r) = nI 0) {k : Nat} (hk : ai R 19 (rsN r) = nI k) (hk2 : k = 0 ∨ k = 1 ∨ k = 2 ∨ k = 3 ∨ k = 7 ∨ k = 8) (P : PLS R (rsN r))
    (sets : ∀ c, c ∈ cch R (rsB r) → fI h' 10304 (G 2 c) = (if stR R (rsN r) (rsN r + 1) c then 1 else fI h 10304 (G 2 c))) (ct : CTK ks' (mpS R (rsN r)) ks) : ∃ G', DPO h h' U R G G' r (stpF r) (tp h) ks ks' fS' := by
  obtain ⟨v20, v21, v22, ew, lb, FR, rl⟩ := st_vals A hr d0 d1 E
  have ok1 := (E.step hr).right
  obtain ⟨A1, O⟩ := turn A hr ok1
  obtain ⟨o1, o2, o3, ⟨o4, o4'⟩, -⟩ := O
  have rs : rsN (stpF r) = rsN r + 1 := by omega
  have sm := small A
  obtain ⟨v26, v27, v28, v29, v32⟩ := v
  have kd : kids R (rsN r) = [] := by
    unfold kids
    rw [v26, v27, v28, v32]
    rfl
  have c0 : tn (ai R 32 (rsN r)) = 0 := by rw [v32]; rfl
  have c9 : tn (ai R 29 (rsN r)) = 0 := by rw [v29]; rfl
  have noN : ¬ hasN R (rsN r) := fun z => by
    rcases z with z | z
    · rw [hk] at z
      have := congrArg tn z
      rw [tn_nI (by omega)] at this
      have : k = 9 := this
      omega
    · rw [hk] at z
      have := congrArg tn z
      rw [tn_nI (by omega)] at this
      have : k = 10 := this
      omega
  have bk : ∀ v role num, v = -1 → BK R (rsN r) v role num := fun v role num e => Or.inl e
  have KK : (∀ b, b ∈ kids R (rsN r) → nbN r ≤ b ∧ b < nbN r) ∧ (∀ c, prS R (rsN r) = some c → c / 4 < rsN r) ∧ ∀ c, (cch R (tn (ai R 21 (rsN r)))).head? = some c → c / 4 < rsN r := by
    refine ⟨fun b hbm => ?_, fun c hcm => ?_, fun c hcm => ?_⟩
    · rw [kd] at hbm; cases hbm
    · rw [prS_find v21 lb] at hcm
      exact hc c (List.mem_of_find?_eq_some hcm)
    · rw [v21, tn_nI lb] at hcm
      exact hc c (List.mem_of_mem_head? hcm)
  obtain ⟨G', g0, g3, AD'⟩ := st_fin (h' := h') (U := U) (a := tp h + 1) (z := tp h') (a' := tp h) (z' := tp h') (s0 := rsN r) (s1 := rsN r + 1) (b0 := nbN r) (b1 := nbN r) (R := R) (G1 := fun q i => if q = 0 ∧ i = rsN r then tp h else G q i) (AD.nil (Nat.le_refl _)) S (by simp only [true_and, if_true]; exact nx) KK ⟨by rw [v29]; exact ⟨rfl, by decide⟩, by rw [v32]; exact ⟨rfl, by decide⟩, by omega, by rw [kd]; rfl, ⟨k, hk, by omega, bk _ _ _ v26, bk _ _ _ v27, bk _ _ _ v28, fun i hi => by omega, fun _ => v27, fun _ => ⟨v28, v32⟩, fun z => by omega, fun _ => v26, fun _ _ => v29⟩, P⟩ (by simp) (fun z => absurd z noN) (fun i hi => by omega) (by omega) (Nat.le_refl _)
  refine ⟨G', ⟨fun s hs => ?_, fun b _ => ?_, fun c _ => ?_⟩, fun k' hk' => ?_, ?_, ?_, ?_, ?_, ?_, ?_⟩
  · rw [g0 0 s (fun z => absurd z.1 (by decide)), g0 3 s (fun z => by omega), g0 6 s (fun z => absurd z.1 (by decide))]
    simp [show ¬ s = rsN r by omega]
  · rw [g0 1 b (fun z => absurd z.1 (by decide)), g0 4 b (fun z => absurd z.1 (by decide)), g0 5 b (fun z => absurd z.1 (by decide))]
    simp
  · rw [g0 2 c (fun z => absurd z.1 (by decide))]; simp
  · rw [g0 0 _ (fun z => absurd z.1 (by decide)), hf']
    have w' : wN (stpF r) = wN r := by unfold wN; rw [o1]
    have e1 : rsN r = wN r * 120 + nsC r := rfl
    have e2 : rsN (stpF r) = wN r * 120 + nsC (stpF r) := by rw [← w']; rfl
    unfold up1
    by_cases y : k' = nsC r
    · rw [if_pos y]; simp [y, e1]
    · rw [if_neg y, hf k' (by omega)]
      simp [show ¬ wN r * 120 + k' = rsN r by omega]
  · rw [rs, hb]; exact AD'
  · rw [rs]; exact g3
  · rw [g0 0 _ (fun z => absurd z.1 (by decide))]; simp
  · rw [rs]; exact sets
  · rw [rs, show rsN r + 1 - rsN r = 1 by omega]
    show CTK ks' (mpS R (rsN r) ++ []) ks
    rw [List.append_nil]; exact ct
  · rw [rs, hb, show rsN r + 1 - rsN r = 1 by omega]
    show wtS R (rsN r) + 0 + 2 * (nbN r - nbN r) + qN r ≤ qN (stpF r)
    have : wtS R (rsN r) = 0 := by unfold wtS; rw [c9, c0]; rfl
    omega
/-- one statement alone: whether it sets c -/
theorem stR_one (R : RV) (s c : Nat) : stR R s (s + 1) c = (decide (ai R 19 s = 3) && decide (prS R s = some c)) := by
  unfold stR
  rw [show s + 1 - s = 1 by omega]
  simp [fup]
