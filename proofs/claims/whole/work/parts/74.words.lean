/-! Words: eight bits a letter there, five bits a letter here -/
/-- all digits of a number to the base 256 are letters, at most f of them -/
def vd : Nat → Nat → Prop
  | 0, a => a = 0
  | f + 1, a => a = 0 ∨ (97 ≤ a % 256 ∧ a % 256 ≤ 122 ∧ vd f (a / 256))
/-- its letters, five bits each -/
def cv : Nat → Nat → Nat
  | 0, _ => 0
  | f + 1, a => if a = 0 then 0 else cv f (a / 256) * 32 + (a % 256 - 96)
theorem vd_lt : ∀ f a, vd f a → 2 * a < 256 ^ f := by
  intro f
  induction f with
  | zero => intro a h; have h : a = 0 := h; subst h; decide
  | succ f ih =>
    intro a h
    rcases h with h | ⟨h1, h2, h3⟩
    · subst h; exact Nat.pow_pos (by decide)
    · have := ih _ h3
      rw [Nat.pow_succ]
      omega
theorem cv_lt : ∀ f a, vd f a → cv f a < 32 ^ f := by
  intro f
  induction f with
  | zero => intro a _; exact Nat.one_pos
  | succ f ih =>
    intro a h
    rw [cv]
    split
    · exact Nat.pow_pos (by decide)
    · rename_i n0
      rcases h with h | ⟨h1, h2, h3⟩
      · exact absurd h n0
      · have := ih _ h3
        rw [Nat.pow_succ]
        omega
theorem cv_inj : ∀ f a b, vd f a → vd f b → cv f a = cv f b → a = b := by
  intro f
  induction f with
  | zero => intro a b h1 h2 _; have h1 : a = 0 := h1; have h2 : b = 0 := h2; omega
  | succ f ih =>
    intro a b ha hb e
    rw [cv, cv] at e
    by_cases za : a = 0
    · by_cases zb : b = 0
      · omega
      · rw [if_pos za, if_neg zb] at e
        rcases hb with h | ⟨h1, h2, h3⟩
        · exact absurd h zb
        · omega
    · by_cases zb : b = 0
      · rw [if_neg za, if_pos zb] at e
        rcases ha with h | ⟨h1, h2, h3⟩
        · exact absurd h za
        · omega
      · rw [if_neg za, if_neg zb] at e
        rcases ha with h | ⟨a1, a2, a3⟩
        · exact absurd h za
        rcases hb with h | ⟨b1, b2, b3⟩
        · exact absurd h zb
        have d1 : a % 256 = b % 256 := by omega
        have d2 : cv f (a / 256) = cv f (b / 256) := by omega
        have := ih _ _ a3 b3 d2
        omega
theorem vd_mono : ∀ f a, vd f a → vd (f + 1) a := by
  intro f
  induction f with
  | zero => intro a h; exact Or.inl h
  | succ f ih =>
    intro a h
    rcases h with h | ⟨h1, h2, h3⟩
    · exact Or.inl h
    · exact Or.inr ⟨h1, h2, ih _ h3⟩
theorem cv_mono : ∀ f a, vd f a → cv (f + 1) a = cv f a := by
  intro f
  induction f with
  | zero => intro a h; have h : a = 0 := h; subst h; rfl
  | succ f ih =>
    intro a h
    show (if a = 0 then 0 else cv (f + 1) (a / 256) * 32 + (a % 256 - 96)) = (if a = 0 then 0 else cv f (a / 256) * 32 + (a % 256 - 96))
    rcases h with h | ⟨h1, h2, h3⟩
    · rw [if_pos h, if_pos h]
    · by_cases z : a = 0
      · rw [if_pos z, if_pos z]
      · rw [if_neg z, if_neg z, ih _ h3]
theorem vd_le {f g a : Nat} (h : vd f a) (hg : f ≤ g) : vd g a := by
  obtain ⟨k, rfl⟩ : ∃ k, g = f + k := ⟨g - f, by omega⟩
  clear hg
  induction k with
  | zero => exact h
  | succ k ih => exact vd_mono _ _ ih
theorem cv_le {f g a : Nat} (h : vd f a) (hg : f ≤ g) : cv g a = cv f a := by
  obtain ⟨k, rfl⟩ : ∃ k, g = f + k := ⟨g - f, by omega⟩
  clear hg
  induction k with
  | zero => rfl
  | succ k ih =>
    rw [show f + (k + 1) = (f + k) + 1 by omega, cv_mono _ _ (vd_le h (by omega)), ih]
/-- one letter more -/
theorem vd_snoc {f a b : Nat} (h : vd f a) (h1 : 97 ≤ b) (h2 : b ≤ 122) : vd (f + 1) (a * 256 + b) := by
  refine Or.inr ⟨?_, ?_, ?_⟩
  · omega
  · omega
  · rw [show (a * 256 + b) / 256 = a by omega]; exact h
theorem cv_snoc {f a b : Nat} (h1 : 97 ≤ b) (h2 : b ≤ 122) : cv (f + 1) (a * 256 + b) = cv f a * 32 + (b - 96) := by
  rw [cv, if_neg (by omega), show (a * 256 + b) / 256 = a by omega, show (a * 256 + b) % 256 = b by omega]
/-- the word of up to eight letters -/
def WV (x : Int64) : Prop := ∃ a, vd 8 a ∧ x = lN a
def conv (x : Int64) : Int64 := lN (cv 8 x.toNatClampNeg)
theorem lN_clamp {a : Nat} (h : a < 2 ^ 63) : (lN a).toNatClampNeg = a := by
  rw [Int64.toNatClampNeg, pk_lT h]
  exact Int.toNat_natCast a
theorem vd8_lt {a : Nat} (h : vd 8 a) : a < 2 ^ 63 := by
  have := vd_lt 8 a h
  have e : (256 : Nat) ^ 8 = 2 ^ 64 := by decide
  omega
theorem cv8_lt {a : Nat} (h : vd 8 a) : cv 8 a < 2 ^ 40 := by
  have := cv_lt 8 a h
  have e : (32 : Nat) ^ 8 = 2 ^ 40 := by decide
  omega
theorem conv_lN {a : Nat} (h : vd 8 a) : conv (lN a) = lN (cv 8 a) := by
  unfold conv
  rw [lN_clamp (vd8_lt h)]
theorem conv_inj {x y : Int64} (hx : WV x) (hy : WV y) : conv x = conv y ↔ x = y := by
  obtain ⟨a, ha, rfl⟩ := hx
  obtain ⟨b, hb, rfl⟩ := hy
  constructor
  · intro e
    rw [conv_lN ha, conv_lN hb, pk_lEQ (by have := cv8_lt ha; omega) (by have := cv8_lt hb; omega)] at e
    rw [cv_inj 8 a b ha hb e]
  · intro e; rw [e]
theorem lN_add' (a b : Nat) : lN a + lN b = lN (a + b) := (Int64.ofNat_add a b).symm
theorem lN_mul' (a b : Nat) : lN a * lN b = lN (a * b) := (Int64.ofNat_mul a b).symm
theorem toI64_nI {b : Nat} (h : b < 2 ^ 31) : Int32.toInt64 (nI b) = lN b := by
  apply Int64.toInt_inj.mp
  rw [Int32.toInt_toInt64, nI_toInt h, pk_lT (by omega)]
theorem lN_bv (a : Nat) : (lN a).toBitVec = BitVec.ofNat 64 a := rfl
/-- eight bits more -/
theorem wd8_lN {a b : Nat} (ha : a < 2 ^ 55) (hb : b < 256) : wd8 (lN a) (nI b) = lN (a * 256 + b) := by
  unfold wd8
  rw [toI64_nI (by omega)]
  apply Int64.toBitVec_inj.mp
  have e1 : (lN a <<< (Int32.toInt64 8 &&& 63)).toBitVec = BitVec.ofNat 64 (a * 256) := by
    rw [Int64.toBitVec_shiftLeft]
    have e : ((Int32.toInt64 8 &&& 63).toBitVec.smod 64) = 8#64 := by decide
    rw [e, lN_bv]
    apply BitVec.eq_of_toNat_eq
    simp only [BitVec.shiftLeft_eq', BitVec.toNat_shiftLeft, BitVec.toNat_ofNat, Nat.shiftLeft_eq]
    rw [Nat.mod_eq_of_lt (show 8 < 2 ^ 64 by decide), Nat.mod_eq_of_lt (show a < 2 ^ 64 by omega)]
  rw [Int64.toBitVec_or, e1, lN_bv, lN_bv]
  apply BitVec.eq_of_toNat_eq
  rw [BitVec.toNat_or, BitVec.toNat_ofNat, BitVec.toNat_ofNat, BitVec.toNat_ofNat, ← Nat.or_mod_two_pow, show a * 256 = a * 2 ^ 8 from rfl, or_add hb]
theorem isLe_nI {x : Int32} (h : isLe x = true) : ∃ b, x = nI b ∧ 97 ≤ b ∧ b ≤ 122 := by
  unfold isLe at h
  rw [Bool.and_eq_true, Bool.not_eq_true', Bool.not_eq_true', decide_eq_false_iff_not, decide_eq_false_iff_not] at h
  have h1 : (97 : Int) ≤ x.toInt := by
    have := Int32.le_iff_toInt_le.mp (Int32.not_lt.mp h.1)
    exact this
  have h2 : x.toInt ≤ 122 := by
    have := Int32.le_iff_toInt_le.mp (Int32.not_lt.mp h.2)
    exact this
  refine ⟨x.toInt.toNat, ?_, by omega, by omega⟩
  apply Int32.toInt_inj.mp
  rw [nI_toInt (by omega)]
  omega
/-- five bits a letter -/
def wd5 (x : Int64) (b : Int32) : Int64 := x * 32 + Int32.toInt64 ((b - 97) + 1)
def lw5 (t : Nat → Int32) : Nat → Nat → Int64 → Int64
  | 0, _, x => x
  | f + 1, p, x => if isLe (t p) then lw5 t f (p + 1) (wd5 x (t p)) else x
theorem wd5_lN {a b : Nat} (h1 : 97 ≤ b) (h2 : b ≤ 122) : wd5 (lN a) (nI b) = lN (a * 32 + (b - 96)) := by
  unfold wd5
  have e1 : nI b - 97 + 1 = nI (b - 96) := by
    rw [show (97 : Int32) = nI 97 from rfl, pk_sub h1, nI_1, show b - 97 + 1 = b - 96 by omega]
  rw [e1, toI64_nI (by omega), show (32 : Int64) = lN 32 from rfl, lN_mul', lN_add']
/-- the two words of the same letters -/
theorem lw_both (t : Nat → Int32) : ∀ f p a g, vd g a → g + (lwE t f p - p) ≤ 8 → ∃ a', vd 8 a' ∧ lwW t f p (lN a) = lN a' ∧ lw5 t f p (lN (cv 8 a)) = lN (cv 8 a') ∧ (g = 0 → lwE t f p = p ∨ 0 < a') ∧ (0 < a → 0 < a') := by
  intro f
  induction f with
  | zero => intro p a g h hg; exact ⟨a, vd_le h (by omega), rfl, rfl, fun _ => Or.inl rfl, id⟩
  | succ f ih =>
    intro p a g h hg
    rw [lwE] at hg
    rw [lwE, lwW, lw5]
    by_cases c : isLe (t p) = true
    · rw [if_pos c] at hg
      rw [if_pos c, if_pos c, if_pos c]
      obtain ⟨b, eb, b1, b2⟩ := isLe_nI c
      have le := lwE_le t f (p + 1)
      have g7 : g ≤ 7 := by omega
      have a55 : a < 2 ^ 55 := by
        have h7 := vd_lt 7 a (vd_le h g7)
        have e : (256 : Nat) ^ 7 = 2 ^ 56 := by decide
        omega
      obtain ⟨a', q1, q2, q3, q4, q5⟩ := ih (p + 1) (a * 256 + b) (g + 1) (vd_snoc h b1 b2) (by omega)
      refine ⟨a', q1, ?_, ?_, fun _ => Or.inr (q5 (by omega)), fun _ => q5 (by omega)⟩
      · rw [eb, wd8_lN a55 (by omega)]; exact q2
      · rw [eb, wd5_lN b1 b2]
        have e5 : cv 8 a * 32 + (b - 96) = cv 8 (a * 256 + b) := by
          rw [cv_le (vd_snoc h b1 b2) (by omega), cv_snoc b1 b2, cv_le h (by omega)]
        rw [e5]; exact q3
    · rw [if_neg c, if_neg c, if_neg c]
      exact ⟨a, vd_le h (by omega), rfl, rfl, fun _ => Or.inl rfl, id⟩
/-- keywords, in the class's order -/
def kwL : List Nat := [25711, 1667329132, 499968536439, 7562612, 26982, 512852847717, 1819242352, 422826041707, 125780071117422, 7631481, 7501166, 1802071652, 422608400247, 7823737, 1870030194, 1718773093, 127991945328499, 1701606245, 426836779880, 28826370426301561]
def kwN (k : Nat) : Nat := kwL.getD k 0
def kwI (x : Int64) : Nat := (ffst (fun k => decide (lN (kwN k) = x)) 20 0).getD 27
/-- vd, computed -/
def vdB : Nat → Nat → Bool
  | 0, a => a == 0
  | f + 1, a => a == 0 || (Nat.ble 97 (a % 256) && (Nat.ble (a % 256) 122 && vdB f (a / 256)))
theorem vdB_vd : ∀ f a, vdB f a = true → vd f a := by
  intro f
  induction f with
  | zero => intro a h; exact eq_of_beq h
  | succ f ih =>
    intro a h
    rw [vdB, Bool.or_eq_true, Bool.and_eq_true, Bool.and_eq_true] at h
    rcases h with h | ⟨h1, h2, h3⟩
    · exact Or.inl (eq_of_beq h)
    · exact Or.inr ⟨Nat.le_of_ble_eq_true h1, Nat.le_of_ble_eq_true h2, ih _ h3⟩
theorem kwN_vd : ∀ k, k < 20 → vd 8 (kwN k) := fun k hk => vdB_vd 8 _ (by
  have : ∀ k, k < 20 → vdB 8 (kwN k) = true := by decide +kernel
  exact this k hk)
theorem isKw_kwI (x : Int64) : isKw x = decide (¬ kwI x = 27) := by
  have all : ∀ k, k < 20 → isKw (lN (kwN k)) = true := by decide +kernel
  unfold kwI
  cases e : ffst (fun k => decide (lN (kwN k) = x)) 20 0 with
  | some k =>
    obtain ⟨-, h2, h3, -⟩ := ffst_some e
    have h3 := of_decide_eq_true h3
    rw [← h3, all k (by omega)]
    show true = decide (¬ k = 27)
    rw [decide_eq_true (by omega)]
  | none =>
    have n := ffst_none e
    show isKw x = decide (¬ 27 = 27)
    rw [decide_eq_false (by omega)]
    unfold isKw
    rw [decide_eq_false_iff_not]
    have ne : ∀ k, k < 20 → ¬ x = lN (kwN k) := fun k hk z => by
      have := n k (by omega) (by omega)
      rw [decide_eq_false_iff_not] at this
      exact this z.symm
    rintro (q | q | q | q | q | q | q | q | q | q | q | q | q | q | q | q | q | q | q | q)
    · exact ne 11 (by omega) q
    · exact ne 12 (by omega) q
    · exact ne 13 (by omega) q
    · exact ne 14 (by omega) q
    · exact ne 15 (by omega) q
    · exact ne 16 (by omega) q
    · exact ne 0 (by omega) q
    · exact ne 1 (by omega) q
    · exact ne 2 (by omega) q
    · exact ne 3 (by omega) q
    · exact ne 4 (by omega) q
    · exact ne 17 (by omega) q
    · exact ne 5 (by omega) q
    · exact ne 6 (by omega) q
    · exact ne 7 (by omega) q
    · exact ne 8 (by omega) q
    · exact ne 9 (by omega) q
    · exact ne 18 (by omega) q
    · exact ne 19 (by omega) q
    · exact ne 10 (by omega) q
/-- a keyword is that one -/
theorem kwI_is {x : Int64} {k : Nat} (hk : k < 20) : kwI x = k ↔ x = lN (kwN k) := by
  have inj : ∀ i, i < 20 → ∀ j, j < 20 → kwN i = kwN j → i = j := by decide +kernel
  constructor
  · intro h
    unfold kwI at h
    cases e : ffst (fun k => decide (lN (kwN k) = x)) 20 0 with
    | some j =>
      rw [e] at h
      have h : j = k := h
      subst h
      exact (of_decide_eq_true (ffst_some e).2.2.1).symm
    | none => rw [e] at h; have h : 27 = k := h; omega
  · intro h
    unfold kwI
    rw [ffst_is (j := k) (by omega) (by omega) (decide_eq_true h.symm)]
    · rfl
    · intro i _ hi
      rw [decide_eq_false_iff_not]
      intro z
      rw [h, pk_lEQ (vd8_lt (kwN_vd i (by omega))) (vd8_lt (kwN_vd k hk))] at z
      have := inj i (by omega) k hk z
      omega
