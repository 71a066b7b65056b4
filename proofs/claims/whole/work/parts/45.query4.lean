/-! Contracts of the reference's questions: blocks, sets of statements -/
/-- -1 or an index from lo on, below hi -/
def rf (v : Int32) (lo hi : Nat) : Prop := v = -1 ∨ (v = nI (tn v) ∧ lo ≤ tn v ∧ tn v < hi)
def oN (v : Int32) : Option Nat := if v = -1 then none else some (tn v)
theorem rf_oI {v : Int32} {lo hi : Nat} (r : rf v lo hi) : v = oI (oN v) := by
  unfold oN
  by_cases c : v = -1
  · rw [if_pos c, c]; rfl
  · rw [if_neg c]
    rcases r with r | r
    · exact absurd r c
    · exact r.1
theorem rf_some {v : Int32} {lo hi j : Nat} (r : rf v lo hi) (e : oN v = some j) : v = nI j ∧ lo ≤ j ∧ j < hi := by
  unfold oN at e
  by_cases c : v = -1
  · rw [if_pos c] at e; cases e
  · rw [if_neg c] at e
    cases e
    rcases r with r | r
    · exact absurd r c
    · exact r
theorem rf_none {v : Int32} (e : oN v = none) : v = -1 := by
  unfold oN at e
  by_cases c : v = -1
  · exact c
  · rw [if_neg c] at e; cases e
theorem oN_m1 : oN (-1) = none := rfl
theorem oN_nI {n : Nat} (hn : n < 2 ^ 31) : oN (nI n) = some n := by
  unfold oN
  rw [if_neg (nI_ne_m1 hn), tn_nI hn]
theorem oN_oI {o : Option Nat} (ho : ∀ k, o = some k → k < 2 ^ 31) : oN (oI o) = o := by
  cases o with
  | none => rfl
  | some k => exact oN_nI (ho k rfl)
/-- what questions need of the reference's blocks: nb blocks -/
def BQ (h : AH) (a w nk nm ns nb : Nat) : Prop := TQ h a w nk nm ns ∧ nb ≤ 1024 ∧
  (∀ s, w * 120 ≤ s → s < w * 120 + ns → rf (aI h (a + 26) s) (w * 1024) (w * 1024 + nb) ∧ rf (aI h (a + 27) s) (w * 1024) (w * 1024 + nb) ∧ rf (aI h (a + 28) s) (w * 1024) (w * 1024 + nb) ∧
    (∀ i, i < tn (aI h (a + 32) s) → rf (aI h (a + 33) (4 * s + i)) (w * 1024) (w * 1024 + nb)) ∧ rf (aI h (a + 21) s) (w * 1024) (w * 1024 + nb) ∧ ¬ aI h (a + 21) s = -1 ∧ rf (aI h (a + 23) s) (s + 1) (w * 120 + ns)) ∧
  (∀ b, w * 1024 ≤ b → b < w * 1024 + nb → rf (aI h (a + 44) b) (w * 120) (w * 120 + ns) ∧ rf (aI h (a + 45) b) (w * 120) (w * 120 + ns) ∧ rf (aI h (a + 41) b) (w * 120) (w * 120 + ns) ∧
    (aI h (a + 41) b = -1 ↔ aI h (a + 40) b = 0) ∧ (aI h (a + 40) b = 6 → aI h (a + 42) b = nI (tn (aI h (a + 42) b)) ∧ tn (aI h (a + 42) b) < tn (aI h (a + 32) (tn (aI h (a + 41) b)))) ∧
    (¬ aI h (a + 41) b = -1 → tn (aI h (a + 21) (tn (aI h (a + 41) b))) < b)) ∧
  ∀ m, m < nm → rf (aI h (a + 17) (w * 12 + m)) (w * 1024) (w * 1024 + nb)
def chn (r : RV) : Nat → Option Nat → Int32 → Int32
  | 0, _, x => x
  | _ + 1, none, x => x
  | f + 1, some s, x => chn r f (oN (ai r 23 s)) (x ||| ai r 47 s)
/-- what the statements of a block can throw -/
def bcS (r : RV) : Option Nat → Int32
  | none => 0
  | some b => chn r 240 (oN (ai r 44 b)) 0
/-- a block can be left -/
def lfB (r : RV) : Option Nat → Bool
  | none => false
  | some b => match oN (ai r 45 b) with
    | none => true
    | some s => decide (¬ ai r 48 s = 0)
section
variable {d : Nat} {h : AH} {a w nk nm ns nb : Nat} {Q : Option V → AH → Prop}
theorem b_blockCan (T : BQ h a w nk nm ns nb) {o : Option Nat} (ho : ∀ b, o = some b → w * 1024 ≤ b ∧ b < w * 1024 + nb) : wp d K_X12_blockCan 0 [] [(0, vr (some a)), (1, vi (oI o))] h Q = Q (some (vi (bcS (view h a) o))) h := by
  have K := T.1.1; have hs := K.1; have hw2 := K.2.2.1
  have hns := T.1.2.2.2.2.1
  have hnb := T.2.1
  have L : ∀ f (o2 : Option Nat) x, (∀ s, o2 = some s → w * 120 ≤ s ∧ s < w * 120 + ns ∧ 240 ≤ f + s) → wp d K_X12_blockCan 12 [] [(0, vr (some a)), (1, vi (oI o)), (2, vi x), (3, vi (oI o2))] h Q = Q (some (vi (chn (view h a) f o2 x))) h := by
    intro f
    induction f with
    | zero =>
      intro o2 x H
      cases o2 with
      | none => simp [bk_X12_blockCan_12, bk_X12_blockCan_28, oI, chn]
      | some s => have := H s rfl; omega
    | succ f ih =>
      intro o2 x H
      cases o2 with
      | none => simp [bk_X12_blockCan_12, bk_X12_blockCan_28, oI, chn]
      | some s =>
        obtain ⟨h1, h2, h3⟩ := H s rfl
        have R := (T.2.2.1 s h1 h2).2.2.2.2.2.2
        show wp d K_X12_blockCan 12 [] [(0, vr (some a)), (1, vi (oI o)), (2, vi x), (3, vi (nI s))] h Q = _
        rw [bk_X12_blockCan_12]
        simp (disch := omega) only [nI_ne_m1, nI_clamp, nI_leI, nI_ltI, nI_eq, nI_add, pk_mul, vp_in_nI, nI_1, true_and, and_true, true_implies, implies_true, not_true_eq_false, not_false_eq_true, false_implies, psh, nn_some, forall_const]
        rw [rb_X12_blockCan_15 _ _ _ _ hs]
        simp (disch := omega) only [nI_clamp, nI_leI, nI_ltI, nI_eq, nI_add, pk_mul, vp_in_nI, nI_1, true_and, and_true, true_implies, implies_true, not_true_eq_false, not_false_eq_true, false_implies, psh, nn_some, forall_const]
        rw [rf_oI R, ih]
        · rfl
        · intro j e
          have := rf_some R e
          omega
  rw [bk_X12_blockCan_0]
  cases o with
  | none =>
    simp only [oI, not_true_eq_false, false_implies, true_and, not_false_eq_true, true_implies, bk_X12_blockCan_5, bk_X12_blockCan_11]
    exact L 240 none 0 (fun s e => by cases e)
  | some b =>
    obtain ⟨h1, h2⟩ := ho b rfl
    have R := (T.2.2.2.1 b h1 h2).1
    simp (disch := omega) only [oI, nI_ne_m1, nI_clamp, nI_leI, nI_ltI, nI_eq, nI_add, pk_mul, vp_in_nI, nI_1, true_and, and_true, true_implies, implies_true, not_true_eq_false, not_false_eq_true, false_implies, psh, nn_some, forall_const]
    rw [rb_X12_blockCan_7 _ _ _ hs]
    simp (disch := omega) only [nI_clamp, nI_leI, nI_ltI, nI_eq, nI_add, pk_mul, vp_in_nI, nI_1, true_and, and_true, true_implies, implies_true, not_true_eq_false, not_false_eq_true, false_implies, psh, nn_some, forall_const, bk_X12_blockCan_11]
    rw [rf_oI R]
    refine L 240 _ 0 (fun s e => ?_)
    have := rf_some R e
    omega
theorem b_isLeft (T : BQ h a w nk nm ns nb) {o : Option Nat} (ho : ∀ b, o = some b → w * 1024 ≤ b ∧ b < w * 1024 + nb) : wp d K_X12_isLeft 0 [] [(0, vr (some a)), (1, vi (oI o))] h Q = Q (some (vi (b2i (lfB (view h a) o)))) h := by
  have K := T.1.1; have hs := K.1; have hw2 := K.2.2.1
  have hns := T.1.2.2.2.2.1
  have hnb := T.2.1
  rw [bk_X12_isLeft_0]
  cases o with
  | none => simp [oI, bk_X12_isLeft_19, bk_X12_isLeft_20, lfB, b2i]
  | some b =>
    obtain ⟨h1, h2⟩ := ho b rfl
    have R := (T.2.2.2.1 b h1 h2).2.1
    simp (disch := omega) only [oI, nI_ne_m1, nI_clamp, nI_leI, nI_ltI, nI_eq, nI_add, pk_mul, vp_in_nI, nI_1, true_and, and_true, true_implies, implies_true, not_true_eq_false, not_false_eq_true, false_implies, psh, nn_some, forall_const]
    rw [rb_X12_isLeft_3 _ _ hs, rb_X12_isLeft_9 _ _ hs]
    simp (disch := omega) only [nI_clamp, nI_leI, nI_ltI, nI_eq, nI_add, pk_mul, vp_in_nI, nI_1, true_and, and_true, true_implies, implies_true, not_true_eq_false, not_false_eq_true, false_implies, psh, nn_some, forall_const]
    show _ = Q (some (vi (b2i (match oN (aI h (a + 45) b) with
      | none => true
      | some s => decide (¬ aI h (a + 48) s = 0))))) h
    cases e : oN (aI h (a + 45) b) with
    | none =>
      rw [rf_none e]
      simp [bk_X12_isLeft_17, bk_X12_isLeft_20, b2i]
    | some s =>
      obtain ⟨e1, e2, e3⟩ := rf_some R e
      rw [e1]
      simp (disch := omega) only [nI_ne_m1, nI_clamp, nI_leI, nI_ltI, nI_eq, nI_add, pk_mul, vp_in_nI, nI_1, true_and, and_true, true_implies, implies_true, not_true_eq_false, not_false_eq_true, false_implies, psh, nn_some, forall_const, bk_X12_isLeft_19, bk_X12_isLeft_20, bk_X12_isLeft_17]
      by_cases c : aI h (a + 48) s = 0 <;> simp [c, b2i]
theorem BQ.of26 (T : BQ h a w nk nm ns nb) {s : Nat} (h1 : w * 120 ≤ s) (h2 : s < w * 120 + ns) : ∀ b, oN (aI h (a + 26) s) = some b → w * 1024 ≤ b ∧ b < w * 1024 + nb := fun b e => (rf_some (T.2.2.1 s h1 h2).1 e).2
theorem BQ.of27 (T : BQ h a w nk nm ns nb) {s : Nat} (h1 : w * 120 ≤ s) (h2 : s < w * 120 + ns) : ∀ b, oN (aI h (a + 27) s) = some b → w * 1024 ≤ b ∧ b < w * 1024 + nb := fun b e => (rf_some (T.2.2.1 s h1 h2).2.1 e).2
theorem BQ.of28 (T : BQ h a w nk nm ns nb) {s : Nat} (h1 : w * 120 ≤ s) (h2 : s < w * 120 + ns) : ∀ b, oN (aI h (a + 28) s) = some b → w * 1024 ≤ b ∧ b < w * 1024 + nb := fun b e => (rf_some (T.2.2.1 s h1 h2).2.2.1 e).2
theorem BQ.of33 (T : BQ h a w nk nm ns nb) {s i : Nat} (h1 : w * 120 ≤ s) (h2 : s < w * 120 + ns) (hi : i < tn (aI h (a + 32) s)) : ∀ b, oN (aI h (a + 33) (4 * s + i)) = some b → w * 1024 ≤ b ∧ b < w * 1024 + nb := fun b e => (rf_some ((T.2.2.1 s h1 h2).2.2.2.1 i hi) e).2
def insS (r : RV) (w nk nm s : Nat) : Int32 := bcS r (oN (ai r 26 s)) ||| nmS r w nk nm s
theorem b_inside (T : BQ h a w nk nm ns nb) {s : Nat} (h1 : w * 120 ≤ s) (h2 : s < w * 120 + ns) : wp (d + 3) K_X12_inside 0 [] [(0, vr (some a)), (1, vi (nI s))] h Q = Q (some (vi (insS (view h a) w nk nm s))) h := by
  have K := T.1.1; have hs := K.1; have hw2 := K.2.2.1
  have hns := T.1.2.2.2.2.1
  rw [rb_X12_inside_0 _ _ hs]
  simp (disch := omega) only [nI_clamp, nI_leI, nI_ltI, nI_eq, nI_add, pk_mul, vp_in_nI, nI_1, true_and, and_true, true_implies, implies_true, not_true_eq_false, not_false_eq_true, false_implies, psh, nn_some, forall_const]
  rw [rf_oI (T.2.2.1 s h1 h2).1, b_blockCan T (T.of26 h1 h2)]
  simp only [psh]
  rw [rb_X12_inside_6 _ _ _ hs, t_namesOf T.1 h1 h2]
  simp only [psh, bk_X12_inside_9]
  rfl
/-- that one of two kinds which is below the other -/
def lowK (r : RV) (w nk k q : Nat) : Int32 := if bel r w nk k q then one k else if bel r w nk q k then one q else 0
def agF (r : RV) (w nk : Nat) (t u : Int32) (k q : Nat) (x : Int32) : Int32 := if hasB t k && hasB u q then x ||| lowK r w nk k q else x
def agT (r : RV) (w nk : Nat) (t u : Int32) : Int32 := fup (fun k x => fup (fun q x => agF r w nk t u k q x) nk 0 x) nk 0 0
def agS (r : RV) (w nk nm s i : Nat) : Int32 := agT r w nk (mask (fun k => hasB (insS r w nk nm s ||| 12) k && !und r w nk k (ahd r w nk s i)) nk) (cgS r w nk (4 * s + i))
theorem b_again (T : BQ h a w nk nm ns nb) {s i : Nat} (h1 : w * 120 ≤ s) (h2 : s < w * 120 + ns) (hi : i < tn (aI h (a + 32) s)) : wp (d + 5) K_X12_again 0 [] [(0, vr (some a)), (1, vi (nI (4 * s + i)))] h Q = Q (some (vi (agS (view h a) w nk nm s i))) h := by
  have K := T.1.1; have hs := K.1; have hw := K.2.1; have hw2 := K.2.2.1; have hk := K.2.2.2.1; have hn := K.2.2.2.2.1; have hn4 := K.2.2.2.2.2.1
  have hns := T.1.2.2.2.2.1
  obtain ⟨-, hc, hcs, -⟩ := T.1.2.2.2.2.2.2 s h1 h2
  have hc4 := hc.2
  rw [rb_X12_again_0 _ _ hs, lt4, pk_div (by omega) (by omega) (by omega), show (4 * s + i) / 4 = s by omega, b_inside T h1 h2]
  simp only [psh]
  rw [rb_X12_again_6 _ _ _ _ hs, t_ahead T.1 h1 h2 hi]
  simp only [psh, bk_X12_again_11, nn_some, hs.1, true_and]
  rw [q_without K]
  simp only [psh]
  rw [rb_X12_again_12 _ _ _ hs, q_caughtBy K (by omega) (hcs i hi).1]
  simp only [psh, bk_X12_again_16]
  unfold agS
  generalize mask (fun k => hasB (insS (view h a) w nk nm s ||| 12) k && !und (view h a) w nk k (ahd (view h a) w nk s i)) nk = t
  generalize cgS (view h a) w nk (4 * s + i) = u
  have I : ∀ k, k < nk → ∀ m q x, q + m = nk → wp (d + 5) K_X12_again 30 [] [(0, vr (some a)), (1, vi (nI (4 * s + i))), (2, vi t), (3, vi u), (4, vi x), (5, vi (nI k)), (6, vi (nI q))] h Q = wp (d + 5) K_X12_again 67 [] [(0, vr (some a)), (1, vi (nI (4 * s + i))), (2, vi t), (3, vi u), (4, vi (fup (fun q x => agF (view h a) w nk t u k q x) m q x)), (5, vi (nI k)), (6, vi (nI nk))] h Q := by
    intro k hkk m
    induction m with
    | zero =>
      intro q x e
      rw [rb_X12_again_30 _ _ _ _ _ _ _ hs]
      simp (disch := omega) only [hw, hk, nI_clamp, nI_leI, nI_ltI, nI_eq, nI_add, pk_mul, vp_in_nI, nI_1, true_and, and_true, true_implies, implies_true, not_true_eq_false, not_false_eq_true, false_implies, psh, nn_some, forall_const]
      have : q = nk := by omega
      subst this
      simp [fup]
    | succ m ih =>
      intro q x e
      rw [rb_X12_again_30 _ _ _ _ _ _ _ hs]
      simp (disch := omega) only [hw, hk, nI_clamp, nI_leI, nI_ltI, nI_eq, nI_add, pk_mul, vp_in_nI, nI_1, true_and, and_true, true_implies, implies_true, not_true_eq_false, not_false_eq_true, false_implies, psh, nn_some, forall_const, show ¬ nk ≤ q by omega, bk_X12_again_37, bk_X12_again_40, bk_X12_again_41, bk_X12_again_44, e_has, b2i_0]
      have nx : ∀ x, wp (d + 5) K_X12_again 65 [] [(0, vr (some a)), (1, vi (nI (4 * s + i))), (2, vi t), (3, vi u), (4, vi x), (5, vi (nI k)), (6, vi (nI q))] h Q = wp (d + 5) K_X12_again 67 [] [(0, vr (some a)), (1, vi (nI (4 * s + i))), (2, vi t), (3, vi u), (4, vi (fup (fun q x => agF (view h a) w nk t u k q x) m (q + 1) x)), (5, vi (nI k)), (6, vi (nI nk))] h Q := fun x => by
        rw [bk_X12_again_65, nI_1, ih (q + 1) x (by omega)]
      rw [rb_X12_again_45 _ _ _ _ _ _ _ hs, q_isBelow K hkk (by omega)]
      simp only [psh, bk_X12_again_50, b2i_0]
      rw [rb_X12_again_54 _ _ _ _ _ _ _ _ hs, q_isBelow K (by omega) (by omega)]
      simp (disch := omega) only [psh, bk_X12_again_51, bk_X12_again_58, bk_X12_again_53, bk_X12_again_62, bk_X12_again_59, bk_X12_again_63, bk_X12_again_61, b2i_0, e_only1, nx, fup, agF, lowK]
      cases hasB t k <;> cases hasB u q <;> cases bel (view h a) w nk k q <;> cases bel (view h a) w nk q k <;> simp
  have L : ∀ m k x j, k + m = nk → wp (d + 5) K_X12_again 21 [] [(0, vr (some a)), (1, vi (nI (4 * s + i))), (2, vi t), (3, vi u), (4, vi x), (5, vi (nI k)), (6, vi j)] h Q = Q (some (vi (fup (fun k x => fup (fun q x => agF (view h a) w nk t u k q x) nk 0 x) m k x))) h := by
    intro m
    induction m with
    | zero =>
      intro k x j e
      rw [rb_X12_again_21_1 _ _ _ _ _ _ _ hs]
      simp (disch := omega) only [hw, hk, nI_clamp, nI_leI, nI_ltI, nI_eq, nI_add, pk_mul, vp_in_nI, nI_1, true_and, and_true, true_implies, implies_true, not_true_eq_false, not_false_eq_true, false_implies, psh, nn_some, forall_const, bk_X12_again_69_1]
      simp [show nk ≤ k by omega, fup]
    | succ m ih =>
      intro k x j e
      rw [rb_X12_again_21_1 _ _ _ _ _ _ _ hs]
      simp (disch := omega) only [hw, hk, nI_clamp, nI_leI, nI_ltI, nI_eq, nI_add, pk_mul, vp_in_nI, nI_1, true_and, and_true, true_implies, implies_true, not_true_eq_false, not_false_eq_true, false_implies, psh, nn_some, forall_const, show ¬ nk ≤ k by omega, bk_X12_again_28_1]
      rw [lt0, I k (by omega) nk 0 x (by omega), bk_X12_again_67, nI_1, ih (k + 1) _ _ (by omega)]
      rfl
  rw [show ((5 : Nat), vi 0) = (5, vi (nI 0)) from rfl, rb_X12_again_21 _ _ _ _ _ _ hs]
  simp (disch := omega) only [hw, hk, nI_clamp, nI_leI, nI_ltI, nI_eq, nI_add, pk_mul, vp_in_nI, nI_1, true_and, and_true, true_implies, implies_true, not_true_eq_false, not_false_eq_true, false_implies, psh, nn_some, forall_const, show ¬ nk ≤ 0 by omega, bk_X12_again_28]
  rw [show ((6 : Nat), vi 0) = (6, vi (nI 0)) from rfl, I 0 (by omega) nk 0 0 (by omega), bk_X12_again_67, nI_1, L (nk - 1) _ _ _ (by omega)]
  unfold agT
  obtain ⟨n, rfl⟩ : ∃ n, nk = n + 1 := ⟨nk - 1, by omega⟩
  simp [show ¬ nI 4 = 0 by decide, fup]
end
