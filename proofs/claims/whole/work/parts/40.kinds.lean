/-! Contracts of the reference: kinds -/
def kfind (h : AH) (a w : Nat) (x : Int64) (wh : Int32) : Nat → Nat → Int32
  | 0, _ => -1
  | m + 1, k => if aJ h (a + 3) (w * 16 + k) = x ∧ aI h (a + 5) (w * 16 + k) < wh then nI k else kfind h a w x wh m (k + 1)
theorem lg0 (x y : Int64) : lg_cmp x y = 0 ↔ x = y := by
  unfold lg_cmp
  split
  · rename_i h
    refine ⟨fun z => by simp at z, fun z => ?_⟩
    subst z
    exact absurd h (Int64.lt_irrefl)
  · split
    · rename_i h; exact ⟨fun _ => h, fun _ => rfl⟩
    · rename_i h; exact ⟨fun z => by simp at z, fun z => absurd z h⟩
theorem ix16 {w k : Nat} : nI w * 16 + nI k = nI (w * 16 + k) := by
  rw [show (16 : Int32) = nI 16 from rfl, pk_mul, nI_add]
theorem kindOf_loop {d : Nat} {h : AH} {a w n : Nat} (hs : RS h a) (hw : fI h 1402 a = nI w) (hw2 : w < 2) (hk : aI h (a + 2) w = nI n) (hn : n ≤ 16) (x : Int64) (wh : Int32) {Q : Option V → AH → Prop} :
    ∀ m k, k + m = n → Q (some (vi (kfind h a w x wh m k))) h → wp d K_X12_kindOf 2 [] [(0, vr (some a)), (1, vl x), (3, vi wh), (4, vi (nI k))] h Q := by
  intro m
  induction m with
  | zero =>
    intro k hkm hQ
    rw [rb_X12_kindOf_2 d _ _ _ hs, hw, nI_clamp (by omega), hk]
    refine ⟨vp_in_nI hw2 (by omega), fun _ => ?_, fun c => absurd (nI_le (by omega) (by omega)) c⟩
    rw [bk_X12_kindOf_36]
    exact hQ
  | succ m ih =>
    intro k hkm hQ
    rw [rb_X12_kindOf_2 d _ _ _ hs, hw, nI_clamp (by omega), hk]
    refine ⟨vp_in_nI hw2 (by omega), fun c => absurd c (nI_ge (by omega) (by omega)), fun _ => ?_⟩
    have hx : wp d K_X12_kindOf 34 [] [(0, vr (some a)), (1, vl x), (3, vi wh), (4, vi (nI k))] h Q → True := fun _ => trivial
    rw [rb_X12_kindOf_9 d _ _ _ hs, hw, ix16, nI_clamp (by omega), lg0]
    have next : ¬ (aJ h (a + 3) (w * 16 + k) = x ∧ aI h (a + 5) (w * 16 + k) < wh) → wp d K_X12_kindOf 34 [] [(0, vr (some a)), (1, vl x), (3, vi wh), (4, vi (nI k))] h Q := fun hne => by
      rw [bk_X12_kindOf_34, nI_1]
      refine ih (k + 1) (by omega) ?_
      rw [kfind, if_neg hne] at hQ
      exact hQ
    refine ⟨vp_in_nI (by omega) (by omega), fun c => next (fun z => c z.1), fun c => ?_⟩
    have c := Classical.not_not.mp c
    rw [rb_X12_kindOf_21 d _ _ _ hs, hw, ix16, nI_clamp (by omega)]
    refine ⟨vp_in_nI (by omega) (by omega), fun c2 => next (fun z => absurd z.2 (Int32.not_lt.mpr c2)), fun c2 => ?_⟩
    rw [bk_X12_kindOf_32]
    rw [kfind, if_pos ⟨c, Int32.not_le.mp c2⟩] at hQ
    exact hQ
theorem c_kindOf {d : Nat} {h : AH} {a w n : Nat} (hs : RS h a) (hw : fI h 1402 a = nI w) (hw2 : w < 2) (hk : aI h (a + 2) w = nI n) (hn : n ≤ 16) (x : Int64) (wh : Int32) {Q : Option V → AH → Prop} (hQ : Q (some (vi (kfind h a w x wh n 0))) h) : wp d K_X12_kindOf 0 [] [(0, vr (some a)), (1, vl x), (3, vi wh)] h Q := by
  rw [bk_X12_kindOf_0]
  exact kindOf_loop hs hw hw2 hk hn x wh n 0 (by omega) hQ
