/-! Texts that are written in the class -/
/-- text number i -/
def STR (h : AH) (i n : Nat) (bs : List Int32) (s v : Nat) : Prop := fP h 39800 i = some s ∧ tg h s = 70 ∧ fP h 36900 s = some v ∧ fI h 46901 s = 0 ∧ fI h 9901 v = 152 ∧ ln h v = n ∧ (∀ j, aI h v j = bs.getD j 0) ∧ s < tp h ∧ v < tp h ∧ fI h 9900 1 = 1
theorem STR.fx {E : Nat → Nat → Prop} {h h' : AH} {i n s v : Nat} {bs : List Int32} (a : STR h i n bs s v) (x : FX E h h') (n1 : ∀ y, ¬ E 39800 y) (n2 : ∀ y, ¬ E 36900 y) (n3 : ∀ y, ¬ E 46901 y) (n4 : ∀ y, ¬ E 9901 y) (n5 : ¬ E 90001 v) (n6 : ∀ y, ¬ E 9900 y) : STR h' i n bs s v := by
  obtain ⟨a1, a2, a3, a4, a5, a6, a7, a8, a9, a10⟩ := a
  refine ⟨?_, ?_, ?_, ?_, ?_, ?_, fun j => ?_, Nat.lt_of_lt_of_le a8 x.1, Nat.lt_of_lt_of_le a9 x.1, ?_⟩
  · rw [(x.2.2.1 39800 i (Or.inr (by decide)) (n1 _)).2.2]; exact a1
  · rw [x.tg a8]; exact a2
  · rw [x.fP a8 (n2 _)]; exact a3
  · rw [x.fI a8 (n3 _)]; exact a4
  · rw [x.fI a9 (n4 _)]; exact a5
  · rw [x.ln a9]; exact a6
  · rw [x.aI a9 n5]; exact a7 j
  · rw [(x.2.2.1 9900 1 (Or.inr (by decide)) (n6 _)).1]; exact a10
section
variable {d : Nat} {h : AH} {Q : Option V → AH → Prop} {i n s v : Nat} {bs : List Int32}
theorem s_isLatin1 (S : STR h i n bs s v) : wp d K_J0_isLatin1_aae02 0 [] [(0, vr (some s))] h Q = Q (some (vi 1)) h := by
  obtain ⟨a1, a2, a3, a4, a5, a6, a7, a8, a9, a10⟩ := S
  rw [bk_J0_isLatin1_aae02_0, bk_J0_isLatin1_aae02_2, bk_J0_isLatin1_aae02_5, bk_J0_isLatin1_aae02_8, a10, a4, a2]
  simp
theorem s_length (S : STR h i n bs s v) (hn : n < 2 ^ 31) : wp (d + 1) K_J0_length_8abf5 0 [] [(0, vr (some s))] h Q = Q (some (vi (nI n))) h := by
  obtain ⟨a1, a2, a3, a4, a5, a6, a7, a8, a9, a10⟩ := S
  have e0 : Int32.ofNat n >>> ((0 : Int32) &&& 31) = nI n := by
    have := pk_shrN (n := n) hn ((0 : Int32) &&& 31) 0 (by decide)
    rw [Nat.pow_zero, Nat.div_one] at this
    exact this
  have e1 : (Int32.toInt8 0).toInt32 = 0 := by decide
  rw [bk_J0_length_8abf5_0, a3, nn_some, bk_J0_coder_7d493_0, bk_J0_coder_7d493_2, bk_J0_coder_7d493_6, a10, a4, a2, a5, a6]
  simp [bk_J0_length_8abf5_5, psh, e0, e1]
  exact Iff.rfl
theorem s_indexOf (S : STR h i n bs s v) (hn : n < 2 ^ 31) (hn0 : 0 < n) {c : Nat} (hc : c < 256) : wp (d + 3) K_J0_indexOf_0f7a4 0 [] [(0, vr (some s)), (1, vi (nI c))] h Q = Q (some (vi (oI (ffst (fun j => decide (bs.getD j 0 = (Int32.toInt8 (nI c)).toInt32)) n 0)))) h := by
  have S0 := S
  obtain ⟨a1, a2, a3, a4, a5, a6, a7, a8, a9, a10⟩ := S
  have arr : tg h v = 151 ∨ fI h 9901 v = 152 ∨ fI h 9901 v = 153 ∨ tg h v = 101 ∨ tg h v = 102 ∨ tg h v = 103 ∨ tg h v = 104 ∨ tg h v = 109 := Or.inr (Or.inl a5)
  have L : ∀ (Q' : Option V → AH → Prop) m k, k + m = n → wp d K_J1_indexOfChar_4cfef 5 [] [(0, vr (some v)), (1, vi (nI c)), (2, vi (nI 0)), (3, vi (nI n)), (4, vi (Int32.toInt8 (nI c)).toInt32), (5, vi (nI k))] h Q' = Q' (some (vi (oI (ffst (fun j => decide (bs.getD j 0 = (Int32.toInt8 (nI c)).toInt32)) m k)))) h := by
    intro Q' m
    induction m with
    | zero =>
      intro k e
      rw [bk_J1_indexOfChar_4cfef_5]
      simp (disch := omega) only [nI_clamp, nI_leI, nI_ltI, nI_eq, nI_add, pk_mul, vp_in_nI, nI_1, true_and, and_true, true_implies, implies_true, not_true_eq_false, not_false_eq_true, false_implies, psh, nn_some, forall_const, show n ≤ k by omega, bk_J1_indexOfChar_4cfef_17]
      rfl
    | succ m ih =>
      intro k e
      rw [bk_J1_indexOfChar_4cfef_5]
      simp (disch := omega) only [nI_clamp, nI_leI, nI_ltI, nI_eq, nI_add, pk_mul, vp_in_nI, nI_1, true_and, and_true, true_implies, implies_true, not_true_eq_false, not_false_eq_true, false_implies, psh, nn_some, forall_const, show ¬ n ≤ k by omega, bk_J1_indexOfChar_4cfef_8, a6, a7]
      rw [bk_J1_indexOfChar_4cfef_15, nI_1, ih (k + 1) (by omega), bk_J1_indexOfChar_4cfef_13, ffst]
      by_cases z : bs.getD k 0 = (Int32.toInt8 (nI c)).toInt32
      · simp only [z, a5, or_true, true_and, not_true_eq_false, false_implies, not_false_eq_true, true_implies, decide_true, if_true]
        rfl
      · simp only [z, a5, or_true, true_and, not_true_eq_false, false_implies, not_false_eq_true, true_implies, and_true, decide_false, Bool.false_eq_true, if_false]
  have c1 : ¬ nI c < 0 := nI_pos (by omega)
  have c2 : ¬ (255 : Int32) < nI c := by
    rw [show (255 : Int32) = nI 255 from rfl, nI_ltI (by omega) (by omega)]; omega
  have m1 : (if (0 : Int32) < 0 then (0 : Int32) else 0) = nI 0 := rfl
  have m2 : (if Int32.ofNat n < nI n then Int32.ofNat n else nI n) = nI n := by
    split <;> rfl
  have lt : nI 0 < nI n := nI_lt hn0 hn
  rw [bk_J0_indexOf_0f7a4_0, bk_J0_indexOf_7cf53_0, s_isLatin1 S0]
  simp only [psh, bk_J0_indexOf_7cf53_2, bk_J0_indexOf_7cf53_3]
  rw [s_length S0 hn, a3]
  simp only [psh, bk_J0_indexOf_7cf53_9, bk_J1_indexOf_4cfef_0, bk_J1_canEncode_9a6ad_0, bk_J1_canEncode_9a6ad_7, bk_J1_canEncode_9a6ad_2, bk_J1_canEncode_9a6ad_8, bk_J1_canEncode_9a6ad_5, bk_J1_indexOf_4cfef_2, bk_J1_indexOf_4cfef_5, nn_some, a6]
  rw [m1, m2, bk_J1_indexOf_4cfef_19, bk_J1_indexOfChar_4cfef_0, L _ n 0 (by omega)]
  have e1 : ¬ (1 : Int32) = 0 := by decide
  simp only [psh, bk_J1_indexOf_4cfef_24, bk_J0_indexOf_7cf53_10, bk_J0_indexOf_7cf53_18, bk_J0_indexOf_0f7a4_4]
  simp only [a2, c1, c2, e1, arr, lt, false_implies, true_implies, true_and, and_true, not_false_eq_true, not_true_eq_false, or_true]
end
