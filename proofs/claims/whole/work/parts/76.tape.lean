/-! The class's tape: tokens -/
def sgT (x : Int32) : Nat := if x = -1 then 28 else if x = 123 then 20 else if x = 125 then 21 else if x = 40 then 22 else if x = 41 then 23 else if x = 59 then 24 else if x = 44 then 25 else if x = 124 then 26 else 29
/-- the class's number of the reference's token -/
def tkn (r : RV) : Nat := if gi r 1451 = 0 then kwI (gl r 21450) else sgT (gi r 1451)
def sgL : List Int32 := [123, 125, 40, 41, 59, 44, 124]
/-- what does not change of the tape: bytes t, n of them -/
def TS (h : AH) (T : Nat) (t : Nat → Int32) (n : Nat) : Prop := tg h T = 10 ∧ T + 2 < tp h ∧ fP h 30900 T = some (T + 1) ∧ tg h (T + 1) = 103 ∧ ln h (T + 1) = 2000 ∧ fP h 30901 T = some (T + 2) ∧ tg h (T + 2) = 102 ∧ ln h (T + 2) = 20 ∧ fI h 902 T = nI n ∧ n ≤ 2000 ∧ (∀ i, i < n → aI h (T + 1) i &&& 255 = t i ∧ ∃ b, b < 256 ∧ t i = nI b) ∧ (∀ k, k < 20 → aJ h (T + 2) k = lN (cv 8 (kwN k))) ∧ ∃ s v, STR h 5 7 sgL s v
def ET (T : Nat) (g x : Nat) : Prop := x = T ∧ (g = 903 ∨ g = 904 ∨ g = 905 ∨ g = 20906)
/-- only the token has changed -/
def TW (T : Nat) (h h' : AH) : Prop := FX (ET T) h h' ∧ tp h' = tp h ∧ rc h' = rc h ∧ rs h' = rs h
theorem TW.tr {T : Nat} {h h' h'' : AH} (a : TW T h h') (b : TW T h' h'') : TW T h h'' := ⟨a.1.tr b.1, b.2.1.trans a.2.1, b.2.2.1.trans a.2.2.1, b.2.2.2.trans a.2.2.2⟩
theorem TW.rf {T : Nat} {h : AH} : TW T h h := ⟨FX.rf, rfl, rfl, rfl⟩
theorem TW.FI {T : Nat} {h : AH} {f : Nat} {v : Int32} (hf : f = 903 ∨ f = 904 ∨ f = 905 ∨ f = 20906) : TW T h (setFI h f T v) := ⟨FX.FI ⟨rfl, hf⟩, rfl, rfl, rfl⟩
theorem TW.FJ {T : Nat} {h : AH} {f : Nat} {v : Int64} (hf : f = 903 ∨ f = 904 ∨ f = 905 ∨ f = 20906) : TW T h (setFJ h f T v) := ⟨FX.FJ ⟨rfl, hf⟩, rfl, rfl, rfl⟩
theorem TS.fx {E : Nat → Nat → Prop} {h h' : AH} {T n : Nat} {t : Nat → Int32} (a : TS h T t n) (x : FX E h h') (n1 : ¬ E 30900 T) (n2 : ¬ E 30901 T) (n3 : ¬ E 902 T) (n4 : ¬ E 90001 (T + 1)) (n5 : ¬ E 90001 (T + 2)) (m1 : ∀ y, ¬ E 39800 y) (m2 : ∀ y, ¬ E 36900 y) (m3 : ∀ y, ¬ E 46901 y) (m4 : ∀ y, ¬ E 9901 y) (m5 : ∀ y, E 90001 y → tg h y ≠ 0 → tg h y = 101 ∨ tg h y = 102 ∨ tg h y = 103) (m7 : ∀ y, y < tp h → fI h 9901 y = 152 → ¬ E 90001 y) (m6 : ∀ y, ¬ E 9900 y) : TS h' T t n := by
  obtain ⟨a1, a2, a3, a4, a5, a6, a7, a8, a9, a10, a11, a12, s, v, a13⟩ := a
  have l0 : T < tp h := by omega
  have l1 : T + 1 < tp h := by omega
  have v9 := a13.2.2.2.2.2.2.2.2.1
  have v5 := a13.2.2.2.2.1
  refine ⟨by rw [x.tg l0]; exact a1, Nat.lt_of_lt_of_le a2 x.1, by rw [x.fP l0 n1]; exact a3, by rw [x.tg l1]; exact a4, by rw [x.ln l1]; exact a5, by rw [x.fP l0 n2]; exact a6, by rw [x.tg a2]; exact a7, by rw [x.ln a2]; exact a8, by rw [x.fI l0 n3]; exact a9, a10, fun i hi => by rw [x.aI l1 n4]; exact a11 i hi, fun k hk => by rw [x.aJ a2 n5]; exact a12 k hk, s, v, a13.fx x m1 m2 m3 m4 (m7 v v9 v5) m6⟩
theorem TS.tw {h h' : AH} {T n : Nat} {t : Nat → Int32} (a : TS h T t n) (x : TW T h h') : TS h' T t n := by
  have ne : ∀ g y, (¬ (g = 903 ∨ g = 904 ∨ g = 905 ∨ g = 20906)) → ¬ ET T g y := fun g y q z => q z.2
  exact a.fx x.1 (ne _ _ (by decide)) (ne _ _ (by decide)) (ne _ _ (by decide)) (ne _ _ (by decide)) (ne _ _ (by decide)) (fun y => ne _ _ (by decide)) (fun y => ne _ _ (by decide)) (fun y => ne _ _ (by decide)) (fun y => ne _ _ (by decide)) (fun y z => absurd z (ne _ _ (by decide))) (fun y _ _ => ne _ _ (by decide)) (fun y => ne _ _ (by decide))
section
variable {d : Nat} {h : AH} {Q : Option V → AH → Prop} {T n : Nat} {t : Nat → Int32}
theorem p_byteAt (S : TS h T t n) {i : Nat} (hi : i < 2 ^ 30) : wp d K_X7_byteAt 0 [] [(0, vr (some T)), (1, vi (nI i))] h Q = Q (some (vi (if i < n then t i else -1))) h := by
  obtain ⟨a1, a2, a3, a4, a5, a6, a7, a8, a9, a10, a11, a12, a13⟩ := S
  have c0 : ¬ nI i < 0 := nI_pos (by omega)
  rw [bk_X7_byteAt_0, bk_X7_byteAt_2, bk_X7_byteAt_6, bk_X7_byteAt_11, a3, a9, nn_some, nn_some, a5, show Int32.ofNat 2000 = nI 2000 from rfl]
  simp (disch := omega) only [nI_clamp, nI_leI, nI_ltI, nI_eq, nI_add, pk_mul, vp_in_nI, nI_1, true_and, and_true, true_implies, implies_true, not_true_eq_false, not_false_eq_true, false_implies, psh, nn_some, forall_const, bk_X7_byteAt_18, bk_X7_byteAt_19, a1, a4, c0]
  by_cases c : i < n
  · have c2 : ¬ n ≤ i := by omega
    have c3 : ¬ 2000 ≤ i := by omega
    have c4 : i < 2000 := by omega
    have c5 : vp_in (nI i) 2000 := pk_in i 2000 c4
    rw [if_pos c, (a11 i c).1]
    simp [c2, c3, c4, c5]
  · have c2 : n ≤ i := by omega
    simp [c, c2]
theorem p_isBlank (x : Int32) : wp d K_X7_isBlank 0 [] [(0, vi x)] h Q = Q (some (vi (b2i (isBl x)))) h := by
  simp only [bk_X7_isBlank_0, bk_X7_isBlank_6, bk_X7_isBlank_3, bk_X7_isBlank_9, bk_X7_isBlank_8]
  unfold isBl b2i
  by_cases c1 : x = 32
  · subst c1; simp
  · by_cases c2 : x = 10
    · subst c2; simp
    · simp [c1, c2]
theorem p_isLetter (x : Int32) : wp d K_X7_isLetter 0 [] [(0, vi x)] h Q = Q (some (vi (b2i (isLe x)))) h := by
  simp only [bk_X7_isLetter_0, bk_X7_isLetter_8, bk_X7_isLetter_3, bk_X7_isLetter_9, bk_X7_isLetter_6]
  unfold isLe b2i
  by_cases c : x < 97 <;> by_cases c2 : 122 < x <;> simp [c, c2]
theorem sg_nat : ∀ b, b < 256 → (match ffst (fun j => decide (sgL.getD j 0 = (Int32.toInt8 (nI b)).toInt32)) 7 0 with | none => 29 | some j => 20 + j) = sgT (nI b) := by decide +kernel
theorem p_sign (S : TS h T t n) {x : Int32} (hx : x = -1 ∨ ∃ b, b < 256 ∧ x = nI b) : wp (d + 4) K_X7_tokenOfSign 0 [] [(0, vi x)] h Q = Q (some (vi (nI (sgT x)))) h := by
  obtain ⟨-, -, -, -, -, -, -, -, -, -, -, -, s, v, S5⟩ := S
  rw [bk_X7_tokenOfSign_0]
  rcases hx with hx | ⟨b, hb, hx⟩
  · subst hx
    rw [bk_X7_tokenOfSign_3]
    simp only [not_true_eq_false, false_implies, true_and, not_false_eq_true, true_implies]
    rfl
  · have n1 : ¬ x = -1 := by rw [hx]; exact nI_ne_m1 (by omega)
    rw [bk_X7_tokenOfSign_5, S5.1, nn_some]
    have ec : (Int32.toUInt32 x % 65536).toInt32 = nI b := by
      rw [pk_char, hx]
      have e1 : (nI b).toBitVec.toNat = b := pk_tn (by omega)
      rw [e1, Nat.mod_eq_of_lt (by omega)]
    rw [ec, s_indexOf S5 (by omega) (by omega) hb]
    simp only [psh, bk_X7_tokenOfSign_9, bk_X7_tokenOfSign_12, bk_X7_tokenOfSign_14, bk_X7_tokenOfSign_17]
    have e := sg_nat b hb
    rw [hx] at n1 ⊢
    rw [← e]
    cases ef : ffst (fun j => decide (sgL.getD j 0 = (Int32.toInt8 (nI b)).toInt32)) 7 0 with
    | none =>
      have q : ¬ (0 : Int32) ≤ -1 := by decide
      simp only [n1, oI, q, S5.2.1, not_false_eq_true, true_implies, true_and, false_implies, not_true_eq_false, and_true]
      rfl
    | some j =>
      have hj := (ffst_some ef).2.1
      have q : (0 : Int32) ≤ nI j := nI_pos' (by omega)
      simp only [n1, oI, q, S5.2.1, not_false_eq_true, true_implies, true_and, false_implies, not_true_eq_false, and_true]
      rw [show (20 : Int32) = nI 20 from rfl, nI_add]
theorem p_word (S : TS h T t n) {q e a : Nat} (h5 : fI h 905 T = nI q) (h3 : fI h 903 T = nI e) (hqe : q ≤ e) (he : e < 2 ^ 20) (hw : e - q ≤ 8 → vd 8 a ∧ fJ h 20906 T = lN (cv 8 a)) : wp d K_X7_tokenOfWord 0 [] [(0, vr (some T))] h Q = Q (some (vi (nI (if e - q ≤ 8 then kwI (lN a) else 29)))) h := by
  obtain ⟨a1, a2, a3, a4, a5, a6, a7, a8, a9, a10, a11, a12, a13⟩ := S
  rw [bk_X7_tokenOfWord_0, h3, h5, pk_sub hqe, show (8 : Int32) = nI 8 from rfl, bk_X7_tokenOfWord_7]
  simp (disch := omega) only [nI_clamp, nI_leI, nI_ltI, nI_eq, nI_add, pk_mul, vp_in_nI, nI_1, true_and, and_true, true_implies, implies_true, not_true_eq_false, not_false_eq_true, false_implies, psh, nn_some, forall_const, a1]
  refine ite2 (fun c => ?_) (fun c => by rw [if_neg c]; rfl)
  obtain ⟨va, ew⟩ := hw c
  rw [if_pos c, bk_X7_tokenOfWord_9]
  have L : ∀ m k, k + m = 20 → wp d K_X7_tokenOfWord 11 [] [(0, vr (some T)), (1, vi (nI k))] h Q = Q (some (vi (nI ((ffst (fun k => decide (lN (kwN k) = lN a)) m k).getD 27)))) h := by
    intro m
    induction m with
    | zero =>
      intro k e
      rw [bk_X7_tokenOfWord_11, a6, nn_some, a8, show Int32.ofNat 20 = nI 20 from rfl]
      simp (disch := omega) only [nI_clamp, nI_leI, nI_ltI, nI_eq, nI_add, pk_mul, vp_in_nI, nI_1, true_and, and_true, true_implies, implies_true, not_true_eq_false, not_false_eq_true, false_implies, psh, nn_some, forall_const, a1, a7, show 20 ≤ k by omega, bk_X7_tokenOfWord_28]
      simp [ffst]
      exact Iff.rfl
    | succ m ih =>
      intro k e
      rw [bk_X7_tokenOfWord_11, a6, nn_some, a8, show Int32.ofNat 20 = nI 20 from rfl]
      simp (disch := omega) only [nI_clamp, nI_leI, nI_ltI, nI_eq, nI_add, pk_mul, vp_in_nI, nI_1, true_and, and_true, true_implies, implies_true, not_true_eq_false, not_false_eq_true, false_implies, psh, nn_some, forall_const, a1, a7, show ¬ 20 ≤ k by omega]
      rw [bk_X7_tokenOfWord_16, a6, nn_some, a8, ew]
      simp (disch := omega) only [nI_clamp, nI_leI, nI_ltI, nI_eq, nI_add, pk_mul, vp_in_nI, nI_1, true_and, and_true, true_implies, implies_true, not_true_eq_false, not_false_eq_true, false_implies, psh, nn_some, forall_const, a1, a7, lg0]
      rw [a12 k (by omega), bk_X7_tokenOfWord_26, nI_1, ih (k + 1) (by omega), bk_X7_tokenOfWord_24, ffst]
      have vk := kwN_vd k (by omega)
      have eq : (lN (cv 8 (kwN k)) = lN (cv 8 a)) ↔ lN (kwN k) = lN a := by
        rw [← conv_lN vk, ← conv_lN va]
        exact conv_inj ⟨_, vk, rfl⟩ ⟨_, va, rfl⟩
      by_cases z : lN (kwN k) = lN a
      · have z2 := eq.mpr z
        simp [z, z2]
      · have z2 : ¬ lN (cv 8 (kwN k)) = lN (cv 8 a) := fun y => z (eq.mp y)
        simp [z, z2]
  rw [show vi 0 = vi (nI 0) from rfl, L 20 0 (by omega)]
  rfl
end
