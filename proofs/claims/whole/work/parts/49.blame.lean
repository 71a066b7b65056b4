/-! The reference's mistakes: one number each, a sorted list -/
def keyN (p c k : Nat) : Nat := p * 512 + c * 32 + k
/-- -1 for 0, else one less -/
def kI (n : Nat) : Int32 := nI n - 1
theorem kI_0 : kI 0 = -1 := by decide
theorem kI_1 (n : Nat) : kI (n + 1) = nI n := nI_pred n
theorem kI_toInt {n : Nat} (h : n < 2 ^ 30) : (kI n).toInt = (n : Int) - 1 := by
  have := pk_sub_toInt (a := n) (b := 1) h (by omega)
  exact this
theorem kI_oI (o : Option Nat) : oI o = kI (match o with | none => 0 | some k => k + 1) := by
  cases o with
  | none => exact kI_0.symm
  | some k => exact (kI_1 k).symm
def decI (e : Nat) : Int32 × Int32 × Int32 := (nI (e / 512), nI (e / 32 % 16), kI (e % 32))
theorem decI_key {p c k : Nat} (hc : c < 16) (hk : k < 32) : decI (keyN p c k) = (nI p, nI c, kI k) := by
  unfold decI keyN
  rw [show (p * 512 + c * 32 + k) / 512 = p by omega, show (p * 512 + c * 32 + k) / 32 % 16 = c by omega, show (p * 512 + c * 32 + k) % 32 = k by omega]
theorem key_lt {p c k e : Nat} (hc : c < 16) (hk : k < 32) : keyN p c k < e ↔ p < e / 512 ∨ (p = e / 512 ∧ (c < e / 32 % 16 ∨ (c = e / 32 % 16 ∧ k < e % 32))) := by
  unfold keyN
  omega
def leL (l : List Nat) : Prop := l.Pairwise (· ≤ ·)
/-- the mistakes of a view, as numbers -/
def MS (r : RV) (l : List Nat) : Prop := gi r 1460 = nI l.length ∧ ∀ i (hi : i < l.length), (ai r 50 i, ai r 49 i, ai r 51 i) = decI l[i]
/-- h is as at the start of the judging (view r), but for the mistakes, which are l -/
def JS (r : RV) (h : AH) (a : Nat) (l : List Nat) : Prop := RS h a ∧ leL l ∧ MS (view h a) l ∧ ∃ p c x y z, view h a = put r p c x y z
theorem e_isBefore {d : Nat} {h : AH} {Q : Option V → AH → Prop} {p c k e : Nat} (hp : p < 2 ^ 22) (hc : c < 16) (hk : k < 32) (he : e < 2 ^ 31) : wp d K_X12_isBefore 0 [] [(0, vi (nI p)), (1, vi (nI c)), (2, vi (kI k)), (3, vi (nI (e / 512))), (4, vi (nI (e / 32 % 16))), (5, vi (kI (e % 32)))] h Q = Q (some (vi (b2i (decide (keyN p c k < e))))) h := by
  have hd : e / 512 < 2 ^ 31 := by omega
  have l3 : (kI (e % 32) ≤ kI k) = (e % 32 ≤ k) := by
    apply propext
    rw [Int32.le_iff_toInt_le, kI_toInt (by omega), kI_toInt (by omega)]
    omega
  have K := key_lt (p := p) (e := e) hc hk
  simp (disch := omega) only [bk_X12_isBefore_0, bk_X12_isBefore_10, bk_X12_isBefore_3, bk_X12_isBefore_20, bk_X12_isBefore_13, bk_X12_isBefore_8, bk_X12_isBefore_6, bk_X12_isBefore_25, bk_X12_isBefore_23, bk_X12_isBefore_18, bk_X12_isBefore_16, bk_X12_isBefore_26, nI_clamp, nI_leI, nI_ltI, nI_eq, nI_add, pk_mul, vp_in_nI, nI_1, true_and, and_true, true_implies, implies_true, not_true_eq_false, not_false_eq_true, false_implies, psh, nn_some, forall_const, l3]
  by_cases c1 : p = e / 512
  · by_cases c2 : c = e / 32 % 16
    · by_cases c3 : e % 32 ≤ k
      · rw [decide_eq_false (show ¬ keyN p c k < e by rw [K]; omega)]
        simp [c1, c2, c3, b2i]
      · rw [decide_eq_true (show keyN p c k < e by rw [K]; omega)]
        simp [c1, c2, c3, b2i]
    · by_cases c3 : e / 32 % 16 ≤ c
      · rw [decide_eq_false (show ¬ keyN p c k < e by rw [K]; omega)]
        simp [c1, c2, c3, b2i]
      · rw [decide_eq_true (show keyN p c k < e by rw [K]; omega)]
        simp [c1, c2, c3, b2i]
  · by_cases c3 : e / 512 ≤ p
    · rw [decide_eq_false (show ¬ keyN p c k < e by rw [K]; omega)]
      simp [c1, c3, b2i]
    · rw [decide_eq_true (show keyN p c k < e by rw [K]; omega)]
      simp [c1, c3, b2i]
theorem ins_mid (l : List Nat) (i e : Nat) (hi : i ≤ l.length) : ∀ j (hj : j < (l.take i ++ e :: l.drop i).length), (l.take i ++ e :: l.drop i)[j] = if j < i then l[j]?.getD 0 else if j = i then e else l[j - 1]?.getD 0 := by
  intro j hj
  have hl : (l.take i).length = i := by rw [List.length_take]; omega
  rw [List.getElem_append]
  rw [List.length_append, hl, List.length_cons, List.length_drop] at hj
  by_cases c : j < i
  · rw [if_pos c, dif_pos (by rw [hl]; exact c), List.getElem_take, List.getElem?_eq_getElem (by omega)]; rfl
  · rw [if_neg c, dif_neg (by rw [hl]; exact c)]
    by_cases c2 : j = i
    · subst c2; rw [if_pos rfl]; simp [hl]
    · rw [if_neg c2]
      obtain ⟨t, rfl⟩ : ∃ t, j = i + 1 + t := ⟨j - i - 1, by omega⟩
      have e1 : i + 1 + t - (l.take i).length = t + 1 := by rw [hl]; omega
      simp only [e1, List.getElem_cons_succ, List.getElem_drop]
      rw [List.getElem?_eq_getElem (show i + 1 + t - 1 < l.length by omega)]
      show _ = l[i + 1 + t - 1]
      congr 1
      omega
section
variable {d : Nat} {h : AH} {a : Nat} {Q : Option V → AH → Prop}
theorem j_blame {r : RV} {l : List Nat} (J : JS r h a l) (hl : l.length < 4000) (he : ∀ e, e ∈ l → e < 2 ^ 31) {p c k : Nat} (hp : p < 2 ^ 22) (hc : c < 16) (hk : k < 32)
    (H : ∀ h' l', JS r h' a l' → l'.Perm (keyN p c k :: l) → Q none h') : wp (d + 1) K_X12_blame 0 [] [(0, vr (some a)), (1, vi (nI c)), (2, vi (nI p)), (3, vi (kI k))] h Q := by
  obtain ⟨hs, hS, ⟨M1, M2⟩, p0, c0, x0, y0, z0, ev⟩ := J
  have fin : ∀ i (h1 : AH) x y z p1, i ≤ l.length → RS h1 a → view h1 a = put r p1 (nI l.length) x y z → (∀ j (hj : j < l.length), j < i → (y j, x j, z j) = decI l[j]) → (∀ j (hj : j < l.length), i ≤ j → (y (j + 1), x (j + 1), z (j + 1)) = decI l[j]) → (∀ j (hj : j < l.length), j < i → l[j] ≤ keyN p c k) → (∀ j (hj : j < l.length), i ≤ j → keyN p c k ≤ l[j]) → wp (d + 1) K_X12_blame 60 [] [(0, vr (some a)), (1, vi (nI c)), (2, vi (nI p)), (3, vi (kI k)), (4, vi (nI i))] h1 Q := by
    intro i h1 x y z p1 hi hs1 ev1 A B C D
    rw [rb_X12_blame_60 _ _ _ _ _ hs1]
    simp (disch := omega) only [nI_clamp, nI_leI, nI_ltI, nI_eq, nI_add, pk_mul, vp_in_nI, nI_1, true_and, and_true, true_implies, implies_true, not_true_eq_false, not_false_eq_true, false_implies, psh, nn_some, forall_const]
    rw [rb_X12_blame_75 _ _ _ _ _ (RS_AI _ _ _ (RS_AI _ _ _ (RS_AI _ _ _ hs1)))]
    have f0 : fI (setAI (setAI (setAI h1 (a + 49) i (nI c)) (a + 50) i (nI p)) (a + 51) i (kI k)) 1460 a = nI l.length := by
      show gi (view h1 a) 1460 = _
      rw [ev1]; rfl
    rw [f0, nI_1]
    have lt : (l.take i).length = i := by rw [List.length_take]; omega
    have len : (l.take i ++ keyN p c k :: l.drop i).length = l.length + 1 := by
      rw [List.length_append, lt, List.length_cons, List.length_drop]; omega
    refine H _ (l.take i ++ keyN p c k :: l.drop i) ⟨hs1, ?_, ?_, ?_⟩ ?_
    · unfold leL at hS ⊢
      rw [List.pairwise_append, List.pairwise_cons]
      have S2 := hS
      rw [← List.take_append_drop i l, List.pairwise_append] at S2
      obtain ⟨s1, s2, s3⟩ := S2
      refine ⟨s1, ⟨fun e m => ?_, s2⟩, fun e m f m2 => ?_⟩
      · obtain ⟨j, hj, rfl⟩ := List.mem_iff_getElem.mp m
        rw [List.getElem_drop]
        exact D _ _ (by omega)
      · rcases List.mem_cons.mp m2 with m2 | m2
        · obtain ⟨j, hj, rfl⟩ := List.mem_iff_getElem.mp m
          rw [m2, List.getElem_take]
          rw [lt] at hj
          exact C _ _ hj
        · exact s3 e m f m2
    · have vv : view (setFI (setAI (setAI (setAI h1 (a + 49) i (nI c)) (a + 50) i (nI p)) (a + 51) i (kI k)) 1460 a (nI (l.length + 1))) a = put r p1 (nI (l.length + 1)) (up1 x i (nI c)) (up1 y i (nI p)) (up1 z i (kI k)) := by
        rw [view_FI, view_AI, view_AI, view_AI, ev1, put_t49, put_t50, put_t51, put_sC]
      rw [vv]
      refine ⟨by rw [len]; rfl, fun j hj => ?_⟩
      show (up1 y i (nI p) j, up1 x i (nI c) j, up1 z i (kI k) j) = _
      rw [ins_mid l i _ hi j hj]
      rw [len] at hj
      by_cases c1 : j < i
      · rw [if_pos c1, List.getElem?_eq_getElem (by omega)]
        have := A j (by omega) c1
        simpa [up1, show ¬ j = i by omega] using this
      · rw [if_neg c1]
        by_cases c2 : j = i
        · rw [if_pos c2, decI_key hc hk]
          simp [up1, c2]
        · rw [if_neg c2]
          obtain ⟨t, rfl⟩ : ∃ t, j = t + 1 := ⟨j - 1, by omega⟩
          rw [show t + 1 - 1 = t by omega, List.getElem?_eq_getElem (by omega)]
          have := B t (by omega) (by omega)
          simpa [up1, c2] using this
    · exact ⟨_, _, _, _, _, by rw [view_FI, view_AI, view_AI, view_AI, ev1, put_t49, put_t50, put_t51, put_sC]⟩
    · have := List.perm_middle (a := keyN p c k) (l₁ := l.take i) (l₂ := l.drop i)
      rw [List.take_append_drop] at this
      exact this
  have L : ∀ i (h1 : AH) x y z p1, i ≤ l.length → RS h1 a → view h1 a = put r p1 (nI l.length) x y z → (∀ j (hj : j < l.length), j < i → (y j, x j, z j) = decI l[j]) → (∀ j (hj : j < l.length), i ≤ j → (y (j + 1), x (j + 1), z (j + 1)) = decI l[j]) → (∀ j (hj : j < l.length), i ≤ j → keyN p c k ≤ l[j]) → wp (d + 1) K_X12_blame 3 [] [(0, vr (some a)), (1, vi (nI c)), (2, vi (nI p)), (3, vi (kI k)), (4, vi (nI i))] h1 Q := by
    intro i
    induction i with
    | zero =>
      intro h1 x y z p1 hi hs1 ev1 A B D
      rw [bk_X12_blame_3, lt0]
      simp (disch := omega) only [nI_clamp, nI_leI, nI_ltI, nI_eq, nI_add, pk_mul, vp_in_nI, nI_1, true_and, and_true, true_implies, implies_true, not_true_eq_false, not_false_eq_true, false_implies, psh, nn_some, forall_const, Nat.le_refl]
      exact fin 0 h1 x y z p1 hi hs1 ev1 A B (fun j hj z => by omega) D
    | succ i ih =>
      intro h1 x y z p1 hi hs1 ev1 A B D
      rw [bk_X12_blame_3, lt0]
      simp (disch := omega) only [nI_clamp, nI_leI, nI_ltI, nI_eq, nI_add, pk_mul, vp_in_nI, nI_1, true_and, and_true, true_implies, implies_true, not_true_eq_false, not_false_eq_true, false_implies, psh, nn_some, forall_const, show ¬ i + 1 ≤ 0 by omega]
      have a49 : ∀ j, aI h1 (a + 49) j = x j := fun j => by show ai (view h1 a) 49 j = _; rw [ev1]; rfl
      have a50 : ∀ j, aI h1 (a + 50) j = y j := fun j => by show ai (view h1 a) 50 j = _; rw [ev1]; rfl
      have a51 : ∀ j, aI h1 (a + 51) j = z j := fun j => by show ai (view h1 a) 51 j = _; rw [ev1]; rfl
      have Ai := A i (by omega) (by omega)
      have Ay : y i = nI (l[i] / 512) := congrArg (fun q => q.1) Ai
      have Ax : x i = nI (l[i] / 32 % 16) := congrArg (fun q => q.2.1) Ai
      have Az : z i = kI (l[i] % 32) := congrArg (fun q => q.2.2) Ai
      have eli := he l[i] (List.getElem_mem _)
      rw [rb_X12_blame_5 _ _ _ _ _ hs1, nI_pred]
      simp (disch := omega) only [nI_clamp, nI_leI, nI_ltI, nI_eq, nI_add, pk_mul, vp_in_nI, nI_1, true_and, and_true, true_implies, implies_true, not_true_eq_false, not_false_eq_true, false_implies, psh, nn_some, forall_const, a49, a50, a51]
      rw [Ay, Ax, Az, e_isBefore hp hc hk eli]
      simp only [psh, bk_X12_blame_27, b2i_0]
      refine ⟨fun q => ?_, fun q => ?_⟩
      · have q : ¬ keyN p c k < l[i] := of_decide_eq_false q
        refine fin (i + 1) h1 x y z p1 hi hs1 ev1 A B (fun j hj ji => ?_) D
        by_cases z : j = i
        · subst z; omega
        · have := List.pairwise_iff_getElem.mp hS j i hj (by omega) (by omega)
          omega
      · have q : keyN p c k < l[i] := by simpa using q
        have s1 : ∀ v, (setAI h1 (a + 49) (i + 1) v).2.2.2.1 = up2 h1.2.2.2.1 (a + 49) (i + 1) v := fun v => rfl
        rw [rb_X12_blame_28 _ _ _ _ _ hs1, nI_pred]
        simp (disch := omega) only [nI_clamp, nI_leI, nI_ltI, nI_eq, nI_add, pk_mul, vp_in_nI, nI_1, true_and, and_true, true_implies, implies_true, not_true_eq_false, not_false_eq_true, false_implies, psh, nn_some, forall_const, a49]
        have t50 : aI (setAI h1 (a + 49) (i + 1) (x i)) (a + 50) i = y i := by
          rw [← a50]; show (if a + 50 = a + 49 ∧ i = i + 1 then _ else _) = _; rw [if_neg (by omega)]; rfl
        have t51 : aI (setAI (setAI h1 (a + 49) (i + 1) (x i)) (a + 50) (i + 1) (y i)) (a + 51) i = z i := by
          rw [← a51]; show (if a + 51 = a + 50 ∧ i = i + 1 then _ else if a + 51 = a + 49 ∧ i = i + 1 then _ else _) = _
          rw [if_neg (by omega), if_neg (by omega)]; rfl
        rw [t50, t51, bk_X12_blame_58, pk_m1]
        refine ih _ (up1 x (i + 1) (x i)) (up1 y (i + 1) (y i)) (up1 z (i + 1) (z i)) p1 (by omega) hs1 ?_ (fun j hj ji => ?_) (fun j hj ji => ?_) (fun j hj ji => ?_)
        · rw [view_AI, view_AI, view_AI, ev1, put_t49, put_t50, put_t51]
        · have := A j hj (by omega)
          simpa [up1, show ¬ j = i + 1 by omega] using this
        · by_cases z : j = i
          · subst z
            simpa [up1] using A j hj (by omega)
          · have := B j hj (by omega)
            simpa [up1, z] using this
        · by_cases z : j = i
          · subst z; omega
          · exact D j hj (by omega)
  rw [rb_X12_blame_0 _ _ _ _ hs]
  have e0 : fI h 1460 a = nI l.length := M1
  rw [e0]
  have c00 : c0 = nI l.length := by rw [← M1, ev]; rfl
  have i49 : ai (view h a) 49 = x0 := by rw [ev]; rfl
  have i50 : ai (view h a) 50 = y0 := by rw [ev]; rfl
  have i51 : ai (view h a) 51 = z0 := by rw [ev]; rfl
  rw [i49, i50, i51] at M2
  exact L l.length h x0 y0 z0 p0 (Nat.le_refl _) hs (by rw [ev, c00]) (fun j hj _ => M2 j hj) (fun j hj q => by omega) (fun j hj q => by omega)
end
