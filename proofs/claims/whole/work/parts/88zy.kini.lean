/-! The kinds that are there from the start -/
theorem s_charAt {d : Nat} {h : AH} {Q : Option V → AH → Prop} {i n s v : Nat} {bs : List Int32} (S : STR h i n bs s v) {j : Nat} (hj : j < n) (hn : n < 2 ^ 31) {b : Nat} (hb : bs.getD j 0 = nI b) (hb2 : b < 128) (H : Q (some (vi (nI b))) h) : wp (d + 3) K_J0_charAt_5068e 0 [] [(0, vr (some s)), (1, vi (nI j))] h Q := by
  have e : ∀ b, b < 128 → (Int32.toUInt32 ((nI b) &&& 255) % 65536).toInt32 = nI b := by decide +kernel
  have e2 : ∀ b, b < 128 → 0 ≤ nI b ∧ nI b < 65536 := by decide +kernel
  have S0 := S
  obtain ⟨a1, a2, a3, a4, a5, a6, a7, a8, a9, a10⟩ := S
  rw [bk_J0_charAt_5068e_0, s_isLatin1 S0]
  refine ⟨a2, ?_⟩
  simp only [psh]
  rw [bk_J0_charAt_5068e_2]
  refine ⟨fun z => absurd z (by decide), fun _ => ?_⟩
  rw [bk_J0_charAt_5068e_3, a3]
  refine ⟨a2, ?_⟩
  rw [bk_J1_charAt_3b067_0, nn_some, a6]
  refine ⟨Or.inr (Or.inl a5), ?_⟩
  rw [bk_J0_checkIndex_df160_0, bk_J3_checkIndex_8e157_0]
  refine ⟨fun z => absurd z (nI_pos (by omega)), fun _ => ?_⟩
  rw [bk_J3_checkIndex_8e157_2, show Int32.ofNat n = nI n from rfl, nI_ltI (by omega) (by omega)]
  refine ⟨fun _ => ?_, fun z => absurd hj z⟩
  rw [bk_J3_checkIndex_8e157_10]
  simp only [psh, bk_J0_checkIndex_df160_4]
  rw [bk_J1_charAt_3b067_4, nn_some, a6]
  simp (disch := omega) only [nI_clamp, nI_leI, nI_ltI, nI_eq, nI_add, pk_mul, vp_in_nI, nI_1, true_and, and_true, true_implies, implies_true, not_true_eq_false, not_false_eq_true, false_implies, psh, nn_some, forall_const]
  rw [a7, hb, e b hb2]
  refine ⟨Or.inr (Or.inr a5), e2 b hb2, ?_⟩
  rw [bk_J0_charAt_5068e_7]
  exact ⟨e2 b hb2, H⟩
/-- the code of a text -/
def cdF (bs : List Int32) : Nat → Nat → Int64 → Int64
  | 0, _, x => x
  | m + 1, j, x => cdF bs m (j + 1) ((x * 32) + (Int32.toInt64 ((bs.getD j 0 - 97) + 1)))
theorem p_codeOf {d : Nat} {h : AH} {Q : Option V → AH → Prop} {i n s v : Nat} {bs : List Int32} (S : STR h i n bs s v) (hn : n ≤ 100) (hb : ∀ j, j < n → ∃ b, bs.getD j 0 = nI b ∧ b < 128) (H : Q (some (vl (cdF bs n 0 0))) h) : wp (d + 4) K_X7_codeOf 0 [] [(0, vr (some s))] h Q := by
  have L : ∀ m j x, j + m = n → Q (some (vl (cdF bs m j x))) h → wp (d + 4) K_X7_codeOf 4 [] [(0, vr (some s)), (1, vl x), (3, vi (nI j))] h Q := by
    intro m
    induction m with
    | zero =>
      intro j x e hq
      rw [bk_X7_codeOf_4, nn_some, s_length S (by omega)]
      refine ⟨S.2.1, ?_⟩
      simp only [psh]
      rw [bk_X7_codeOf_7, nI_leI (by omega) (by omega)]
      refine ⟨fun _ => ?_, fun z => by omega⟩
      rw [bk_X7_codeOf_16]
      exact hq
    | succ m ih =>
      intro j x e hq
      rw [bk_X7_codeOf_4, nn_some, s_length S (by omega)]
      refine ⟨S.2.1, ?_⟩
      simp only [psh]
      rw [bk_X7_codeOf_7, nI_leI (by omega) (by omega)]
      refine ⟨fun z => by omega, fun _ => ?_⟩
      obtain ⟨b, b1, b2⟩ := hb j (by omega)
      rw [bk_X7_codeOf_8, nn_some]
      refine ⟨S.2.1, s_charAt S (by omega) (by omega) b1 b2 ?_⟩
      simp only [psh]
      rw [bk_X7_codeOf_12, bk_X7_withLetter_0]
      simp only [psh]
      rw [bk_X7_codeOf_13, nI_1]
      refine ih (j + 1) _ (by omega) ?_
      rw [cdF, b1] at hq
      exact hq
  rw [bk_X7_codeOf_0, lt0]
  exact L n 0 0 (by omega) H
def bwS : List Int64 := [6384748, 482854660462, 465726042981, 435711799154]
theorem bw_code : ∀ k, k < 4 → cdF (bytS.getD k []) (lenS.getD k 0) 0 0 = conv (bwS.getD k 0) := by decide +kernel
theorem bw_let : ∀ k, k < 4 → ∀ j, j < lenS.getD k 0 → ((bytS.getD k []).getD j 0 = nI ((bytS.getD k []).getD j 0).toNatClampNeg ∧ ((bytS.getD k []).getD j 0).toNatClampNeg < 128) ∧ lenS.getD k 0 ≤ 100 := by decide +kernel
theorem bw_len : ∀ k, k < 4 → lenS.getD k 0 ≤ 100 := by decide +kernel
theorem k_init {d : Nat} {h : AH} {Q : Option V → AH → Prop} {K : Nat} (hK : tg h K = 6) (htp : tp h = K + 1) (F : FO h 5 K (fun _ => 0) (fun _ => 0) (fun _ => none)) (r1 : 4 ≤ rc h) (r2 : 64 ≤ rs h) (S : ∀ i, i < 4 → ∃ s v, STR h i (lenS.getD i 0) (bytS.getD i []) s v ∧ v < K) (H : ∀ h' par wk pk, KD h' K 4 par wk pk → (∀ k, k < 4 → wk k = conv (bwS.getD k 0) ∧ par k = (if k = 2 then 1 else 0) ∧ pk k = -1) → FX (fun g y => y = K ∧ g / 100 % 100 = 5) h h' → tp h' = K + 5 → rc h' + 4 = rc h → rs h' + 64 = rs h → Q none h') : wp (d + 5) K_X3_init 0 [] [(0, vr (some K))] h Q := by
  have t0 : tg (newA h 2 16) K = 6 := by rw [tg_newA, if_neg (by omega)]; exact hK
  have t1 : tg (newA (setFP (newA h 2 16) 30500 K (some (tp h))) 1 16) K = 6 := by
    rw [tg_newA, if_neg (by rw [tp_setFP, tp_newA]; omega)]; exact t0
  have t2 : tg (newA (setFP (newA (setFP (newA h 2 16) 30500 K (some (tp h))) 1 16) 30501 K (some (tp h + 1))) 1 16) K = 6 := by
    rw [tg_newA, if_neg (by rw [tp_setFP, tp_newA, tp_setFP, tp_newA]; omega)]; exact t1
  have t3 : tg (newA (setFP (newA (setFP (newA (setFP (newA h 2 16) 30500 K (some (tp h))) 1 16) 30501 K (some (tp h + 1))) 1 16) 30502 K (some (tp h + 1 + 1))) 1 16) K = 6 := by
    rw [tg_newA, if_neg (by rw [tp_setFP, tp_newA, tp_setFP, tp_newA, tp_setFP, tp_newA]; omega)]; exact t2
  rw [bk_X3_init_0]
  refine ⟨by decide, by omega, by show 16 ≤ _; omega, ?_⟩
  rw [bk_X3_init_5, nn_some]
  refine ⟨t0, by decide, by show 0 < rc h - 1; omega, by show 16 ≤ rs h - 16; omega, ?_⟩
  rw [bk_X3_init_9, nn_some]
  refine ⟨t1, by decide, by show 0 < rc h - 1 - 1; omega, by show 16 ≤ rs h - 16 - 16; omega, ?_⟩
  rw [bk_X3_init_13, nn_some]
  refine ⟨t2, by decide, by show 0 < rc h - 1 - 1 - 1; omega, by show 16 ≤ rs h - 16 - 16 - 16; omega, ?_⟩
  rw [bk_X3_init_17, nn_some]
  refine ⟨t3, ?_⟩
  have K0 : KD (setFP (newA (setFP (newA (setFP (newA (setFP (newA h 2 16) 30500 K (some (tp h))) 1 16) 30501 K (some (tp h + 1))) 1 16) 30502 K (some (tp h + 1 + 1))) 1 16) 30503 K (some (tp h + 1 + 1 + 1))) K 0 (fun _ => 0) (fun _ => 0) (fun _ => 0) := by
    have n1 : ¬ K = K + 1 + 1 + 1 + 1 := by omega
    have n2 : ¬ K = K + 1 + 1 + 1 := by omega
    have n3 : ¬ K = K + 1 + 1 := by omega
    have n4 : ¬ K = K + 1 := by omega
    have n5 : ¬ K + 1 = K + 1 + 1 + 1 + 1 := by omega
    have n6 : ¬ K + 1 = K + 1 + 1 + 1 := by omega
    have n7 : ¬ K + 2 = K + 1 := by omega
    have n8 : ¬ K + 2 = K + 1 + 1 + 1 + 1 := by omega
    have n9 : ¬ K + 3 = K + 1 := by omega
    have n10 : ¬ K + 3 = K + 1 + 1 := by omega
    have f504 : fI h 504 K = 0 := (F 504 (by decide)).1
    have f505 : fI h 505 K = 0 := (F 505 (by decide)).1
    unfold KD
    simp only [fJ_setFI, fP_setFI, aI_setFI, aJ_setFI, aP_setFI, tg_setFI, ln_setFI, tp_setFI, rc_setFI, rs_setFI, fI_setFJ, fP_setFJ, aI_setFJ, aJ_setFJ, aP_setFJ, tg_setFJ, ln_setFJ, tp_setFJ, rc_setFJ, rs_setFJ, fI_setFP, fJ_setFP, aI_setFP, aJ_setFP, aP_setFP, tg_setFP, ln_setFP, tp_setFP, rc_setFP, rs_setFP, fI_setAI, fJ_setAI, fP_setAI, aJ_setAI, aP_setAI, tg_setAI, ln_setAI, tp_setAI, rc_setAI, rs_setAI, fI_setAJ, fJ_setAJ, fP_setAJ, aI_setAJ, aP_setAJ, tg_setAJ, ln_setAJ, tp_setAJ, rc_setAJ, rs_setAJ, fI_setAP, fJ_setAP, fP_setAP, aI_setAP, aJ_setAP, tg_setAP, ln_setAP, tp_setAP, rc_setAP, rs_setAP, fI_setFI, fJ_setFJ, fP_setFP, aI_setAI, aJ_setAJ, aP_setAP, tg_newO, ln_newO, tp_newO, rc_newO, rs_newO, aI_newO, aJ_newO, aP_newO, fI_newO, fJ_newO, fP_newO, tg_newA, ln_newA, tp_newA, rc_newA, rs_newA, aI_newA, aJ_newA, aP_newA, fI_newA, fJ_newA, fP_newA, htp]
    simp [hK, f504, f505, n1, n2, n3, n4, n5, n6, n7, n8, n9, n10]
    exact ⟨rfl, rfl⟩
  have X0 : FX (fun g y => y = K ∧ g / 100 % 100 = 5) h (setFP (newA (setFP (newA (setFP (newA (setFP (newA h 2 16) 30500 K (some (tp h))) 1 16) 30501 K (some (tp h + 1))) 1 16) 30502 K (some (tp h + 1 + 1))) 1 16) 30503 K (some (tp h + 1 + 1 + 1))) := by
    refine FX.toFP ?_ _ ⟨rfl, by decide⟩
    refine FX.toA ?_ _ _
    refine FX.toFP ?_ _ ⟨rfl, by decide⟩
    refine FX.toA ?_ _ _
    refine FX.toFP ?_ _ ⟨rfl, by decide⟩
    refine FX.toA ?_ _ _
    refine FX.toFP ?_ _ ⟨rfl, by decide⟩
    refine FX.toA ?_ _ _
    exact FX.rf
  have tp0 : tp (setFP (newA (setFP (newA (setFP (newA (setFP (newA h 2 16) 30500 K (some (tp h))) 1 16) 30501 K (some (tp h + 1))) 1 16) 30502 K (some (tp h + 1 + 1))) 1 16) 30503 K (some (tp h + 1 + 1 + 1))) = K + 5 := by show tp h + 1 + 1 + 1 + 1 = _; omega
  have rc0 : rc (setFP (newA (setFP (newA (setFP (newA (setFP (newA h 2 16) 30500 K (some (tp h))) 1 16) 30501 K (some (tp h + 1))) 1 16) 30502 K (some (tp h + 1 + 1))) 1 16) 30503 K (some (tp h + 1 + 1 + 1))) + 4 = rc h := by show rc h - 1 - 1 - 1 - 1 + 4 = rc h; omega
  have rs0 : rs (setFP (newA (setFP (newA (setFP (newA (setFP (newA h 2 16) 30500 K (some (tp h))) 1 16) 30501 K (some (tp h + 1))) 1 16) 30502 K (some (tp h + 1 + 1))) 1 16) 30503 K (some (tp h + 1 + 1 + 1))) + 64 = rs h := by show rs h - 16 - 16 - 16 - 16 + 64 = rs h; omega
  show wp (d + 4) _ _ _ [(0, vr (fP (setFP (newA (setFP (newA (setFP (newA (setFP (newA h 2 16) 30500 K (some (tp h))) 1 16) 30501 K (some (tp h + 1))) 1 16) 30502 K (some (tp h + 1 + 1))) 1 16) 30503 K (some (tp h + 1 + 1 + 1))) 39800 0))] (setFP (newA (setFP (newA (setFP (newA (setFP (newA h 2 16) 30500 K (some (tp h))) 1 16) 30501 K (some (tp h + 1))) 1 16) 30502 K (some (tp h + 1 + 1))) 1 16) 30503 K (some (tp h + 1 + 1 + 1))) _
  generalize setFP (newA (setFP (newA (setFP (newA (setFP (newA h 2 16) 30500 K (some (tp h))) 1 16) 30501 K (some (tp h + 1))) 1 16) 30502 K (some (tp h + 1 + 1))) 1 16) 30503 K (some (tp h + 1 + 1 + 1)) = h0 at *
  -- texts stay
  have ST : ∀ h', FX (fun g y => y = K ∧ g / 100 % 100 = 5 ∨ (g = 90001 ∧ K < y)) h h' → ∀ i, i < 4 → ∃ s v, STR h' i (lenS.getD i 0) (bytS.getD i []) s v := fun h' x i hi => by
    obtain ⟨s, v, s1, s2⟩ := S i hi
    exact ⟨s, v, s1.fx x (fun y z => by omega) (fun y z => by omega) (fun y z => by omega) (fun y z => by omega) (fun z => by omega) (fun y z => by omega)⟩
  have AX : ∀ h1 h2, FX (fun g y => (y = K ∧ (g = 504 ∨ g = 505)) ∨ (g = 90001 ∧ (y = K + 1 ∨ y = K + 2 ∨ y = K + 3 ∨ y = K + 4))) h1 h2 → FX (fun g y => y = K ∧ g / 100 % 100 = 5 ∨ (g = 90001 ∧ K < y)) h1 h2 := fun h1 h2 x => x.mono (fun g y z => by omega)
  have lt : ∀ i, i < 4 → ∀ j, j < lenS.getD i 0 → ∃ b, (bytS.getD i []).getD j 0 = nI b ∧ b < 128 := fun i hi j hj => ⟨_, (bw_let i hi j hj).1⟩
  have x0 : FX (fun g y => y = K ∧ g / 100 % 100 = 5 ∨ (g = 90001 ∧ K < y)) h h0 := X0.mono (fun g y z => Or.inl z)
  obtain ⟨s, v, s1⟩ := ST h0 x0 0 (by omega)
  rw [s1.1]
  refine p_codeOf (d := d) s1 (bw_len 0 (by omega)) (lt 0 (by omega)) ?_
  simp only [psh]
  rw [bk_X3_init_21, nn_some]
  refine ⟨K0.1, k_add (d := d + 3) K0 (by omega) _ _ _ 0 (Or.inl ⟨rfl, rfl⟩) (fun h1 K1 y1 tp1 rc1 rs1 => ?_)⟩
  have x1 := x0.tr (AX _ _ y1)
  obtain ⟨s', v', s2⟩ := ST h1 x1 1 (by omega)
  simp only [psh]
  rw [bk_X3_init_24, s2.1]
  refine p_codeOf (d := d) s2 (bw_len 1 (by omega)) (lt 1 (by omega)) ?_
  simp only [psh]
  rw [bk_X3_init_27, nn_some]
  refine ⟨K1.1, k_add (d := d + 3) K1 (by omega) _ _ _ 0 (Or.inr ⟨by omega, rfl, by omega⟩) (fun h2 K2 y2 tp2 rc2 rs2 => ?_)⟩
  have x2 := x1.tr (AX _ _ y2)
  obtain ⟨s', v', s3⟩ := ST h2 x2 2 (by omega)
  simp only [psh]
  rw [bk_X3_init_30, s3.1]
  refine p_codeOf (d := d) s3 (bw_len 2 (by omega)) (lt 2 (by omega)) ?_
  simp only [psh]
  rw [bk_X3_init_33, nn_some]
  refine ⟨K2.1, k_add (d := d + 3) K2 (by omega) _ _ _ 1 (Or.inr ⟨by omega, rfl, by omega⟩) (fun h3 K3 y3 tp3 rc3 rs3 => ?_)⟩
  have x3 := x2.tr (AX _ _ y3)
  obtain ⟨s', v', s4⟩ := ST h3 x3 3 (by omega)
  simp only [psh]
  rw [bk_X3_init_36, s4.1]
  refine p_codeOf (d := d) s4 (bw_len 3 (by omega)) (lt 3 (by omega)) ?_
  simp only [psh]
  rw [bk_X3_init_39, nn_some]
  refine ⟨K3.1, k_add (d := d + 3) K3 (by omega) _ _ _ 0 (Or.inr ⟨by omega, rfl, by omega⟩) (fun h4 K4 y4 tp4 rc4 rs4 => ?_)⟩
  have x4 := x3.tr (AX _ _ y4)
  simp only [psh]
  rw [bk_X3_init_42]
  refine H h4 _ _ _ K4 (fun k hk => ?_) (x4.less (fun g y hy z => by omega) (fun y h1 h2 => by omega) (fun y h1 h2 => by omega)) (by omega) (by omega) (by omega)
  have : k = 0 ∨ k = 1 ∨ k = 2 ∨ k = 3 := by omega
  rcases this with e | e | e | e <;> subst e
  · exact ⟨bw_code 0 (by omega), rfl, rfl⟩
  · exact ⟨bw_code 1 (by omega), rfl, rfl⟩
  · exact ⟨bw_code 2 (by omega), rfl, rfl⟩
  · exact ⟨bw_code 3 (by omega), rfl, rfl⟩
