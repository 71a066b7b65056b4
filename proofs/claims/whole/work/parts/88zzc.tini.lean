/-! The tape is made -/
/-- the words of the language, as they are taken out of their text -/
def tkF (bs : List Int32) : Nat → Nat → Nat → Int64 → (Nat → Int64) → (Nat → Int64)
  | 0, _, _, _, f => f
  | m + 1, i, w, c, f => if bs.getD i 0 = 32 then (if 20 ≤ w then tkF bs m (i + 1) w c f else tkF bs m (i + 1) (w + 1) 0 (up1 f w c)) else tkF bs m (i + 1) w ((c * 32) + (Int32.toInt64 ((bs.getD i 0 - 97) + 1))) f
theorem tk_words : ∀ k, k < 20 → tkF (bytS.getD 4 []) (lenS.getD 4 0) 0 0 0 (fun _ => 0) k = lN (cv 8 (kwN k)) := by decide +kernel
theorem tk_let : ∀ j, j < lenS.getD 4 0 → (bytS.getD 4 []).getD j 0 = nI ((bytS.getD 4 []).getD j 0).toNatClampNeg ∧ ((bytS.getD 4 []).getD j 0).toNatClampNeg < 128 := by decide +kernel
theorem tk_len : lenS.getD 4 0 < 1000 := by decide +kernel
theorem sg_str : lenS.getD 5 0 = 7 ∧ bytS.getD 5 [] = sgL := by decide +kernel
theorem t_init {d : Nat} {h : AH} {Q : Option V → AH → Prop} {T : Nat} {t : Nat → Int32} (hT : tg h T = 10) (htp : tp h = T + 1) (F : FO h 9 T (fun _ => 0) (fun _ => 0) (fun _ => none)) (r1 : 2 ≤ rc h) (r2 : 2020 ≤ rs h) (S4 : ∃ s v, STR h 4 (lenS.getD 4 0) (bytS.getD 4 []) s v ∧ v < T) (S5 : ∃ s v, STR h 5 (lenS.getD 5 0) (bytS.getD 5 []) s v ∧ v < T) (H : ∀ h', TS h' T t 0 → FX (fun g y => y = T ∧ g / 100 % 100 = 9) h h' → tp h' = T + 3 → rc h' + 2 = rc h → rs h' + 2020 = rs h → Q none h') : wp (d + 4) K_X7_init 0 [] [(0, vr (some T))] h Q := by
  have t0 : tg (newA h 3 2000) T = 10 := by rw [tg_newA, if_neg (by omega)]; exact hT
  have t1 : tg (newA (setFP (newA h 3 2000) 30900 T (some (tp h))) 2 20) T = 10 := by
    rw [tg_newA, if_neg (by rw [tp_setFP, tp_newA]; omega)]; exact t0
  rw [bk_X7_init_0]
  refine ⟨by decide, by omega, by show 2000 ≤ _; omega, ?_⟩
  rw [bk_X7_init_5, nn_some]
  refine ⟨t0, by decide, by show 0 < rc h - 1; omega, by show 20 ≤ rs h - 2000; omega, ?_⟩
  rw [bk_X7_init_9, nn_some]
  refine ⟨t1, ?_⟩
  have X0 : FX (fun g y => y = T ∧ g / 100 % 100 = 9 ∨ (g = 90001 ∧ T < y)) h (setFP (newA (setFP (newA h 3 2000) 30900 T (some (tp h))) 2 20) 30901 T (some (tp h + 1))) := by
    refine FX.toFP ?_ _ (Or.inl ⟨rfl, by decide⟩)
    refine FX.toA ?_ _ _
    refine FX.toFP ?_ _ (Or.inl ⟨rfl, by decide⟩)
    refine FX.toA ?_ _ _
    exact FX.rf
  have n1 : ¬ T = T + 1 + 1 := by omega
  have n2 : ¬ T = T + 1 := by omega
  have n3 : ¬ T + 2 = T + 1 := by omega
  have f902 : fI h 902 T = 0 := (F 902 (by decide)).1
  have base : tg (setFP (newA (setFP (newA h 3 2000) 30900 T (some (tp h))) 2 20) 30901 T (some (tp h + 1))) T = 10 ∧ tp (setFP (newA (setFP (newA h 3 2000) 30900 T (some (tp h))) 2 20) 30901 T (some (tp h + 1))) = T + 3 ∧ fP (setFP (newA (setFP (newA h 3 2000) 30900 T (some (tp h))) 2 20) 30901 T (some (tp h + 1))) 30900 T = some (T + 1) ∧ tg (setFP (newA (setFP (newA h 3 2000) 30900 T (some (tp h))) 2 20) 30901 T (some (tp h + 1))) (T + 1) = 103 ∧ ln (setFP (newA (setFP (newA h 3 2000) 30900 T (some (tp h))) 2 20) 30901 T (some (tp h + 1))) (T + 1) = 2000 ∧ fP (setFP (newA (setFP (newA h 3 2000) 30900 T (some (tp h))) 2 20) 30901 T (some (tp h + 1))) 30901 T = some (T + 2) ∧ tg (setFP (newA (setFP (newA h 3 2000) 30900 T (some (tp h))) 2 20) 30901 T (some (tp h + 1))) (T + 2) = 102 ∧ ln (setFP (newA (setFP (newA h 3 2000) 30900 T (some (tp h))) 2 20) 30901 T (some (tp h + 1))) (T + 2) = 20 ∧ fI (setFP (newA (setFP (newA h 3 2000) 30900 T (some (tp h))) 2 20) 30901 T (some (tp h + 1))) 902 T = nI 0 := by
    simp only [fJ_setFI, fP_setFI, aI_setFI, aJ_setFI, aP_setFI, tg_setFI, ln_setFI, tp_setFI, rc_setFI, rs_setFI, fI_setFJ, fP_setFJ, aI_setFJ, aJ_setFJ, aP_setFJ, tg_setFJ, ln_setFJ, tp_setFJ, rc_setFJ, rs_setFJ, fI_setFP, fJ_setFP, aI_setFP, aJ_setFP, aP_setFP, tg_setFP, ln_setFP, tp_setFP, rc_setFP, rs_setFP, fI_setAI, fJ_setAI, fP_setAI, aJ_setAI, aP_setAI, tg_setAI, ln_setAI, tp_setAI, rc_setAI, rs_setAI, fI_setAJ, fJ_setAJ, fP_setAJ, aI_setAJ, aP_setAJ, tg_setAJ, ln_setAJ, tp_setAJ, rc_setAJ, rs_setAJ, fI_setAP, fJ_setAP, fP_setAP, aI_setAP, aJ_setAP, tg_setAP, ln_setAP, tp_setAP, rc_setAP, rs_setAP, fI_setFI, fJ_setFJ, fP_setFP, aI_setAI, aJ_setAJ, aP_setAP, tg_newO, ln_newO, tp_newO, rc_newO, rs_newO, aI_newO, aJ_newO, aP_newO, fI_newO, fJ_newO, fP_newO, tg_newA, ln_newA, tp_newA, rc_newA, rs_newA, aI_newA, aJ_newA, aP_newA, fI_newA, fJ_newA, fP_newA, htp]
    simp [hT, f902, n1, n2, n3]
    exact rfl
  have rc0 : rc (setFP (newA (setFP (newA h 3 2000) 30900 T (some (tp h))) 2 20) 30901 T (some (tp h + 1))) + 2 = rc h := by show rc h - 1 - 1 + 2 = rc h; omega
  have rs0 : rs (setFP (newA (setFP (newA h 3 2000) 30900 T (some (tp h))) 2 20) 30901 T (some (tp h + 1))) + 2020 = rs h := by show rs h - 2000 - 20 + 2020 = rs h; omega
  have z0 : ∀ k, aJ (setFP (newA (setFP (newA h 3 2000) 30900 T (some (tp h))) 2 20) 30901 T (some (tp h + 1))) (T + 2) k = 0 := fun k => by
    simp only [fJ_setFI, fP_setFI, aI_setFI, aJ_setFI, aP_setFI, tg_setFI, ln_setFI, tp_setFI, rc_setFI, rs_setFI, fI_setFJ, fP_setFJ, aI_setFJ, aJ_setFJ, aP_setFJ, tg_setFJ, ln_setFJ, tp_setFJ, rc_setFJ, rs_setFJ, fI_setFP, fJ_setFP, aI_setFP, aJ_setFP, aP_setFP, tg_setFP, ln_setFP, tp_setFP, rc_setFP, rs_setFP, fI_setAI, fJ_setAI, fP_setAI, aJ_setAI, aP_setAI, tg_setAI, ln_setAI, tp_setAI, rc_setAI, rs_setAI, fI_setAJ, fJ_setAJ, fP_setAJ, aI_setAJ, aP_setAJ, tg_setAJ, ln_setAJ, tp_setAJ, rc_setAJ, rs_setAJ, fI_setAP, fJ_setAP, fP_setAP, aI_setAP, aJ_setAP, tg_setAP, ln_setAP, tp_setAP, rc_setAP, rs_setAP, fI_setFI, fJ_setFJ, fP_setFP, aI_setAI, aJ_setAJ, aP_setAP, tg_newO, ln_newO, tp_newO, rc_newO, rs_newO, aI_newO, aJ_newO, aP_newO, fI_newO, fJ_newO, fP_newO, tg_newA, ln_newA, tp_newA, rc_newA, rs_newA, aI_newA, aJ_newA, aP_newA, fI_newA, fJ_newA, fP_newA, htp]
    simp
  show wp (d + 4) _ _ _ _ (setFP (newA (setFP (newA h 3 2000) 30900 T (some (tp h))) 2 20) 30901 T (some (tp h + 1))) _
  generalize setFP (newA (setFP (newA h 3 2000) 30900 T (some (tp h))) 2 20) 30901 T (some (tp h + 1)) = h0 at *
  obtain ⟨s4, v4, S4, l4⟩ := S4
  obtain ⟨s5, v5, S5, l5⟩ := S5
  have STX : ∀ {i n : Nat} {bs : List Int32} {s v : Nat}, STR h i n bs s v → v < T → ∀ h', FX (fun g y => y = T ∧ g / 100 % 100 = 9 ∨ (g = 90001 ∧ T < y)) h h' → STR h' i n bs s v := fun S l h' x => S.fx x (fun y z => by omega) (fun y z => by omega) (fun y z => by omega) (fun y z => by omega) (fun z => by omega) (fun y z => by omega)
  have tl := tk_len
  have L : ∀ m i w c f h1, i + m = lenS.getD 4 0 → w ≤ 20 → FX (fun g y => g = 90001 ∧ y = T + 2) h0 h1 → tp h1 = tp h0 → rc h1 = rc h0 → rs h1 = rs h0 → (∀ k, k < 20 → aJ h1 (T + 2) k = f k) → (∀ k, k < 20 → tkF (bytS.getD 4 []) m i w c f k = lN (cv 8 (kwN k))) → wp (d + 4) K_X7_init 16 [] [(0, vr (some T)), (1, vi (nI w)), (2, vl c), (4, vi (nI i))] h1 Q := by
    intro m
    induction m with
    | zero =>
      intro i w c f h1 e hw x1 tp1 c1 q1 fk fin
      have X1 := X0.tr (x1.mono (fun g y z => Or.inr ⟨z.1, by omega⟩))
      have S1 := STX S4 l4 h1 X1
      rw [bk_X7_init_16, S1.1, nn_some, s_length S1 (by omega)]
      refine ⟨S1.2.1, ?_⟩
      simp only [psh]
      rw [bk_X7_init_19, nI_leI (by omega) (by omega)]
      refine ⟨fun _ => ?_, fun z => by omega⟩
      rw [bk_X7_init_47]
      obtain ⟨b1, b2, b3, b4, b5, b6, b7, b8, b9⟩ := base
      refine H h1 ⟨by rw [x1.tg (by omega)]; exact b1, by omega, by rw [x1.fP (by omega) (by omega)]; exact b3, by rw [x1.tg (by omega)]; exact b4, by rw [x1.ln (by omega)]; exact b5, by rw [x1.fP (by omega) (by omega)]; exact b6, by rw [x1.tg (by omega)]; exact b7, by rw [x1.ln (by omega)]; exact b8, by rw [x1.fI (by omega) (by omega)]; exact b9, by omega, fun i hi => by omega, fun k hk => by rw [fk k hk]; exact fin k hk, s5, v5, ?_⟩ (X1.less (fun g y hy z => by omega) (fun y hy z => by omega) (fun y hy z => by omega)) (by omega) (by omega) (by omega)
      have := STX S5 l5 h1 X1
      rw [sg_str.1, sg_str.2] at this
      exact this
    | succ m ih =>
      intro i w c f h1 e hw x1 tp1 c1 q1 fk fin
      have X1 := X0.tr (x1.mono (fun g y z => Or.inr ⟨z.1, by omega⟩))
      have S1 := STX S4 l4 h1 X1
      obtain ⟨b1, b2, b3, b4, b5, b6, b7, b8, b9⟩ := base
      have tT1 : tg h1 T = 10 := by rw [x1.tg (by omega)]; exact b1
      have p1 : fP h1 30901 T = some (T + 2) := by rw [x1.fP (by omega) (by omega)]; exact b6
      have g1 : tg h1 (T + 2) = 102 := by rw [x1.tg (by omega)]; exact b7
      have l1 : ln h1 (T + 2) = 20 := by rw [x1.ln (by omega)]; exact b8
      obtain ⟨hb1, hb2⟩ := tk_let i (by omega)
      rw [bk_X7_init_16, S1.1, nn_some, s_length S1 (by omega)]
      refine ⟨S1.2.1, ?_⟩
      simp only [psh]
      rw [bk_X7_init_19, nI_leI (by omega) (by omega)]
      refine ⟨fun z => by omega, fun _ => ?_⟩
      rw [bk_X7_init_20, S1.1, nn_some]
      refine ⟨S1.2.1, s_charAt (d := d) S1 (by omega) (by omega) hb1 hb2 ?_⟩
      rw [← hb1]
      simp only [psh]
      rw [bk_X7_init_23]
      refine ⟨fun z => ?_, fun z => ?_⟩
      · rw [bk_X7_init_32, p1, nn_some, l1, show Int32.ofNat 20 = nI 20 from rfl, nI_leI (by omega) (by omega)]
        refine ⟨tT1, Or.inr (Or.inr (Or.inr (Or.inr (Or.inl g1)))), fun y => ?_, fun y => ?_⟩
        · rw [bk_X7_init_45, nI_1]
          refine wp_cut 5 (ih (i + 1) w c f h1 (by omega) hw x1 tp1 c1 q1 fk (fun k hk => ?_))
          have := fin k hk
          rw [tkF, if_pos z, if_pos y] at this
          exact this
        · rw [bk_X7_init_37, p1, nn_some, l1]
          simp (disch := omega) only [nI_clamp, nI_leI, nI_ltI, nI_eq, nI_add, pk_mul, vp_in_nI, nI_1, true_and, and_true, true_implies, implies_true, not_true_eq_false, not_false_eq_true, false_implies, psh, nn_some, forall_const]
          rw [bk_X7_init_45, nI_1]
          refine ⟨tT1, g1, ?_⟩
          refine wp_cut 5 (ih (i + 1) (w + 1) 0 (up1 f w c) (setAJ h1 (T + 2) w c) (by omega) (by omega) (x1.tr (FX.AJ ⟨rfl, rfl⟩)) tp1 c1 q1 (fun k hk => ?_) (fun k hk => ?_))
          · rw [aJ_setAJ]
            unfold up1
            by_cases q : k = w
            · rw [if_pos ⟨rfl, q⟩, if_pos q]
            · rw [if_neg (fun u => q u.2), if_neg q]; exact fk k hk
          · have := fin k hk
            rw [tkF, if_pos z, if_neg y] at this
            exact this
      · rw [bk_X7_init_27, bk_X7_withLetter_0]
        simp only [psh]
        rw [bk_X7_init_30, bk_X7_init_45, nI_1]
        refine wp_cut 5 (ih (i + 1) w _ f h1 (by omega) hw x1 tp1 c1 q1 fk (fun k hk => ?_))
        have := fin k hk
        rw [tkF, if_neg z] at this
        exact this
  exact L (lenS.getD 4 0) 0 0 0 (fun _ => 0) h0 (by omega) (by omega) FX.rf rfl rfl rfl (fun k _ => z0 k) tk_words
