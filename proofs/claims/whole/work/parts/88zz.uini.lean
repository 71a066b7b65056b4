/-! A new unit -/
theorem l_init {d : Nat} {h : AH} {Q : Option V → AH → Prop} {L e0 : Nat} {f : Nat → Nat} (t : tg h L = 2) (S : STK h e0) (hL : L < tp h) (f102 : fI h 102 L = 0) (H : ∀ h', AL h' e0 L e0 0 f → FX (fun g y => y = L ∧ (g = 100 ∨ g = 30101)) h h' → tp h' = tp h → rc h' = rc h → rs h' = rs h → Q none h') : wp (d + 2) K_Jx4a65c_init_da8c8 0 [] [(0, vr (some L))] h Q := by
  obtain ⟨s1, s2, s3, s4, s5, s6⟩ := S
  rw [bk_Jx4a65c_init_da8c8_0]
  refine ⟨t, ?_⟩
  rw [bk_Jxc12de_init_da8c8_0]
  refine ⟨t, ?_⟩
  rw [bk_Jxa1e45_init_da8c8_0]
  simp only [psh]
  rw [bk_Jxc12de_init_da8c8_2]
  refine ⟨t, ?_⟩
  simp only [psh]
  rw [bk_Jx4a65c_init_da8c8_2, show fP (setFI h 100 L 0) 39900 50 = some e0 from s1]
  refine ⟨t, H _ ⟨t, hL, ?_, s4, ?_, by omega, ?_, Or.inr ⟨rfl, rfl⟩, fun i hi => by omega⟩ ((FX.FI ⟨rfl, Or.inl rfl⟩).toFP _ ⟨rfl, Or.inr rfl⟩) rfl rfl rfl⟩
  · show (if 30101 = 30101 ∧ L = L then some e0 else _) = _
    rw [if_pos ⟨rfl, rfl⟩]
  · show fI (setFI h 100 L 0) 102 L = nI 0
    rw [fI_setFI, if_neg (by omega), f102]; rfl
  · show ln h e0 ≤ _
    omega
theorem u_init {d : Nat} {h : AH} {Q : Option V → AH → Prop} {U e0 : Nat} (hU : tg h U = 11) (htp : tp h = U + 1) (S : STK h e0) (he : e0 < U) (ST : ∀ i, i < 4 → ∃ s v, STR h i (lenS.getD i 0) (bytS.getD i []) s v ∧ v < U) (r1 : 8 ≤ rc h) (r2 : 79 ≤ rs h) (H : ∀ h' par wk pk, KD h' (U + 1) 4 par wk pk → (∀ k, k < 4 → wk k = conv (bwS.getD k 0) ∧ par k = (if k = 2 then 1 else 0) ∧ pk k = -1) → (tg h' U = 11 ∧ fP h' 31000 U = some (U + 1) ∧ fP h' 31001 U = some (U + 6) ∧ fP h' 31002 U = some (U + 7) ∧ fP h' 31003 U = some (U + 8)) → (AL h' e0 (U + 6) e0 0 (fun _ => 0) ∧ AL h' e0 (U + 7) e0 0 (fun _ => 0) ∧ AL h' e0 (U + 8) e0 0 (fun _ => 0)) → FX (fun g y => y = U ∧ g / 100 % 100 = 10) h h' → tp h' = U + 9 → rc h' + 8 = rc h → rs h' + 79 = rs h → Q none h') : wp (d + 6) K_X8_init 0 [] [(0, vr (some U))] h Q := by
  rw [bk_X8_init_0]
  refine ⟨by omega, by omega, ?_⟩
  have t6 : tg (newO h 5 6) (U + 1) = 6 := by rw [tg_newO, if_pos (by omega)]
  have tU1 : tg (newO h 5 6) U = 11 := by rw [tg_newO, if_neg (by omega)]; exact hU
  have x1 : FX (fun g y => (y = U ∧ g / 100 % 100 = 10) ∨ (U < y ∧ g / 100 % 100 < 20)) h (newO h 5 6) := FX.O (by decide)
  have fo := FO.new h 5 6
  have tp1 : tp (newO h 5 6) = U + 2 := by rw [tp_newO]; omega
  have c1 := rc_newO h 5 6
  have q1 := rs_newO h 5 6
  rw [htp] at fo
  rw [htp]
  generalize newO h 5 6 = h1 at *
  have noS : ∀ g y, g = 39800 ∨ g = 36900 ∨ g = 46901 ∨ g = 9901 ∨ g = 9900 ∨ g = 39900 → ¬ ((y = U ∧ g / 100 % 100 = 10) ∨ (U < y ∧ g / 100 % 100 < 20)) := fun g y hg z => by omega
  have ST1 : ∀ i, i < 4 → ∃ s v, STR h1 i (lenS.getD i 0) (bytS.getD i []) s v ∧ v < U + 1 := fun i hi => by
    obtain ⟨s, v, s1, s2⟩ := ST i hi
    exact ⟨s, v, s1.fx x1 (fun y => noS _ _ (by omega)) (fun y => noS _ _ (by omega)) (fun y => noS _ _ (by omega)) (fun y => noS _ _ (by omega)) (fun z => by omega) (fun y => noS _ _ (by omega)), by omega⟩
  rw [bk_X8_init_4, nn_some]
  refine ⟨t6, k_init (d := d) t6 tp1 fo (by omega) (by omega) ST1 (fun h2 par wk pk K2 vals x2 tp2 c2 q2 => ?_)⟩
  have X2 : FX (fun g y => (y = U ∧ g / 100 % 100 = 10) ∨ (U < y ∧ g / 100 % 100 < 20)) h h2 := x1.tr (x2.mono (fun g y z => by omega))
  have tU2 : tg h2 U = 11 := by rw [x2.tg (by omega)]; exact tU1
  simp only [psh, bk_X8_init_6, nn_some]
  refine ⟨tU2, by show 0 < rc h2; omega, by show 3 ≤ rs h2; omega, ?_⟩
  -- the first list
  have X3 : FX (fun g y => (y = U ∧ g / 100 % 100 = 10) ∨ (U < y ∧ g / 100 % 100 < 20)) h (newO (setFP h2 31000 U (some (U + 1))) 1 3) := (X2.toFP _ (Or.inl ⟨rfl, by decide⟩)).tr (FX.O (by decide))
  have Y3 : FX (fun g y => y = U ∧ g / 100 % 100 = 10) h2 (newO (setFP h2 31000 U (some (U + 1))) 1 3) := (FX.FP ⟨rfl, by decide⟩).tr (FX.O (by decide))
  have t3 : tg (newO (setFP h2 31000 U (some (U + 1))) 1 3) (U + 6) = 2 := by rw [tg_newO, if_pos (by show U + 6 = tp h2; omega)]
  have tU3 : tg (newO (setFP h2 31000 U (some (U + 1))) 1 3) U = 11 := by rw [tg_newO, if_neg (by show ¬ U = tp h2; omega)]; exact tU2
  have p30 : fP (newO (setFP h2 31000 U (some (U + 1))) 1 3) 31000 U = some (U + 1) := by
    rw [fP_newO, if_neg (fun z => by have : U = tp h2 := z.1; omega)]
    show (if 31000 = 31000 ∧ U = U then some (U + 1) else _) = _
    rw [if_pos ⟨rfl, rfl⟩]
  have f3 := FO.new (setFP h2 31000 U (some (U + 1))) 1 3
  have tp3 : tp (newO (setFP h2 31000 U (some (U + 1))) 1 3) = U + 7 := by rw [tp_newO]; show tp h2 + 1 = _; omega
  have c3 : rc (newO (setFP h2 31000 U (some (U + 1))) 1 3) = rc h2 - 1 := rc_newO _ 1 3
  have q3 : rs (newO (setFP h2 31000 U (some (U + 1))) 1 3) = rs h2 - 3 := rs_newO _ 1 3
  rw [show tp (setFP h2 31000 U (some (U + 1))) = U + 6 by show tp h2 = _; omega] at f3 ⊢
  generalize newO (setFP h2 31000 U (some (U + 1))) 1 3 = h3 at *
  have S3 := S.fx X3 (fun y => noS _ _ (by omega)) (fun y => noS _ _ (by omega)) (fun y => noS _ _ (by omega))
  rw [bk_X8_init_9, nn_some]
  refine ⟨t3, l_init (d := d + 3) (f := fun _ => 0) t3 S3 (by omega) (f3 102 (by decide)).1 (fun h4 A3 y4 tp4 c4 q4 => ?_)⟩
  have X4 : FX (fun g y => (y = U ∧ g / 100 % 100 = 10) ∨ (U < y ∧ g / 100 % 100 < 20)) h h4 := X3.tr (y4.mono (fun g y z => by omega))
  have Y4 : FX (fun g y => y = U ∧ g / 100 % 100 = 10 ∨ U + 6 ≤ y ∧ g / 100 % 100 < 20) h2 h4 := (Y3.mono (fun _ _ z => Or.inl z)).tr (y4.mono (fun g y z => by omega))
  have tU4 : tg h4 U = 11 := by rw [y4.tg (by omega)]; exact tU3
  have p40 : fP h4 31000 U = some (U + 1) := by rw [y4.fP (by omega) (by omega)]; exact p30
  rw [tp3] at tp4
  simp only [psh, bk_X8_init_11, nn_some]
  refine ⟨tU4, by show 0 < rc h4; omega, by show 3 ≤ rs h4; omega, ?_⟩
  -- the second list
  have X5 : FX (fun g y => (y = U ∧ g / 100 % 100 = 10) ∨ (U < y ∧ g / 100 % 100 < 20)) h (newO (setFP h4 31001 U (some (U + 6))) 1 3) := (X4.toFP _ (Or.inl ⟨rfl, by decide⟩)).tr (FX.O (by decide))
  have Z5 : FX (fun g y => y = U ∧ g / 100 % 100 = 10) h4 (newO (setFP h4 31001 U (some (U + 6))) 1 3) := (FX.FP ⟨rfl, by decide⟩).tr (FX.O (by decide))
  have t5 : tg (newO (setFP h4 31001 U (some (U + 6))) 1 3) (U + 7) = 2 := by rw [tg_newO, if_pos (by show U + 7 = tp h4; omega)]
  have tU5 : tg (newO (setFP h4 31001 U (some (U + 6))) 1 3) U = 11 := by rw [tg_newO, if_neg (by show ¬ U = tp h4; omega)]; exact tU4
  have p50 : fP (newO (setFP h4 31001 U (some (U + 6))) 1 3) 31000 U = some (U + 1) ∧ fP (newO (setFP h4 31001 U (some (U + 6))) 1 3) 31001 U = some (U + 6) := by
    refine ⟨?_, ?_⟩
    · rw [fP_newO, if_neg (fun z => by have : U = tp h4 := z.1; omega)]
      show (if 31000 = 31001 ∧ U = U then some (U + 6) else fP h4 31000 U) = _
      rw [if_neg (by omega)]; exact p40
    · rw [fP_newO, if_neg (fun z => by have : U = tp h4 := z.1; omega)]
      show (if 31001 = 31001 ∧ U = U then some (U + 6) else _) = _
      rw [if_pos ⟨rfl, rfl⟩]
  have f5 := FO.new (setFP h4 31001 U (some (U + 6))) 1 3
  have tp5 : tp (newO (setFP h4 31001 U (some (U + 6))) 1 3) = U + 8 := by rw [tp_newO]; show tp h4 + 1 = _; omega
  have c5 : rc (newO (setFP h4 31001 U (some (U + 6))) 1 3) = rc h4 - 1 := rc_newO _ 1 3
  have q5 : rs (newO (setFP h4 31001 U (some (U + 6))) 1 3) = rs h4 - 3 := rs_newO _ 1 3
  rw [show tp (setFP h4 31001 U (some (U + 6))) = U + 7 by show tp h4 = _; omega] at f5 ⊢
  have A5 := A3.fx Z5 (fun z => by omega) (fun z => by omega) (Or.inl rfl)
  generalize newO (setFP h4 31001 U (some (U + 6))) 1 3 = h5 at *
  have S5 := S.fx X5 (fun y => noS _ _ (by omega)) (fun y => noS _ _ (by omega)) (fun y => noS _ _ (by omega))
  rw [bk_X8_init_14, nn_some]
  refine ⟨t5, l_init (d := d + 3) (f := fun _ => 0) t5 S5 (by omega) (f5 102 (by decide)).1 (fun h6 B5 y6 tp6 c6 q6 => ?_)⟩
  have X6 : FX (fun g y => (y = U ∧ g / 100 % 100 = 10) ∨ (U < y ∧ g / 100 % 100 < 20)) h h6 := X5.tr (y6.mono (fun g y z => by omega))
  have tU6 : tg h6 U = 11 := by rw [y6.tg (by omega)]; exact tU5
  have p60 : fP h6 31000 U = some (U + 1) ∧ fP h6 31001 U = some (U + 6) := ⟨by rw [y6.fP (by omega) (by omega)]; exact p50.1, by rw [y6.fP (by omega) (by omega)]; exact p50.2⟩
  have A6 := A5.fx y6 (fun z => by omega) (fun z => by omega) (Or.inl rfl)
  rw [tp5] at tp6
  simp only [psh, bk_X8_init_16, nn_some]
  refine ⟨tU6, by show 0 < rc h6; omega, by show 3 ≤ rs h6; omega, ?_⟩
  -- the third list
  have X7 : FX (fun g y => (y = U ∧ g / 100 % 100 = 10) ∨ (U < y ∧ g / 100 % 100 < 20)) h (newO (setFP h6 31002 U (some (U + 7))) 1 3) := (X6.toFP _ (Or.inl ⟨rfl, by decide⟩)).tr (FX.O (by decide))
  have Z7 : FX (fun g y => y = U ∧ g / 100 % 100 = 10) h6 (newO (setFP h6 31002 U (some (U + 7))) 1 3) := (FX.FP ⟨rfl, by decide⟩).tr (FX.O (by decide))
  have t7 : tg (newO (setFP h6 31002 U (some (U + 7))) 1 3) (U + 8) = 2 := by rw [tg_newO, if_pos (by show U + 8 = tp h6; omega)]
  have tU7 : tg (newO (setFP h6 31002 U (some (U + 7))) 1 3) U = 11 := by rw [tg_newO, if_neg (by show ¬ U = tp h6; omega)]; exact tU6
  have p70 : fP (newO (setFP h6 31002 U (some (U + 7))) 1 3) 31000 U = some (U + 1) ∧ fP (newO (setFP h6 31002 U (some (U + 7))) 1 3) 31001 U = some (U + 6) ∧ fP (newO (setFP h6 31002 U (some (U + 7))) 1 3) 31002 U = some (U + 7) := by
    refine ⟨?_, ?_, ?_⟩
    · rw [fP_newO, if_neg (fun z => by have : U = tp h6 := z.1; omega)]
      show (if 31000 = 31002 ∧ U = U then some (U + 7) else fP h6 31000 U) = _
      rw [if_neg (by omega)]; exact p60.1
    · rw [fP_newO, if_neg (fun z => by have : U = tp h6 := z.1; omega)]
      show (if 31001 = 31002 ∧ U = U then some (U + 7) else fP h6 31001 U) = _
      rw [if_neg (by omega)]; exact p60.2
    · rw [fP_newO, if_neg (fun z => by have : U = tp h6 := z.1; omega)]
      show (if 31002 = 31002 ∧ U = U then some (U + 7) else _) = _
      rw [if_pos ⟨rfl, rfl⟩]
  have f7 := FO.new (setFP h6 31002 U (some (U + 7))) 1 3
  have tp7 : tp (newO (setFP h6 31002 U (some (U + 7))) 1 3) = U + 9 := by rw [tp_newO]; show tp h6 + 1 = _; omega
  have c7 : rc (newO (setFP h6 31002 U (some (U + 7))) 1 3) = rc h6 - 1 := rc_newO _ 1 3
  have q7 : rs (newO (setFP h6 31002 U (some (U + 7))) 1 3) = rs h6 - 3 := rs_newO _ 1 3
  rw [show tp (setFP h6 31002 U (some (U + 7))) = U + 8 by show tp h6 = _; omega] at f7 ⊢
  have A7 := A6.fx Z7 (fun z => by omega) (fun z => by omega) (Or.inl rfl)
  have B7 := (B5).fx Z7 (fun z => by omega) (fun z => by omega) (Or.inl rfl)
  generalize newO (setFP h6 31002 U (some (U + 7))) 1 3 = h7 at *
  have S7 := S.fx X7 (fun y => noS _ _ (by omega)) (fun y => noS _ _ (by omega)) (fun y => noS _ _ (by omega))
  rw [bk_X8_init_19, nn_some]
  refine ⟨t7, l_init (d := d + 3) (f := fun _ => 0) t7 S7 (by omega) (f7 102 (by decide)).1 (fun h8 C7 y8 tp8 c8 q8 => ?_)⟩
  have tU8 : tg h8 U = 11 := by rw [y8.tg (by omega)]; exact tU7
  simp only [psh, bk_X8_init_21, nn_some]
  refine ⟨tU8, ?_⟩
  have X8 : FX (fun g y => (y = U ∧ g / 100 % 100 = 10) ∨ (U < y ∧ g / 100 % 100 < 20)) h (setFP h8 31003 U (some (U + 8))) := (X7.tr (y8.mono (fun g y z => by omega))).toFP _ (Or.inl ⟨rfl, by decide⟩)
  have Z8 : FX (fun g y => (y = U + 8 ∧ (g = 100 ∨ g = 30101)) ∨ (y = U ∧ g = 31003)) h7 (setFP h8 31003 U (some (U + 8))) := (y8.mono (fun _ _ z => Or.inl z)).toFP _ (Or.inr ⟨rfl, rfl⟩)
  have W8 : FX (fun g y => y = U ∧ g = 31003) h8 (setFP h8 31003 U (some (U + 8))) := FX.FP ⟨rfl, rfl⟩
  have Y8 : FX (fun g y => y = U ∨ U + 6 ≤ y ∧ g / 100 % 100 < 20) h2 (setFP h8 31003 U (some (U + 8))) := ((((Y4.mono (fun g y z => by omega)).tr (Z5.mono (fun g y z => Or.inl z.1))).tr (y6.mono (fun g y z => Or.inr ⟨by omega, by omega⟩))).tr (Z7.mono (fun g y z => Or.inl z.1))).tr (Z8.mono (fun g y z => by omega))
  refine H _ par wk pk (K2.fx Y8 (fun g z => by omega) (fun z => by omega) (fun z => by omega) (fun z => by omega) (fun z => by omega)) vals ⟨tU8, ?_, ?_, ?_, ?_⟩ ⟨A7.fx Z8 (fun z => by omega) (fun z => by omega) (Or.inl rfl), B7.fx Z8 (fun z => by omega) (fun z => by omega) (Or.inl rfl), C7.fx W8 (fun z => by omega) (fun z => by omega) (Or.inl rfl)⟩ (X8.less (fun g y hy z => by omega) (fun y h1 h2 => by omega) (fun y h1 h2 => by omega)) (by show tp h8 = _; omega) (by show rc h8 + 8 = rc h; omega) (by show rs h8 + 79 = rs h; omega)
  · rw [Z8.fP (by omega) (by omega)]; exact p70.1
  · rw [Z8.fP (by omega) (by omega)]; exact p70.2.1
  · rw [Z8.fP (by omega) (by omega)]; exact p70.2.2
  · show (if 31003 = 31003 ∧ U = U then some (U + 8) else _) = _
    rw [if_pos ⟨rfl, rfl⟩]
