/-! The class's object is made -/
theorem c_init {d : Nat} {h : AH} {Q : Option V → AH → Prop} {a e0 : Nat} {t : Nat → Int32} (ta : tg h a = 14) (htp : tp h = a + 1) (S : STK h e0) (he : e0 < a) (ST : ∀ i, i < 6 → ∃ s v, STR h i (lenS.getD i 0) (bytS.getD i []) s v ∧ v < a) (r1 : 13 ≤ rc h) (r2 : 2113 ≤ rs h)
    (H : ∀ h' par wk pk, TS h' (a + 1) t 0 → (tg h' a = 14 ∧ fP h' 31300 a = some (a + 1) ∧ fP h' 31301 a = some (a + 4) ∧ fP h' 31302 a = some (a + 5)) → (tg h' (a + 4) = 12 ∧ FO h' 11 (a + 4) (fun _ => 0) (fun _ => 0) (fun _ => none)) → KD h' (a + 6) 4 par wk pk → (∀ k, k < 4 → wk k = conv (bwS.getD k 0) ∧ par k = (if k = 2 then 1 else 0) ∧ pk k = -1) → (tg h' (a + 5) = 11 ∧ fP h' 31000 (a + 5) = some (a + 6) ∧ fP h' 31001 (a + 5) = some (a + 11) ∧ fP h' 31002 (a + 5) = some (a + 12) ∧ fP h' 31003 (a + 5) = some (a + 13)) → (AL h' e0 (a + 11) e0 0 (fun _ => 0) ∧ AL h' e0 (a + 12) e0 0 (fun _ => 0) ∧ AL h' e0 (a + 13) e0 0 (fun _ => 0)) → FX (fun g y => y = a ∧ g / 100 % 100 = 13) h h' → tp h' = a + 14 → rc h' + 13 = rc h → rs h' + 2113 = rs h → Q none h') : wp (d + 7) K_X11_init 0 [] [(0, vr (some a))] h Q := by
  rw [bk_X11_init_0]
  refine ⟨by omega, by omega, ?_⟩
  have t10 : tg (newO h 9 7) (a + 1) = 10 := by rw [tg_newO, if_pos (by omega)]
  have ta1 : tg (newO h 9 7) a = 14 := by rw [tg_newO, if_neg (by omega)]; exact ta
  have x1 : FX (fun g y => (y = a ∧ g / 100 % 100 = 13) ∨ (a < y ∧ g / 100 % 100 < 20)) h (newO h 9 7) := FX.O (by decide)
  have f1 := FO.new h 9 7
  have tp1 : tp (newO h 9 7) = a + 2 := by rw [tp_newO]; omega
  have c1 := rc_newO h 9 7
  have q1 := rs_newO h 9 7
  rw [htp] at f1 ⊢
  generalize newO h 9 7 = h1 at *
  have noX : ∀ g y, g = 39800 ∨ g = 36900 ∨ g = 46901 ∨ g = 9901 ∨ g = 9900 ∨ g = 39900 → ¬ ((y = a ∧ g / 100 % 100 = 13) ∨ (a < y ∧ g / 100 % 100 < 20)) := fun g y hg z => by omega
  have STX : ∀ h', FX (fun g y => (y = a ∧ g / 100 % 100 = 13) ∨ (a < y ∧ g / 100 % 100 < 20)) h h' → ∀ i, i < 6 → ∃ s v, STR h' i (lenS.getD i 0) (bytS.getD i []) s v ∧ v < a := fun h' x i hi => by
    obtain ⟨s, v, s1, s2⟩ := ST i hi
    exact ⟨s, v, s1.fx x (fun y => noX _ _ (by omega)) (fun y => noX _ _ (by omega)) (fun y => noX _ _ (by omega)) (fun y => noX _ _ (by omega)) (fun z => by omega) (fun y => noX _ _ (by omega)), s2⟩
  rw [bk_X11_init_4, nn_some]
  obtain ⟨s4, v4, S4, l4⟩ := STX h1 x1 4 (by omega)
  obtain ⟨s5, v5, S5, l5⟩ := STX h1 x1 5 (by omega)
  refine ⟨t10, t_init (d := d + 2) (t := t) t10 tp1 f1 (by omega) (by omega) ⟨s4, v4, S4, by omega⟩ ⟨s5, v5, S5, by omega⟩ (fun h2 T2 x2 tp2 c2 q2 => ?_)⟩
  have X2 : FX (fun g y => (y = a ∧ g / 100 % 100 = 13) ∨ (a < y ∧ g / 100 % 100 < 20)) h h2 := x1.tr (x2.mono (fun g y z => by omega))
  have ta2 : tg h2 a = 14 := by rw [x2.tg (by omega)]; exact ta1
  simp only [psh, bk_X11_init_6, nn_some]
  refine ⟨ta2, by show 0 < rc h2; omega, by show 3 ≤ rs h2; omega, ?_⟩
  have X3 : FX (fun g y => (y = a ∧ g / 100 % 100 = 13) ∨ (a < y ∧ g / 100 % 100 < 20)) h (newO (setFP h2 31300 a (some (a + 1))) 11 3) := (X2.toFP _ (Or.inl ⟨rfl, by decide⟩)).tr (FX.O (by decide))
  have Y3 : FX (fun g y => y = a ∧ g / 100 % 100 = 13) h2 (newO (setFP h2 31300 a (some (a + 1))) 11 3) := (FX.FP ⟨rfl, by decide⟩).tr (FX.O (by decide))
  have t3 : tg (newO (setFP h2 31300 a (some (a + 1))) 11 3) (a + 4) = 12 := by rw [tg_newO, if_pos (by show a + 4 = tp h2; omega)]
  have ta3 : tg (newO (setFP h2 31300 a (some (a + 1))) 11 3) a = 14 := by rw [tg_newO, if_neg (by show ¬ a = tp h2; omega)]; exact ta2
  have p3 : fP (newO (setFP h2 31300 a (some (a + 1))) 11 3) 31300 a = some (a + 1) := by
    rw [fP_newO, if_neg (fun z => by have : a = tp h2 := z.1; omega)]
    show (if 31300 = 31300 ∧ a = a then some (a + 1) else _) = _
    rw [if_pos ⟨rfl, rfl⟩]
  have f3 := FO.new (setFP h2 31300 a (some (a + 1))) 11 3
  have tp3 : tp (newO (setFP h2 31300 a (some (a + 1))) 11 3) = a + 5 := by rw [tp_newO]; show tp h2 + 1 = _; omega
  have c3 : rc (newO (setFP h2 31300 a (some (a + 1))) 11 3) = rc h2 - 1 := rc_newO _ 11 3
  have q3 : rs (newO (setFP h2 31300 a (some (a + 1))) 11 3) = rs h2 - 3 := rs_newO _ 11 3
  rw [show tp (setFP h2 31300 a (some (a + 1))) = a + 4 by show tp h2 = _; omega] at f3 ⊢
  generalize newO (setFP h2 31300 a (some (a + 1))) 11 3 = h3 at *
  rw [bk_X11_init_9, nn_some]
  refine ⟨t3, ?_⟩
  rw [bk_X9_init_0]
  simp only [psh, bk_X11_init_11, nn_some]
  refine ⟨ta3, by show 0 < rc h3; omega, by show 4 ≤ rs h3; omega, ?_⟩
  have X4 : FX (fun g y => (y = a ∧ g / 100 % 100 = 13) ∨ (a < y ∧ g / 100 % 100 < 20)) h (newO (setFP h3 31301 a (some (a + 4))) 10 4) := (X3.toFP _ (Or.inl ⟨rfl, by decide⟩)).tr (FX.O (by decide))
  have Y4 : FX (fun g y => y = a ∧ g / 100 % 100 = 13) h3 (newO (setFP h3 31301 a (some (a + 4))) 10 4) := (FX.FP ⟨rfl, by decide⟩).tr (FX.O (by decide))
  have t4 : tg (newO (setFP h3 31301 a (some (a + 4))) 10 4) (a + 5) = 11 := by rw [tg_newO, if_pos (by show a + 5 = tp h3; omega)]
  have ta4 : tg (newO (setFP h3 31301 a (some (a + 4))) 10 4) a = 14 := by rw [tg_newO, if_neg (by show ¬ a = tp h3; omega)]; exact ta3
  have p4 : fP (newO (setFP h3 31301 a (some (a + 4))) 10 4) 31300 a = some (a + 1) ∧ fP (newO (setFP h3 31301 a (some (a + 4))) 10 4) 31301 a = some (a + 4) := by
    refine ⟨?_, ?_⟩
    · rw [fP_newO, if_neg (fun z => by have : a = tp h3 := z.1; omega)]
      show (if 31300 = 31301 ∧ a = a then some (a + 4) else fP h3 31300 a) = _
      rw [if_neg (by omega)]; exact p3
    · rw [fP_newO, if_neg (fun z => by have : a = tp h3 := z.1; omega)]
      show (if 31301 = 31301 ∧ a = a then some (a + 4) else _) = _
      rw [if_pos ⟨rfl, rfl⟩]
  have tp4 : tp (newO (setFP h3 31301 a (some (a + 4))) 10 4) = a + 6 := by rw [tp_newO]; show tp h3 + 1 = _; omega
  have c4 : rc (newO (setFP h3 31301 a (some (a + 4))) 10 4) = rc h3 - 1 := rc_newO _ 10 4
  have q4 : rs (newO (setFP h3 31301 a (some (a + 4))) 10 4) = rs h3 - 4 := rs_newO _ 10 4
  rw [show tp (setFP h3 31301 a (some (a + 4))) = a + 5 by show tp h3 = _; omega]
  generalize newO (setFP h3 31301 a (some (a + 4))) 10 4 = h4 at *
  have S4' := S.fx X4 (fun y => noX _ _ (by omega)) (fun y => noX _ _ (by omega)) (fun y => noX _ _ (by omega))
  rw [bk_X11_init_14, nn_some]
  refine ⟨t4, u_init (d := d) (U := a + 5) (e0 := e0) t4 tp4 S4' (by omega) (fun i hi => ?_) (by omega) (by omega) (fun h5 par wk pk K5 vals uf al5 x5 tp5 c5 q5 => ?_)⟩
  · obtain ⟨s, v, s1, s2⟩ := STX h4 X4 i (by omega)
    exact ⟨s, v, s1, by omega⟩
  have ta5 : tg h5 a = 14 := by rw [x5.tg (by omega)]; exact ta4
  simp only [psh, bk_X11_init_16, nn_some]
  refine ⟨ta5, ?_⟩
  have W6 : FX (fun g y => y = a ∧ g / 100 % 100 = 13) h5 (setFP h5 31302 a (some (a + 5))) := FX.FP ⟨rfl, by decide⟩
  have X6 : FX (fun g y => (y = a ∧ g / 100 % 100 = 13) ∨ (a < y ∧ g / 100 % 100 < 20)) h (setFP h5 31302 a (some (a + 5))) := (X4.tr (x5.mono (fun g y z => by omega))).toFP _ (Or.inl ⟨rfl, by decide⟩)
  have Y26 : FX (fun g y => (y = a ∧ g / 100 % 100 = 13) ∨ (a + 5 ≤ y ∧ g / 100 % 100 < 20)) h2 (setFP h5 31302 a (some (a + 5))) := (((Y3.mono (fun _ _ z => Or.inl z)).tr (Y4.mono (fun _ _ z => Or.inl z))).tr (x5.mono (fun g y z => by omega))).tr (W6.mono (fun _ _ z => Or.inl z))
  have Y36 : FX (fun g y => (y = a ∧ g / 100 % 100 = 13) ∨ (a + 5 ≤ y ∧ g / 100 % 100 < 20)) h3 (setFP h5 31302 a (some (a + 5))) := ((Y4.mono (fun _ _ z => Or.inl z)).tr (x5.mono (fun g y z => by omega))).tr (W6.mono (fun _ _ z => Or.inl z))
  have SV2 : SGV h2 (a + 1) := by
    obtain ⟨s, v, s1, s2⟩ := STX h2 X2 5 (by omega)
    exact ⟨s, v, s1.1, s1.2.2.2.2.2.2.2.1, s1.2.2.1, by omega⟩
  have n26 : ∀ g y, ¬ (g / 100 % 100 = 13) → y < a + 5 ∨ 20 ≤ g / 100 % 100 → ¬ ((y = a ∧ g / 100 % 100 = 13) ∨ (a + 5 ≤ y ∧ g / 100 % 100 < 20)) := fun g y h1 h2 z => by omega
  refine H _ par wk pk (T2.fy SV2 Y26 (n26 _ _ (by omega) (by omega)) (n26 _ _ (by omega) (by omega)) (n26 _ _ (by omega) (by omega)) (n26 _ _ (by omega) (by omega)) (n26 _ _ (by omega) (by omega)) (fun y => ⟨n26 _ _ (by omega) (by omega), n26 _ _ (by omega) (by omega), n26 _ _ (by omega) (by omega), n26 _ _ (by omega) (by omega), n26 _ _ (by omega) (by omega)⟩) (fun y hy => n26 _ _ (by omega) (by omega))) ⟨ta5, ?_, ?_, ?_⟩ ⟨?_, ?_⟩ (K5.fx W6 (fun g z => by omega) (fun z => by omega) (fun z => by omega) (fun z => by omega) (fun z => by omega)) vals ⟨by rw [W6.tg (by omega)]; exact uf.1, by rw [W6.fP (by omega) (by omega)]; exact uf.2.1, by rw [W6.fP (by omega) (by omega)]; exact uf.2.2.1, by rw [W6.fP (by omega) (by omega)]; exact uf.2.2.2.1, by rw [W6.fP (by omega) (by omega)]; exact uf.2.2.2.2⟩ ⟨al5.1.fx W6 (fun z => by omega) (fun z => by omega) (Or.inl rfl), al5.2.1.fx W6 (fun z => by omega) (fun z => by omega) (Or.inl rfl), al5.2.2.fx W6 (fun z => by omega) (fun z => by omega) (Or.inl rfl)⟩ (X6.less (fun g y hy z => by omega) (fun y hy z => by omega) (fun y hy z => by omega)) tp5 (by show rc h5 + 13 = rc h; omega) (by show rs h5 + 2113 = rs h; omega)
  · show (if 31300 = 31302 ∧ a = a then some (a + 5) else fP h5 31300 a) = _
    rw [if_neg (by omega), x5.fP (by omega) (by omega)]; exact p4.1
  · show (if 31301 = 31302 ∧ a = a then some (a + 5) else fP h5 31301 a) = _
    rw [if_neg (by omega), x5.fP (by omega) (by omega)]; exact p4.2
  · show (if 31302 = 31302 ∧ a = a then some (a + 5) else _) = _
    rw [if_pos ⟨rfl, rfl⟩]
  · rw [Y36.tg (by omega)]; exact t3
  · exact f3.fx Y36 (by omega) (fun f hf => n26 _ _ (by omega) (by omega))
