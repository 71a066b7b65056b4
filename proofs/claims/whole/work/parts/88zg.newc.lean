/-! A new catch -/
theorem p_newC {d : Nat} {h : AH} {Q : Option V → AH → Prop} {T U e0 : Nat} {r : RV} {D l : Nat} {il : Bool} {so : Option Nat} {nm ns B : Nat} {fW fS : Nat → Nat} {ks : List Nat} (E : ES h T U e0 1 r D l il so) (L : LST h U e0 nm fW ns fS ks (B + 1)) (H : ∀ h', ES h' T U e0 1 r D l il so → LST h' U e0 nm fW ns fS ks B → CO h' U (tp h) so → FO h' 3 (tp h) (up1 (up1 (fun _ => 0) 309 (-1)) 302 (nI l)) (fun _ => 0) (up1 (up1 (fun _ => none) 30300 (some (tp h + 1))) 30301 so) → NDr h' (tp h + 1) 0 1 (fun _ => 0) (fun _ => 0) → FX (fun _ _ => False) h h' → tp h' = tp h + 5 → wp (d + 10) K_X5_takeCatch 7 [vr (some (tp h))] [(0, vr (some (U + 9)))] h' Q) : wp (d + 10) K_X5_takeCatch 0 [] [(0, vr (some (U + 9)))] h Q := by
  have room := L.room
  have hU : U + 9 < tp h := E.1.2.2.1
  rw [bk_X5_takeCatch_0]
  refine ⟨by omega, by omega, ?_⟩
  have E1 := E.newO 3 10 (by decide)
  have t4 : tg (newO h 3 10) (tp h) = 4 := by rw [tg_newO, if_pos rfl]
  have xo : FX (fun g y => tp h ≤ y ∧ g / 100 % 100 < 20) h (newO h 3 10) := FX.O (by decide)
  have fo := FO.new h 3 10
  have tp1 : tp (newO h 3 10) = tp h + 1 := rfl
  have r1 := rc_newO h 3 10
  have s1 := rs_newO h 3 10
  generalize newO h 3 10 = h1 at *
  have c91 := E1.1.2.2.2.2.2.2.2.2.1
  rw [bk_X5_takeCatch_1, nn_some, E1.2.2.1.2.2.2.2, E1.2.2.1.2.2.1]
  refine ⟨c91, c91, t4, ?_⟩
  rw [bk_X1_init_0]
  refine ⟨by omega, by omega, ?_⟩
  have t7 : tg (newO h1 6 4) (tp h + 1) = 7 := by rw [tg_newO, if_pos (by omega)]
  have t42 : tg (newO h1 6 4) (tp h) = 4 := by rw [tg_newO, if_neg (by omega)]; exact t4
  have x2 : FX (fun g y => tp h ≤ y ∧ g / 100 % 100 < 20) h (newO h1 6 4) := xo.tr (FX.O (by decide))
  have fo2 : FO (newO h1 6 4) 3 (tp h) (fun _ => 0) (fun _ => 0) (fun _ => none) := fo.fx (FX.O (E := fun _ _ => False) (by decide)) (by omega) (fun _ _ z => z)
  have f603 : fI (newO h1 6 4) 603 (tp h + 1) = 0 := by
    have := ((FO.new h1 6 4) 603 (by decide)).1
    rw [tp1] at this
    exact this
  have tp2 : tp (newO h1 6 4) = tp h + 2 := by rw [tp_newO, tp1]
  have r2 := rc_newO h1 6 4
  have s2 := rs_newO h1 6 4
  rw [tp1]
  generalize newO h1 6 4 = h2 at *
  rw [bk_X1_init_4, nn_some]
  refine ⟨t7, n_init2 (wd := fun _ => 0) (pc := fun _ => 0) (mt := fun _ => none) t7 (by omega) f603 (by omega) (by omega) (fun h3 N3 x3 tp3 r3 s3 => ?_)⟩
  have t43 : tg h3 (tp h) = 4 := by rw [x3.tg (by omega)]; exact t42
  simp only [psh, bk_X1_init_6, nn_some]
  refine ⟨t43, t43, t43, ?_⟩
  rw [bk_X1_init_13]
  refine ⟨t43, ?_⟩
  have X3 : FX (fun g y => tp h ≤ y ∧ g / 100 % 100 < 20) h h3 := x2.tr (x3.mono (fun g y z => by omega))
  have fo3 := (((((fo2.fx x3 (by omega) (fun f hf z => by omega)).sP 30300 (some (tp h + 1))).sI 309 (-1)).sP 30301 so).sI 302 (nI l))
  have X4 : FX (fun g y => tp h ≤ y ∧ g / 100 % 100 < 20) h (setFI (setFP (setFI (setFP h3 30300 (tp h) (some (tp h + 1))) 309 (tp h) (-1)) 30301 (tp h) so) 302 (tp h) (nI l)) := (((X3.toFP _ ⟨Nat.le_refl _, by decide⟩).toFI _ ⟨Nat.le_refl _, by decide⟩).toFP _ ⟨Nat.le_refl _, by decide⟩).toFI _ ⟨Nat.le_refl _, by decide⟩
  have x34 : FX (fun g y => y = tp h ∧ g / 100 % 100 = 3) h3 (setFI (setFP (setFI (setFP h3 30300 (tp h) (some (tp h + 1))) 309 (tp h) (-1)) 30301 (tp h) so) 302 (tp h) (nI l)) := (((FX.FP ⟨rfl, by decide⟩).toFI _ ⟨rfl, by decide⟩).toFP _ ⟨rfl, by decide⟩).toFI _ ⟨rfl, by decide⟩
  have t44 : tg (setFI (setFP (setFI (setFP h3 30300 (tp h) (some (tp h + 1))) 309 (tp h) (-1)) 30301 (tp h) so) 302 (tp h) (nI l)) (tp h) = 4 := t43
  have tp4 : tp (setFI (setFP (setFI (setFP h3 30300 (tp h) (some (tp h + 1))) 309 (tp h) (-1)) 30301 (tp h) so) 302 (tp h) (nI l)) = tp h3 := rfl
  have r4 : rc (setFI (setFP (setFI (setFP h3 30300 (tp h) (some (tp h + 1))) 309 (tp h) (-1)) 30301 (tp h) so) 302 (tp h) (nI l)) = rc h3 := rfl
  have s4 : rs (setFI (setFP (setFI (setFP h3 30300 (tp h) (some (tp h + 1))) 309 (tp h) (-1)) 30301 (tp h) so) 302 (tp h) (nI l)) = rs h3 := rfl
  simp only [psh]
  generalize setFI (setFP (setFI (setFP h3 30300 (tp h) (some (tp h + 1))) 309 (tp h) (-1)) 30301 (tp h) so) 302 (tp h) (nI l) = h4 at *
  have X : FX (fun _ _ => False) h h4 := X4.less (fun g y hy z => by omega) (fun y h1 h2 => by omega) (fun y h1 h2 => by omega)
  have N4 : NDr h4 (tp h + 1) 0 1 (fun _ => 0) (fun _ => 0) := ⟨N3.fx x34 (fun q _ z => by omega) (fun z => by omega) (fun z => by omega) (fun z => by omega), fun j hj => by omega⟩
  refine H h4 (E.nw X (fun _ _ z => z.elim)) (LST.nw 1 L X (fun _ _ z => z.elim) (by omega) (by omega)) ⟨by omega, by omega, t44, ?_, N4.1.1, ?_⟩ fo3 N4 X (by omega)
  · rw [(fo3 30300 (by decide)).2.2]; rfl
  · rw [(fo3 30301 (by decide)).2.2]; rfl
