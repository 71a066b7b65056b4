/-! Methods: their names; a new one -/
theorem p_wayNamed {d : Nat} {h : AH} {Q : Option V → AH → Prop} {T U e0 nm ns B : Nat} {fW fS : Nat → Nat} {ks : List Nat} (C : CXT h T U e0) (L : LST h U e0 nm fW ns fS ks B) (hn : nm ≤ 12) (x : Int64) (H : Q (some (vi (oI (ffst (fun m => decide (fJ h 21201 (fW m) = x)) nm 0)))) h) : wp (d + 3) K_X8_wayNamed 0 [] [(0, vr (some U)), (1, vl x)] h Q := by
  obtain ⟨eW, eS, eM, aW, aS, cM, ⟨t1, t2⟩, rest⟩ := id L
  have c4 := C.2.2.2.1
  have c6 := C.2.2.2.2.2.1
  have Lp : ∀ m k, k + m = nm → Q (some (vi (oI (ffst (fun m => decide (fJ h 21201 (fW m) = x)) m k)))) h → wp (d + 3) K_X8_wayNamed 2 [] [(0, vr (some U)), (1, vl x), (3, vi (nI k))] h Q := by
    intro m
    induction m with
    | zero =>
      intro k e hq
      rw [bk_X8_wayNamed_2, c6, nn_some, l_size aW]
      refine ⟨c4, aW.1, ?_⟩
      simp only [psh]
      rw [bk_X8_wayNamed_6, nI_leI (by omega) (by omega)]
      refine ⟨fun _ => ?_, fun z => by omega⟩
      rw [bk_X8_wayNamed_24]
      exact hq
    | succ m ih =>
      intro k e hq
      rw [bk_X8_wayNamed_2, c6, nn_some, l_size aW]
      refine ⟨c4, aW.1, ?_⟩
      simp only [psh]
      rw [bk_X8_wayNamed_6, nI_leI (by omega) (by omega)]
      refine ⟨fun z => by omega, fun _ => ?_⟩
      rw [bk_X8_wayNamed_7, c6, nn_some, l_get aW (show k < nm by omega) (by omega)]
      refine ⟨c4, aW.1, ?_⟩
      simp only [psh]
      rw [bk_X8_wayNamed_11]
      have t13 := t1 k (by omega)
      refine ⟨fun a ea => (Option.some.inj ea) ▸ t13, (fun z => by cases z), fun _ => ?_⟩
      rw [bk_X8_wayNamed_15, nn_some, lg0]
      refine ⟨t13, fun z => ?_, fun z => ?_⟩
      · rw [bk_X8_wayNamed_22, nI_1]
        refine wp_cut 4 (ih (k + 1) (by omega) ?_)
        rw [ffst, if_neg (by rw [decide_eq_false z]; decide)] at hq
        exact hq
      · have z := Classical.not_not.mp z
        rw [bk_X8_wayNamed_20]
        rw [ffst, if_pos (decide_eq_true z)] at hq
        exact hq
  rw [bk_X8_wayNamed_0, lt0]
  exact Lp nm 0 (by omega) H
/-- a new method's object -/
theorem p_newW {d : Nat} {h : AH} {Q : Option V → AH → Prop} {T U e0 : Nat} {r : RV} {D l : Nat} {il : Bool} {so : Option Nat} {nm ns B : Nat} {fW fS : Nat → Nat} {ks : List Nat} (E : ES h T U e0 1 r D l il so) (L : LST h U e0 nm fW ns fS ks (B + 1)) (H : ∀ h', ES h' T U e0 1 r D l il so → LST h' U e0 nm fW ns fS ks B → tg h' (tp h) = 13 → FO h' 12 (tp h) (up1 (fun _ => 0) 1206 (-1)) (fun _ => 0) (up1 (fun _ => none) 31200 (some (tp h + 1))) → NDr h' (tp h + 1) 0 1 (fun _ => 0) (fun _ => 0) → FX (fun _ _ => False) h h' → tp h' = tp h + 5 → wp (d + 10) K_X5_tellWay 15 [vr (some (tp h))] [(0, vr (some (U + 9)))] h' Q) : wp (d + 10) K_X5_tellWay 12 [] [(0, vr (some (U + 9)))] h Q := by
  have room := L.room
  have hU : U + 9 < tp h := E.1.2.2.1
  rw [bk_X5_tellWay_12]
  refine ⟨by omega, by omega, ?_⟩
  have t4 : tg (newO h 12 9) (tp h) = 13 := by rw [tg_newO, if_pos rfl]
  have xo : FX (fun g y => tp h ≤ y ∧ g / 100 % 100 < 20) h (newO h 12 9) := FX.O (by decide)
  have fo := FO.new h 12 9
  have tp1 : tp (newO h 12 9) = tp h + 1 := rfl
  have r1 := rc_newO h 12 9
  have s1 := rs_newO h 12 9
  generalize newO h 12 9 = h1 at *
  rw [bk_X5_tellWay_13, nn_some]
  refine ⟨t4, ?_⟩
  rw [bk_X10_init_0]
  refine ⟨by omega, by omega, ?_⟩
  have t7 : tg (newO h1 6 4) (tp h + 1) = 7 := by rw [tg_newO, if_pos (by omega)]
  have t42 : tg (newO h1 6 4) (tp h) = 13 := by rw [tg_newO, if_neg (by omega)]; exact t4
  have x2 : FX (fun g y => tp h ≤ y ∧ g / 100 % 100 < 20) h (newO h1 6 4) := xo.tr (FX.O (by decide))
  have fo2 : FO (newO h1 6 4) 12 (tp h) (fun _ => 0) (fun _ => 0) (fun _ => none) := fo.fx (FX.O (E := fun _ _ => False) (by decide)) (by omega) (fun _ _ z => z)
  have f603 : fI (newO h1 6 4) 603 (tp h + 1) = 0 := by
    have := ((FO.new h1 6 4) 603 (by decide)).1
    rw [tp1] at this
    exact this
  have tp2 : tp (newO h1 6 4) = tp h + 2 := by rw [tp_newO, tp1]
  have r2 := rc_newO h1 6 4
  have s2 := rs_newO h1 6 4
  rw [tp1]
  generalize newO h1 6 4 = h2 at *
  rw [bk_X10_init_4, nn_some]
  refine ⟨t7, n_init2 (wd := fun _ => 0) (pc := fun _ => 0) (mt := fun _ => none) t7 (by omega) f603 (by omega) (by omega) (fun h3 N3 x3 tp3 r3 s3 => ?_)⟩
  have t43 : tg h3 (tp h) = 13 := by rw [x3.tg (by omega)]; exact t42
  simp only [psh, bk_X10_init_6, nn_some]
  refine ⟨t43, t43, ?_⟩
  have X3 : FX (fun g y => tp h ≤ y ∧ g / 100 % 100 < 20) h h3 := x2.tr (x3.mono (fun g y z => by omega))
  have fo3 := ((fo2.fx x3 (by omega) (fun f hf z => by omega)).sP 31200 (some (tp h + 1))).sI 1206 (-1)
  have X4 : FX (fun g y => tp h ≤ y ∧ g / 100 % 100 < 20) h (setFI (setFP h3 31200 (tp h) (some (tp h + 1))) 1206 (tp h) (-1)) := (X3.toFP _ ⟨Nat.le_refl _, by decide⟩).toFI _ ⟨Nat.le_refl _, by decide⟩
  have x34 : FX (fun g y => y = tp h ∧ g / 100 % 100 = 12) h3 (setFI (setFP h3 31200 (tp h) (some (tp h + 1))) 1206 (tp h) (-1)) := (FX.FP ⟨rfl, by decide⟩).toFI _ ⟨rfl, by decide⟩
  have t44 : tg (setFI (setFP h3 31200 (tp h) (some (tp h + 1))) 1206 (tp h) (-1)) (tp h) = 13 := t43
  have tp4 : tp (setFI (setFP h3 31200 (tp h) (some (tp h + 1))) 1206 (tp h) (-1)) = tp h3 := rfl
  have r4 : rc (setFI (setFP h3 31200 (tp h) (some (tp h + 1))) 1206 (tp h) (-1)) = rc h3 := rfl
  have s4 : rs (setFI (setFP h3 31200 (tp h) (some (tp h + 1))) 1206 (tp h) (-1)) = rs h3 := rfl
  generalize setFI (setFP h3 31200 (tp h) (some (tp h + 1))) 1206 (tp h) (-1) = h4 at *
  have X : FX (fun _ _ => False) h h4 := X4.less (fun g y hy z => by omega) (fun y h1 h2 => by omega) (fun y h1 h2 => by omega)
  have N4 : NDr h4 (tp h + 1) 0 1 (fun _ => 0) (fun _ => 0) := ⟨N3.fx x34 (fun q _ z => by omega) (fun z => by omega) (fun z => by omega) (fun z => by omega), fun j hj => by omega⟩
  exact H h4 (E.nw X (fun _ _ z => z.elim)) (LST.nw 1 L X (fun _ _ z => z.elim) (by omega) (by omega)) t44 fo3 N4 X (by omega)
section
variable {d : Nat} {h : AH} {Q : Option V → AH → Prop} {T U e0 : Nat} {rw : RV} {nk : Nat} {par : Nat → Nat} {wk : Nat → Int64} {pk : Nat → Int32} {nm ns : Nat} {fW fS : Nat → Nat} {ks : List Nat} {B B0 y : Nat}
theorem KD.pw {T U : Nat} {h h' : AH} (K : KD h (U + 1) nk par wk pk) (w : PW T U h h') (hT : T < U) : KD h' (U + 1) nk par wk pk := K.fx w.1 (fun g z => by
    rcases z with z | z
    · have := z.1; omega
    · omega) (EPW_no (by omega)) (EPW_no (by omega)) (EPW_no (by omega)) (EPW_no (by omega))
theorem KD.ls {U e0 : Nat} {h h' : AH} (K : KD h (U + 1) nk par wk pk) (x : FX (ELs U e0) h h') (he : e0 < U) : KD h' (U + 1) nk par wk pk := K.fx x (fun g z => by
    rcases z with z | z <;> omega) (ELs_no (by omega)) (ELs_no (by omega)) (ELs_no (by omega)) (ELs_no (by omega))
theorem ww_80 (HB : BLC 0) (hd : 180 ≤ d + 9) (E : ES h T U e0 1 rw 0 0 false none) (bad : ¬ gi rw 1452 = -1) (K : KD h (U + 1) nk par wk pk) (L : LST h U e0 nm fW ns fS ks (B + 1)) (cr : B0 + 1 ≤ B + 3 * tn (gi rw 1448) + 20) (hB0 : 3 * tn (gi rw 1448) + 100 ≤ B0) (hy : U + 10 ≤ y) (ty : tg h y = 13) (hy2 : y < tp h) (H : ∀ h' ks' B' nm' fW' ns' fS', ES h' T U e0 1 rw 0 0 false none → FX (EPT T U e0) h h' → LST h' U e0 nm' fW' ns' fS' ks' B' → B0 ≤ B' + 3 * tn (gi rw 1448) + 20 → Q none h') : wp (d + 10) K_X5_tellWay 80 [] [(0, vr (some (U + 9))), (1, vr (some y))] h Q := by
  have c9 := E.1.2.2.2.2.2.2.2.2.1
  rw [bk_X5_tellWay_80, show vi 24 = vi (nI 24) from rfl]
  refine ⟨c9, p_skip (d := d + 3) E (by omega) (fun z => absurd z bad) (fun _ => ?_)⟩
  simp only [psh]
  rw [bk_X5_tellWay_83]
  refine ⟨fun z => absurd rfl z, fun _ => ?_⟩
  rw [bk_X5_tellWay_84]
  refine ⟨c9, HB (d + 9) h _ T U e0 0 false none [] rw rw rw 0 nk par wk pk nm fW ns fS ks B B0 (fun _ _ => 0) (by omega) (by omega) E rfl K L ⟨rfl, rfl, fun z => absurd z bad⟩ (fun z => absurd z bad) (fun _ => cr) hB0 (fun z => absurd z bad) (fun z => absurd z bad) ?_ ?_⟩
  · intro _ _ _ _ _ _ _ _ z
    exact absurd z bad
  · intro h' rw' x ks' B' ns' fS' hh bad' E' X' L' fk cr' tx
    have e : gi rw' 1452 = gi rw 1452 := by
      rcases hh with ⟨-, z⟩ | ⟨z, -⟩
      · exact z
      · exact absurd z bad
    have E2 := (es_wrong E X' E' e bad).fp (f := 31208) (x := y) (some x) hy (by decide)
    have L2 := LST.fp L' (f := 31208) (x := y) (some x) hy (by decide)
    have X2 : FX (EPT T U e0) h (setFP h' 31208 y (some x)) := (X'.mono (fun _ _ z => Or.inl z)).toFP _ (Or.inr (Or.inr (Or.inr ⟨hy, by decide⟩)))
    simp only [psh, bk_X5_tellWay_87, nn_some]
    refine ⟨by rw [X'.tg hy2]; exact ty, ?_⟩
    rw [bk_X5_tellWay_88]
    exact H _ ks' B' nm fW ns' fS' E2 X2 L2 (by omega)
theorem ww_62 (HB : BLC 0) (hd : 180 ≤ d + 9) (E : ES h T U e0 1 rw 0 0 false none) (bad : ¬ gi rw 1452 = -1) (K : KD h (U + 1) nk par wk pk) (L : LST h U e0 nm fW ns fS ks (B + 1)) (cr : B0 + 1 ≤ B + 3 * tn (gi rw 1448) + 20) (hB0 : 3 * tn (gi rw 1448) + 100 ≤ B0) (hy : U + 10 ≤ y) (ty : tg h y = 13) (hy2 : y < tp h) (H : ∀ h' ks' B' nm' fW' ns' fS', ES h' T U e0 1 rw 0 0 false none → FX (EPT T U e0) h h' → LST h' U e0 nm' fW' ns' fS' ks' B' → B0 ≤ B' + 3 * tn (gi rw 1448) + 20 → Q none h') : wp (d + 10) K_X5_tellWay 62 [] [(0, vr (some (U + 9))), (1, vr (some y))] h Q := by
  have c9 := E.1.2.2.2.2.2.2.2.2.1
  rw [bk_X5_tellWay_62, show vi 15 = vi (nI 15) from rfl]
  refine ⟨c9, p_skip (d := d + 3) E (by omega) (fun z => absurd z bad) (fun _ => ?_)⟩
  simp only [psh]
  rw [bk_X5_tellWay_66, nn_some, show vi 16 = vi (nI 16) from rfl]
  have xs : FX (fun g z => g = 11207 ∧ z = y) h (setFI h 11207 y 0) := FX.FI ⟨rfl, rfl⟩
  have E1 := E.fi (f := 11207) (x := y) 0 hy (by decide)
  have L1 := LST.fi L (f := 11207) (x := y) 0 hy (by decide)
  have K1 := K.fx xs (fun g z => by omega) (fun z => by omega) (fun z => by omega) (fun z => by omega) (fun z => by omega)
  refine ⟨ty, Or.inl rfl, c9, p_skip (d := d + 3) E1 (by omega) (fun z => absurd z bad) (fun _ => ?_)⟩
  simp only [psh]
  rw [bk_X5_tellWay_70]
  refine ⟨fun _ => ?_, fun z => absurd rfl z⟩
  exact ww_80 HB hd E1 bad K1 L1 cr hB0 hy ty hy2 (fun h' ks' B' nm' fW' ns' fS' E' X' L' c' => H h' ks' B' nm' fW' ns' fS' E' ((xs.mono (fun g z w => Or.inr (Or.inr (Or.inr ⟨by omega, by omega⟩)))).tr X') L' c')
theorem ww_44 {s0 : Int32} (HB : BLC 0) (hd : 180 ≤ d + 9) (E : ES h T U e0 1 rw 0 0 false none) (bad : ¬ gi rw 1452 = -1) (K : KD h (U + 1) nk par wk pk) (L : LST h U e0 nm fW ns fS ks (B + 1)) (cr : B0 + 1 ≤ B + 3 * tn (gi rw 1448) + 20) (hB0 : 3 * tn (gi rw 1448) + 100 ≤ B0) (hy : U + 10 ≤ y) (ty : tg h y = 13) (hy2 : y < tp h) (H : ∀ h' ks' B' nm' fW' ns' fS', ES h' T U e0 1 rw 0 0 false none → FX (EPT T U e0) h h' → LST h' U e0 nm' fW' ns' fS' ks' B' → B0 ≤ B' + 3 * tn (gi rw 1448) + 20 → Q none h') : wp (d + 10) K_X5_tellWay 44 [vi s0] [(0, vr (some (U + 9))), (1, vr (some y))] h Q := by
  have c9 := E.1.2.2.2.2.2.2.2.2.1
  rw [bk_X5_tellWay_44, show vi 14 = vi (nI 14) from rfl]
  refine ⟨c9, p_skip (d := d + 3) E (by omega) (fun z => absurd z bad) (fun _ => ?_)⟩
  simp only [psh]
  rw [bk_X5_tellWay_49, nn_some, nn_some, show fI (setFI h 11203 y 0) 11203 y = 0 from fFI_same _ _ _ _]
  have xs : FX (fun g z => g = 11203 ∧ z = y) h (setFI h 11203 y 0) := FX.FI ⟨rfl, rfl⟩
  have E1 := E.fi (f := 11203) (x := y) 0 hy (by decide)
  have L1 := LST.fi L (f := 11203) (x := y) 0 hy (by decide)
  have K1 := K.fx xs (fun g z => by omega) (fun z => by omega) (fun z => by omega) (fun z => by omega) (fun z => by omega)
  refine ⟨ty, Or.inl rfl, ty, fun _ => ?_, fun z => absurd rfl z⟩
  exact ww_62 HB hd E1 bad K1 L1 cr hB0 hy ty hy2 (fun h' ks' B' nm' fW' ns' fS' E' X' L' c' => H h' ks' B' nm' fW' ns' fS' E' ((xs.mono (fun g z w => Or.inr (Or.inr (Or.inr ⟨by omega, by omega⟩)))).tr X') L' c')
theorem ww_76 {k : Nat} {wd : Nat → Int64} {pc : Nat → Int32} (HB : BLC 0) (hd : 180 ≤ d + 9) (E : ES h T U e0 1 rw 0 0 false none) (bad : ¬ gi rw 1452 = -1) (K : KD h (U + 1) nk par wk pk) (N : NDr h (y + 1) k 1 wd pc) (L : LST h U e0 nm fW ns fS ks (B + 1 + k)) (cr : B0 + 1 ≤ B + 3 * tn (gi rw 1448) + 20) (hB0 : 3 * tn (gi rw 1448) + 100 ≤ B0) (hy : U + 10 ≤ y) (ty : tg h y = 13) (py : fP h 31200 y = some (y + 1)) (hy2 : y < tp h) (H : ∀ h' ks' B' nm' fW' ns' fS', ES h' T U e0 1 rw 0 0 false none → FX (EPT T U e0) h h' → LST h' U e0 nm' fW' ns' fS' ks' B' → B0 ≤ B' + 3 * tn (gi rw 1448) + 20 → Q none h') : wp (d + 10) K_X5_tellWay 76 [] [(0, vr (some (U + 9))), (1, vr (some y))] h Q := by
  have c9 := E.1.2.2.2.2.2.2.2.2.1
  have he := L.e0
  rw [bk_X5_tellWay_76, nn_some, py]
  refine ⟨ty, c9, p_know (d := d + 1) (by omega) (by omega) E K N L (fun h1 ks1 E1 N1 L1 pm x1 tp1 => ?_)⟩
  simp only [psh]
  have no : ∀ z, z ≤ U + 5 → ¬ (ELs U e0 90001 z ∨ (90001 = 90001 ∧ z = y + 1 + 3)) := fun z hz w => by
    rcases w with w | w
    · exact ELs_no (by omega) w
    · omega
  have K1 := K.fx x1 (fun g w => by
    rcases w with w | w
    · rcases w with w | w <;> omega
    · omega) (no _ (by omega)) (no _ (by omega)) (no _ (by omega)) (no _ (by omega))
  have X1 : FX (EPT T U e0) h h1 := x1.mono (fun g z w => by
    rcases w with w | w
    · exact Or.inl (Or.inr (Or.inl w))
    · exact Or.inr (Or.inr (Or.inr ⟨by omega, by omega⟩)))
  exact ww_80 HB hd E1 bad K1 L1 cr hB0 hy (by rw [x1.tg hy2]; exact ty) (by omega) (fun h' ks' B' nm' fW' ns' fS' E' X' L' c' => H h' ks' B' nm' fW' ns' fS' E' (X1.tr X') L' c')
end
