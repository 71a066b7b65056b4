/-! Reading a statement: what all have in common -/
def srt (r : RV) : Option Nat := if tkn r = 20 then some 11 else if tkn r ≤ 10 then some (tkn r) else none
theorem isSt_srt {r : RV} (T : RT r) : isSt r = true ↔ ¬ srt r = none := by
  have k0 := tk_kw T (k := 0) (by decide)
  have k1 := tk_kw T (k := 1) (by decide)
  have k2 := tk_kw T (k := 2) (by decide)
  have k3 := tk_kw T (k := 3) (by decide)
  have k4 := tk_kw T (k := 4) (by decide)
  have k5 := tk_kw T (k := 5) (by decide)
  have k6 := tk_kw T (k := 6) (by decide)
  have k7 := tk_kw T (k := 7) (by decide)
  have k8 := tk_kw T (k := 8) (by decide)
  have k9 := tk_kw T (k := 9) (by decide)
  have k10 := tk_kw T (k := 10) (by decide)
  have s := tk_sign T (c := 123) (by decide)
  unfold isSt srt
  rw [decide_eq_true_eq]
  have e : (if tkn r = 20 then some 11 else if tkn r ≤ 10 then some (tkn r) else none) = none ↔ ¬ tkn r = 20 ∧ ¬ tkn r ≤ 10 := by
    by_cases z : tkn r = 20
    · simp [z]
    · by_cases y : tkn r ≤ 10
      · simp [z, y]
      · simp [z, y]
  rw [e]
  constructor
  · rintro (h | h | h | h | h | h | h | h | h | h | h | h) ⟨n1, n2⟩
    · exact n1 (s.mpr h)
    · have := k0.mpr h; omega
    · have := k1.mpr h; omega
    · have := k2.mpr h; omega
    · have := k3.mpr h; omega
    · have := k4.mpr h; omega
    · have := k5.mpr h; omega
    · have := k6.mpr h; omega
    · have := k7.mpr h; omega
    · have := k8.mpr h; omega
    · have := k9.mpr h; omega
    · have := k10.mpr h; omega
  · intro h
    by_cases z : tkn r = 20
    · exact Or.inl (s.mp z)
    · have z2 : tkn r ≤ 10 := Classical.byContradiction (fun y => h ⟨z, y⟩)
      have c : tkn r = 0 ∨ tkn r = 1 ∨ tkn r = 2 ∨ tkn r = 3 ∨ tkn r = 4 ∨ tkn r = 5 ∨ tkn r = 6 ∨ tkn r = 7 ∨ tkn r = 8 ∨ tkn r = 9 ∨ tkn r = 10 := by omega
      rcases c with c | c | c | c | c | c | c | c | c | c | c
      · exact Or.inr (Or.inl (k0.mp c))
      · exact Or.inr (Or.inr (Or.inl (k1.mp c)))
      · exact Or.inr (Or.inr (Or.inr (Or.inl (k2.mp c))))
      · exact Or.inr (Or.inr (Or.inr (Or.inr (Or.inl (k3.mp c)))))
      · exact Or.inr (Or.inr (Or.inr (Or.inr (Or.inr (Or.inl (k4.mp c))))))
      · exact Or.inr (Or.inr (Or.inr (Or.inr (Or.inr (Or.inr (Or.inl (k5.mp c)))))))
      · exact Or.inr (Or.inr (Or.inr (Or.inr (Or.inr (Or.inr (Or.inr (Or.inl (k6.mp c))))))))
      · exact Or.inr (Or.inr (Or.inr (Or.inr (Or.inr (Or.inr (Or.inr (Or.inr (Or.inl (k7.mp c)))))))))
      · exact Or.inr (Or.inr (Or.inr (Or.inr (Or.inr (Or.inr (Or.inr (Or.inr (Or.inr (Or.inl (k8.mp c))))))))))
      · exact Or.inr (Or.inr (Or.inr (Or.inr (Or.inr (Or.inr (Or.inr (Or.inr (Or.inr (Or.inr (Or.inl (k9.mp c)))))))))))
      · exact Or.inr (Or.inr (Or.inr (Or.inr (Or.inr (Or.inr (Or.inr (Or.inr (Or.inr (Or.inr (Or.inr (k10.mp c)))))))))))
theorem srt_le {r : RV} {k : Nat} (h : srt r = some k) : k ≤ 11 := by
  unfold srt at h
  split at h
  · cases h; omega
  · split at h
    · cases h; omega
    · cases h
section
variable {d : Nat} {h : AH} {Q : Option V → AH → Prop} {T U e0 m : Nat} {r : RV} {D l : Nat} {il : Bool} {so : Option Nat}
theorem p_sortHere (E : ES h T U e0 m r D l il so) (er : gi r 1452 = -1) : wp (d + 1) K_X5_sortHere 0 [] [(0, vr (some (U + 9)))] h Q = Q (some (vi (oI (srt r)))) h := by
  have c9 := E.1.2.2.2.2.2.2.2.2.1
  have c10 := E.1.2.2.2.2.2.2.2.2.2.1
  have tT : tg h T = 10 := E.2.1.1
  have tk : fI h 904 T = nI (tkn r) := (E.2.2.2.2 er).1.2.2.1
  have tl := tkn_le r
  rw [bk_X5_sortHere_0, show vi 20 = vi (nI 20) from rfl, p_at E (by omega)]
  simp only [psh, bk_X5_sortHere_3, bk_X5_sortHere_6, bk_X5_sortHere_4, bk_X5_sortHere_23, bk_X5_sortHere_10, bk_X5_sortHere_24, bk_X5_sortHere_14, bk_X5_sortHere_19, b2i_0, c9, c10, nn_some, tT, tk, E.2.2.1.1, er]
  have n0 : ¬ nI (tkn r) < 0 := nI_pos (by omega)
  have n1 : (10 : Int32) < nI (tkn r) ↔ 10 < tkn r := by rw [show (10 : Int32) = nI 10 from rfl, nI_ltI (by omega) (by omega)]
  unfold srt
  by_cases z : tkn r = 20
  · simp [z, oI]
    exact Iff.rfl
  · by_cases y : tkn r ≤ 10
    · have : ¬ (10 : Int32) < nI (tkn r) := fun q => by have := n1.mp q; omega
      simp [z, y, n0, this, oI]
    · have : (10 : Int32) < nI (tkn r) := n1.mpr (by omega)
      simp [z, y, n0, this, oI]
end
/-- the fields of a new statement -/
def vS0 (k : Int32) (p w l : Int32) : Nat → Int32 := up1 (up1 (up1 (up1 (up1 (fun _ => 0) 807 (-1)) 800 k) 801 p) 802 w) 803 l
/-- since h: lists, new things -/
def ENL (U e0 b g y : Nat) : Prop := ELs U e0 g y ∨ (b ≤ y ∧ g / 100 % 100 < 20)
theorem ENL_en {T U e0 b : Nat} {sc : List Nat} {h h' : AH} (x : FX (ENL U e0 b) h h') : FX (EPn T U e0 b sc) h h' := x.mono (fun g y z => by
  rcases z with z | z
  · exact Or.inl (Or.inr (Or.inl z))
  · exact Or.inr z)
theorem st_pre {d : Nat} {h : AH} {Q : Option V → AH → Prop} {T U e0 : Nat} {r : RV} {D l : Nat} {il : Bool} {so : Option Nat} {nm ns B : Nat} {fW fS : Nat → Nat} {ks : List Nat} (E : ES h T U e0 1 r D l il so) (er : gi r 1452 = -1) (L : LST h U e0 nm fW ns fS ks (B + 1)) (hns : ns ≤ 120)
    (HF : srt r = none ∨ ns = 120 → ∀ h' B', ES h' T U e0 1 (faiF r) D l il so → LST h' U e0 nm fW ns fS ks B → FX (fun g y => EPW T U g y ∨ (tp h ≤ y ∧ g / 100 % 100 < 20)) h h' → (tg h' (tp h) = 9 ∧ tp h < tp h') → B' = B → Q (some (vr (some (tp h)))) h')
    (HC : ∀ k, srt r = some k → ns < 120 → ∀ h3, ES h3 T U e0 1 r D l il so → LST h3 U e0 nm fW (ns + 1) (up1 fS ns (tp h)) ks B → FX (ENL U e0 (tp h)) h h3 → tg h3 (tp h) = 9 → (tp h < tp h3 ∧ (tg h3 (tp h3 - 1) = 9 ∨ tg h3 (tp h3 - 1) = 109)) → FO h3 8 (tp h) (vS0 (nI k) (gi r 1449) (nI nm - 1) (nI l)) (fun _ => 0) (fun _ => none) → wp (d + 8) K_X5_takeStatement (if k = 11 then 41 else 47) [] [(0, vr (some (U + 9))), (1, vi (nI k)), (2, vr (some (tp h)))] h3 Q) :
    wp (d + 8) K_X5_takeStatement 0 [] [(0, vr (some (U + 9)))] h Q := by
  have c9 := E.1.2.2.2.2.2.2.2.2.1
  have hU : U + 9 < tp h := E.1.2.2.1
  have room := L.room
  rw [bk_X5_takeStatement_0, p_sortHere E er]
  refine ⟨c9, ?_⟩
  simp only [psh, bk_X5_takeStatement_2]
  refine ⟨by omega, by omega, ?_⟩
  have E1 := E.newO 8 16 (by decide)
  have L1 := LST.newO L 8 16 (by decide) (by decide)
  have tx : tg (newO h 8 16) (tp h) = 9 := by rw [tg_newO, if_pos rfl]
  have xo : FX (fun g y => tp h ≤ y ∧ g / 100 % 100 < 20) h (newO h 8 16) := FX.O (by decide)
  have fo := FO.new h 8 16
  have tp1 : tp (newO h 8 16) = tp h + 1 := rfl
  generalize newO h 8 16 = h1 at *
  have c91 := E1.1.2.2.2.2.2.2.2.2.1
  have c10 := E1.1.2.2.2.2.2.2.2.2.2.1
  have c11 := E1.1.2.2.2.2.2.2.2.2.2.2
  have c4 := E1.1.2.2.2.1
  have c6 := E1.1.2.2.2.2.2.1
  have tT : tg h1 T = 10 := E1.2.1.1
  have K1 := (E1.2.2.2.2 er).1.2.1
  obtain ⟨eW, eS, eM, aW, aS, restL⟩ := id L1
  rw [bk_X5_takeStatement_4, c10, nn_some, c11, nn_some, c6, nn_some, l_size aW, K1]
  refine ⟨c91, tT, c91, c4, aW.1, ?_⟩
  simp only [psh, bk_X5_takeStatement_13, nn_some]
  rw [bk_X6_init_0, bk_X6_init_11, E1.2.2.1.2.2.1]
  refine ⟨c91, tx, tx, tx, tx, tx, tx, ?_⟩
  simp only [psh]
  have xU : U + 10 ≤ tp h := by omega
  have fo5 : FO (setFI (setFI (setFI (setFI (setFI h1 807 (tp h) (-1)) 800 (tp h) (oI (srt r))) 801 (tp h) (gi r 1449)) 802 (tp h) (nI nm - 1)) 803 (tp h) (nI l)) 8 (tp h) (vS0 (oI (srt r)) (gi r 1449) (nI nm - 1) (nI l)) (fun _ => 0) (fun _ => none) := ((((fo.sI 807 (-1)).sI 800 _).sI 801 _).sI 802 _).sI 803 _
  have E5 := ((((E1.fi (f := 807) (x := tp h) (-1) xU (by decide)).fi (f := 800) (x := tp h) (oI (srt r)) xU (by decide)).fi (f := 801) (x := tp h) (gi r 1449) xU (by decide)).fi (f := 802) (x := tp h) (nI nm - 1) xU (by decide)).fi (f := 803) (x := tp h) (nI l) xU (by decide)
  have L5 := LST.fi (LST.fi (LST.fi (LST.fi (LST.fi L1 (f := 807) (x := tp h) (-1) xU (by decide)) (f := 800) (x := tp h) (oI (srt r)) xU (by decide)) (f := 801) (x := tp h) (gi r 1449) xU (by decide)) (f := 802) (x := tp h) (nI nm - 1) xU (by decide)) (f := 803) (x := tp h) (nI l) xU (by decide)
  have x5 : FX (fun g y => tp h ≤ y ∧ g / 100 % 100 < 20) h (setFI (setFI (setFI (setFI (setFI h1 807 (tp h) (-1)) 800 (tp h) (oI (srt r))) 801 (tp h) (gi r 1449)) 802 (tp h) (nI nm - 1)) 803 (tp h) (nI l)) := ((((xo.toFI _ ⟨Nat.le_refl _, by decide⟩).toFI _ ⟨Nat.le_refl _, by decide⟩).toFI _ ⟨Nat.le_refl _, by decide⟩).toFI _ ⟨Nat.le_refl _, by decide⟩).toFI _ ⟨Nat.le_refl _, by decide⟩
  have tx5 : tg (setFI (setFI (setFI (setFI (setFI h1 807 (tp h) (-1)) 800 (tp h) (oI (srt r))) 801 (tp h) (gi r 1449)) 802 (tp h) (nI nm - 1)) 803 (tp h) (nI l)) (tp h) = 9 := tx
  have tp5 : tp (setFI (setFI (setFI (setFI (setFI h1 807 (tp h) (-1)) 800 (tp h) (oI (srt r))) 801 (tp h) (gi r 1449)) 802 (tp h) (nI nm - 1)) 803 (tp h) (nI l)) = tp h + 1 := tp1
  generalize setFI (setFI (setFI (setFI (setFI h1 807 (tp h) (-1)) 800 (tp h) (oI (srt r))) 801 (tp h) (gi r 1449)) 802 (tp h) (nI nm - 1)) 803 (tp h) (nI l) = h5 at *
  have c95 := E5.1.2.2.2.2.2.2.2.2.1
  have c115 := E5.1.2.2.2.2.2.2.2.2.2.2
  have c45 := E5.1.2.2.2.1
  have c75 := E5.1.2.2.2.2.2.2.1
  -- refused
  have RF : srt r = none ∨ ns = 120 → wp (d + 8) K_X5_takeStatement 28 [] [(0, vr (some (U + 9))), (1, vi (oI (srt r))), (2, vr (some (tp h)))] h5 Q := fun bad => by
    rw [bk_X5_takeStatement_28]
    refine ⟨c95, p_refuse E5 (fun h6 E6 w6 => ?_)⟩
    simp only [psh, bk_X5_takeStatement_30]
    rw [gT_f er] at E6
    refine HF bad h6 B E6 (L5.pw w6) ((x5.mono (fun _ _ z => Or.inr z)).tr (w6.1.mono (fun _ _ z => Or.inl z))) ⟨by rw [w6.1.tg (by omega)]; exact tx5, by rw [w6.2.1]; omega⟩ rfl
  rw [bk_X5_takeStatement_18]
  cases es : srt r with
  | none =>
    rw [es] at RF
    exact ⟨fun _ => RF (Or.inl rfl), fun z => absurd rfl z⟩
  | some k =>
    rw [es] at RF fo5
    have k11 := srt_le es
    refine ⟨fun z => absurd z (nI_ne_m1 (by omega)), fun _ => ?_⟩
    obtain ⟨eW, eS, eM, aW, aS, restL⟩ := id L5
    rw [bk_X5_takeStatement_22, c115, nn_some, c75, nn_some, l_size aS]
    refine ⟨c95, c45, aS.1, ?_⟩
    simp only [psh, bk_X5_takeStatement_26]
    rw [lt120, nI_ltI (by omega) (by omega)]
    refine ⟨fun z => ?_, fun z => RF (Or.inr (by omega))⟩
    rw [bk_X5_takeStatement_32, c115, nn_some, c75, nn_some]
    refine ⟨c95, c45, aS.1, p_addS E5.1 L5 (by omega) tx5 (by omega) (fun h6 L6 x6 t6 => ?_)⟩
    simp only [psh, bk_X5_takeStatement_37]
    have x56 : FX (ENL U e0 (tp h)) h h6 := (x5.mono (fun _ _ z => Or.inr z)).tr (x6.mono (fun _ _ z => Or.inl z))
    have fo6 := fo5.fx x6 (by omega) (fun f hf z => by
      rcases z with ⟨z1, z2⟩ | ⟨z1, z2⟩ <;> omega)
    have ntg : tg h6 (tp h6 - 1) = 9 ∨ tg h6 (tp h6 - 1) = 109 := by
      have t61 := x6.1
      by_cases y : tp h6 = tp h5
      · refine Or.inl ?_
        rw [show tp h6 - 1 = tp h by omega, x6.tg (by omega)]; exact tx5
      · refine Or.inr ?_
        rcases t6.2 with z2 | z2
        · exact absurd z2 y
        · rw [show tp h6 - 1 = tp h5 by omega]; exact z2
    have H := HC k es z h6 (E5.ls x6) L6 x56 (by rw [x6.tg (by omega)]; exact tx5) ⟨by have := x6.1; omega, ntg⟩ fo6
    refine ⟨fun y => ?_, fun y => ?_⟩
    · have : ¬ k = 11 := fun q => y (by rw [q]; rfl)
      rw [if_neg this] at H
      exact H
    · have y := Classical.not_not.mp y
      have y : k = 11 := by
        have y' : nI k = nI 11 := y
        have := congrArg tn y'
        rw [tn_nI (by omega), tn_nI (by omega)] at this
        exact this
      rw [if_pos y] at H
      exact H
