/-! set -/
section
variable {d : Nat} {h4 : AH} {Q : Option V → AH → Prop} {T U e0 : Nat} {r1 : RV} {D l : Nat} {il : Bool} {so : Option Nat} {nm ns B x : Nat} {fW fS : Nat → Nat} {ks : List Nat} {v0 : Nat → Int32}
theorem nm_set {sc : List Nat} (E : ES h4 T U e0 1 r1 D l il so) (C : CHN h4 U sc so) (L : LST h4 U e0 nm fW ns fS ks (B + 2)) (hx : U + 10 ≤ x) (hx2 : x < tp h4) (hxs : ∀ a, a ∈ sc → ¬ a = x) (t9 : tg h4 x = 9) (F : FO h4 8 x v0 (fun _ => 0) (fun _ => none)) (v2 : v0 800 = 3)
    (H : ∀ h' y pn ks' v', ES h' T U e0 1 (gT (decide (tkn r1 = 27)) r1) D l il so → LST h' U e0 nm fW ns fS ks' B → FX (ENM T U e0 x (sc.find? (fun a => decide (fJ h4 20303 a = y)))) h4 h' → FO h' 8 x v' (up1 (fun _ => 0) 20805 y) (up1 (fun _ => none) 30808 (sc.find? (fun a => decide (fJ h4 20303 a = y)))) → (∀ f, ¬ f = 806 → v' f = v0 f) → v' 806 = nI pn → fI h4 905 T = nI pn → 0 < pn → pn ≤ 2000 → (gi r1 1452 = -1 → tkn r1 = 27 → y = conv (gl r1 21450) ∧ WV (gl r1 21450)) → (sc.find? (fun a => decide (fJ h4 20303 a = y)) = none → CTK ks' [keyN pn 1 0] ks) → (∀ a, sc.find? (fun a => decide (fJ h4 20303 a = y)) = some a → fI h' 10304 a = 1 ∧ CTK ks' (lif (decide (¬ fI h4 603 (a + 1) < 2)) (keyN pn 6 0) ++ lif (decide (¬ v0 803 ≤ fI h4 302 a)) (keyN pn 12 0)) ks) → Q none h') : wp (d + 9) K_X5_takeNaming 0 [] [(0, vr (some (U + 9))), (1, vr (some x))] h4 Q := by
  refine nm_pre (d := d + 1) E L hx hx2 t9 F (fun h5 y pn E5 L5 X5 tp5 F5 pp p0 p2 val => ?_)
  rw [v2, if_neg (by decide)]
  have c9 := E5.1.2.2.2.2.2.2.2.2.1
  have t95 : tg h5 x = 9 := by rw [X5.tg hx2]; exact t9
  have nE : ∀ g a, ¬ (g = 903 ∨ g = 904 ∨ g = 905 ∨ g = 20906 ∨ g = 702 ∨ g = 100 ∨ g = 102 ∨ g = 30101 ∨ g = 90003) → ¬ g / 100 % 100 = 8 → ¬ ENM T U e0 x none g a := fun g a h1 h2 z => by
    rcases z with z | z | z | ⟨-, z⟩
    · exact EPW_no (by omega) z
    · exact ELs_no (by omega) z
    · exact h2 z.2
    · cases z
  have C5 : CHN h5 U sc so := CHN.fx X5 (fun a => ⟨nE _ _ (by decide) (by decide), nE _ _ (by decide) (by decide)⟩) C
  have fs : sc.find? (fun a => decide (fJ h5 20303 a = y)) = sc.find? (fun a => decide (fJ h4 20303 a = y)) := by
    have g : ∀ l : List Nat, (∀ a, a ∈ l → a < tp h4) → l.find? (fun a => decide (fJ h5 20303 a = y)) = l.find? (fun a => decide (fJ h4 20303 a = y)) := by
      intro l
      induction l with
      | nil => intro _; rfl
      | cons a l ih =>
        intro hl
        rw [List.find?_cons, List.find?_cons, ih (fun b m => hl b (List.mem_cons_of_mem _ m)), X5.fJ (hl a List.mem_cons_self) (nE _ _ (by decide) (by decide))]
    exact g sc (fun a m => by have := (C.mem a m).2.1; omega)
  rw [bk_X5_takeNaming_22, nn_some, (F5 20805 (by decide)).2.1, show up1 (fun _ => 0) 20805 y 20805 = y from if_pos rfl, p_param c9 E5.2.2.1.2.2.2.2 C5, fs]
  refine ⟨t95, c9, ?_⟩
  simp only [psh, bk_X5_takeNaming_27, nn_some]
  obtain ⟨o, ho⟩ : ∃ o, sc.find? (fun a => decide (fJ h4 20303 a = y)) = o := ⟨_, rfl⟩
  rw [ho]
  have E6 := E5.fp (f := 30808) (x := x) o hx (by decide)
  have L6 := LST.fp L5 (f := 30808) (x := x) o hx (by decide)
  have F6 := F5.sP 30808 o
  have X6 : FX (ENM T U e0 x none) h4 (setFP h5 30808 x o) := X5.toFP _ (Or.inr (Or.inr (Or.inl ⟨rfl, by decide⟩)))
  have t96 : tg (setFP h5 30808 x o) x = 9 := t95
  have tp6 : tp (setFP h5 30808 x o) = tp h4 := tp5
  generalize setFP h5 30808 x o = h6 at *
  have w800 : fI h6 800 x = 3 := by
    rw [(F6 800 (by decide)).1]
    unfold up1; rw [if_neg (by decide)]; exact v2
  have w806 : up1 v0 806 (nI pn) 806 = nI pn := if_pos rfl
  have wf : ∀ f, ¬ f = 806 → up1 v0 806 (nI pn) f = v0 f := fun f hf => if_neg hf
  have p808 : fP h6 30808 x = o := (F6 30808 (by decide)).2.2.trans (if_pos rfl)
  rw [w800]
  refine ⟨t95, t96, fun z => absurd (by decide) z, fun _ => ?_⟩
  have c96 := E6.1.2.2.2.2.2.2.2.2.1
  rw [bk_X5_takeNaming_32]
  refine ⟨c96, ?_⟩
  rw [bk_X5_noteSet_0, nn_some, p808]
  refine ⟨t96, fun z => ?_, fun z => ?_⟩
  · -- a catch around
    obtain ⟨a, ea⟩ : ∃ a, o = some a := by
      cases o with
      | none => exact absurd rfl z
      | some a => exact ⟨a, rfl⟩
    have am : a ∈ sc := List.mem_of_find?_eq_some (ho.trans ea)
    obtain ⟨m1, m2, m3, m4, m5⟩ := C.mem a am
    have ax : ¬ a = x := hxs a am
    have tA : tg h6 a = 4 := by rw [X6.tg (by omega)]; exact m3
    have pA : fP h6 30300 a = some (a + 1) := by rw [X6.fP (by omega) (nE _ _ (by decide) (by decide))]; exact m4
    have tN : tg h6 (a + 1) = 7 := by rw [X6.tg m2]; exact m5
    have c603 : fI h6 603 (a + 1) = fI h4 603 (a + 1) := X6.fI m2 (nE _ _ (by decide) (by decide))
    have c302 : fI h6 302 a = fI h4 302 a := X6.fI (by omega) (nE _ _ (by decide) (by decide))
    have E7 := E6.fi (f := 10304) (x := a) 1 (by omega) (by decide)
    have L7 := LST.fi L6 (f := 10304) (x := a) 1 (by omega) (by decide)
    have xs : FX (fun g q => g = 10304 ∧ q = a) h6 (setFI h6 10304 a 1) := FX.FI ⟨rfl, rfl⟩
    have F7 := F6.fx xs (by omega) (fun f hf q => by omega)
    have X7 : FX (ENM T U e0 x o) h4 (setFI h6 10304 a 1) := (ENM_up X6).tr (xs.mono (fun g q w => Or.inr (Or.inr (Or.inr ⟨w.1, by rw [ea, w.2]⟩))))
    have t97 : tg (setFI h6 10304 a 1) x = 9 := t96
    have tp7 : tp (setFI h6 10304 a 1) = tp h4 := tp6
    have i7 : fI (setFI h6 10304 a 1) 10304 a = 1 := fFI_same _ _ _ _
    have k603 : fI (setFI h6 10304 a 1) 603 (a + 1) = fI h4 603 (a + 1) := by rw [fI_setFI, if_neg (by omega)]; exact c603
    have k302 : fI (setFI h6 10304 a 1) 302 a = fI h4 302 a := by rw [fI_setFI, if_neg (by omega)]; exact c302
    have tA7 : tg (setFI h6 10304 a 1) a = 4 := tA
    rw [bk_X5_noteSet_13, ea, nn_some, nn_some, show fP (setFI h6 10304 a 1) 30300 a = some (a + 1) from pA, nn_some]
    refine ⟨tA, Or.inr rfl, tA, tN, ?_⟩
    generalize setFI h6 10304 a 1 = h7 at *
    rw [k603]
    -- from the lambdas on
    have LA : ∀ (h8 : AH) ks8 B8, ES h8 T U e0 1 (gT (decide (tkn r1 = 27)) r1) D l il so → LST h8 U e0 nm fW ns fS ks8 (B8 + 1) → B ≤ B8 → FX (ENM T U e0 x o) h4 h8 → FO h8 8 x (up1 v0 806 (nI pn)) (up1 (fun _ => 0) 20805 y) (up1 (fun _ => none) 30808 o) → fI h8 10304 a = 1 → fI h8 302 a = fI h4 302 a → tp h4 ≤ tp h8 → CTK ks8 (lif (decide (¬ fI h4 603 (a + 1) < 2)) (keyN pn 6 0)) ks → wp (d + 1 + 7) K_X5_noteSet 28 [] [(0, vr (some (U + 9))), (1, vr (some x)), (2, vr (some a))] h8 (fun v h1 => wp (d + 1 + 8) K_X5_takeNaming 35 (psh v []) [(0, vr (some (U + 9))), (1, vr (some x))] h1 Q) := by
      intro h8 ks8 B8 E8 L8 hB X8 F8 i8 l8 tp8 ct8
      have t98 : tg h8 x = 9 := by rw [X8.tg hx2]; exact t9
      have tA8 : tg h8 a = 4 := by rw [X8.tg (by omega)]; exact m3
      have w803 : fI h8 803 x = v0 803 := by rw [(F8 803 (by decide)).1]; exact wf _ (by decide)
      rw [bk_X5_noteSet_28, nn_some, nn_some, w803, l8]
      refine ⟨tA8, t98, fun q => ?_, fun q => ?_⟩
      · rw [bk_X5_noteSet_40]
        simp only [psh, bk_X5_takeNaming_35, bk_X5_takeNaming_58]
        refine H h8 y pn ks8 _ E8 (L8.less (by omega)) (by rw [ho]; exact X8) (by rw [ho]; exact F8) wf w806 pp p0 p2 val (fun w => by rw [ho, ea] at w; cases w) (fun a' ha' => ?_)
        rw [ho, ea] at ha'
        cases ha'
        refine ⟨i8, ?_⟩
        rw [decide_eq_false (show ¬ ¬ v0 803 ≤ fI h4 302 a from fun w => w q), lif_f, List.append_nil]
        exact ct8
      · have c98 := E8.1.2.2.2.2.2.2.2.2.1
        have c118 := E8.1.2.2.2.2.2.2.2.2.2.2
        have c48 := E8.1.2.2.2.1
        rw [bk_X5_noteSet_33, nn_some, c118, nn_some, (F8 806 (by decide)).1, w806, ← kI_0, show (12 : Int32) = nI 12 from rfl]
        refine ⟨c98, t98, c48, p_note E8.1 L8 p0 (by omega) (by omega) (by omega) (fun h9 ks9 L9 pm9 x9 t9' => ?_)⟩
        simp only [psh, bk_X5_noteSet_40, bk_X5_takeNaming_35, bk_X5_takeNaming_58]
        refine H h9 y pn ks9 _ (E8.ls x9) (L9.less hB) (by rw [ho]; exact X8.tr (x9.mono (fun _ _ z => Or.inr (Or.inl z)))) (by rw [ho]; exact F8.fx x9 (by omega) (fun f hf => ELs_no (by omega))) wf w806 pp p0 p2 val (fun w => by rw [ho, ea] at w; cases w) (fun a' ha' => ?_)
        rw [ho, ea] at ha'
        cases ha'
        refine ⟨by rw [x9.fI (by omega) (ELs_no (by omega))]; exact i8, ?_⟩
        rw [decide_eq_true q, lif_t]
        exact ct8.tr (CTK.pm pm9)
    refine ⟨fun q => ?_, fun q => ?_⟩
    · refine LA h7 ks (B + 1) E7 L7 (by omega) X7 F7 i7 k302 (by omega) ?_
      rw [decide_eq_false (show ¬ ¬ fI h4 603 (a + 1) < 2 from fun w => w q)]
      exact CTK.rf
    · have c97 := E7.1.2.2.2.2.2.2.2.2.1
      have c117 := E7.1.2.2.2.2.2.2.2.2.2.2
      have c47 := E7.1.2.2.2.1
      rw [bk_X5_noteSet_21, nn_some, c117, nn_some, (F7 806 (by decide)).1, w806, ← kI_0, show (6 : Int32) = nI 6 from rfl]
      refine ⟨c97, t97, c47, p_note E7.1 L7 p0 (by omega) (by omega) (by omega) (fun h8 ks8 L8 pm8 x8 t8 => ?_)⟩
      simp only [psh]
      refine LA h8 ks8 B (E7.ls x8) L8 (Nat.le_refl _) (X7.tr (x8.mono (fun _ _ z => Or.inr (Or.inl z)))) (F7.fx x8 (by omega) (fun f hf => ELs_no (by omega))) (by rw [x8.fI (by omega) (ELs_no (by omega))]; exact i7) (by rw [x8.fI (by omega) (ELs_no (by omega))]; exact k302) (by have := x8.1; omega) ?_
      rw [decide_eq_true q, lif_t]
      exact CTK.pm pm8
  · have c116 := E6.1.2.2.2.2.2.2.2.2.2.2
    have c46 := E6.1.2.2.2.1
    rw [bk_X5_noteSet_5, nn_some, c116, nn_some, (F6 806 (by decide)).1, w806, ← kI_0, lt1]
    refine ⟨c96, t96, c46, p_note E6.1 L6 p0 (by omega) (by omega) (by omega) (fun h8 ks8 L8 pm8 x8 t8 => ?_)⟩
    simp only [psh, bk_X5_noteSet_12, bk_X5_takeNaming_35, bk_X5_takeNaming_58]
    refine H h8 y pn ks8 _ (E6.ls x8) (L8.less (by omega)) (by rw [ho]; exact (ENM_up X6).tr (x8.mono (fun _ _ z => Or.inr (Or.inl z)))) (by rw [ho]; exact F6.fx x8 (by omega) (fun f hf => ELs_no (by omega))) wf w806 pp p0 p2 val (fun _ => CTK.pm pm8) (fun a' ha' => ?_)
    rw [ho, z] at ha'
    cases ha'
end
