/-! Statements that name something: throw, set -/
/-- what naming changes: the token, lists, the statement x; the catch a that is set -/
def ENM (T U e0 x : Nat) (sa : Option Nat) (g y : Nat) : Prop := EPW T U g y ∨ ELs U e0 g y ∨ (y = x ∧ g / 100 % 100 = 8) ∨ (g = 10304 ∧ sa = some y)
theorem ELs_no {U e0 g y : Nat} (h : ¬ g = 100 ∧ ¬ g = 102 ∧ ¬ g = 30101 ∧ ¬ g = 90003) : ¬ ELs U e0 g y := fun z => by
  rcases z with ⟨z1, z2⟩ | ⟨z1, z2⟩ <;> omega
section
variable {d : Nat} {h4 : AH} {Q : Option V → AH → Prop} {T U e0 : Nat} {r1 : RV} {D l : Nat} {il : Bool} {so : Option Nat} {nm ns B x : Nat} {fW fS : Nat → Nat} {ks : List Nat} {v0 : Nat → Int32}
/-- the name is taken -/
theorem nm_pre (E : ES h4 T U e0 1 r1 D l il so) (L : LST h4 U e0 nm fW ns fS ks B) (hx : U + 10 ≤ x) (hx2 : x < tp h4) (t9 : tg h4 x = 9) (F : FO h4 8 x v0 (fun _ => 0) (fun _ => none))
    (H : ∀ h' y pn, ES h' T U e0 1 (gT (decide (tkn r1 = 27)) r1) D l il so → LST h' U e0 nm fW ns fS ks B → FX (ENM T U e0 x none) h4 h' → tp h' = tp h4 → FO h' 8 x (up1 v0 806 (nI pn)) (up1 (fun _ => 0) 20805 y) (fun _ => none) → fI h4 905 T = nI pn → 0 < pn → pn ≤ 2000 → (gi r1 1452 = -1 → tkn r1 = 27 → y = conv (gl r1 21450) ∧ WV (gl r1 21450)) → wp (d + 8) K_X5_takeNaming (if v0 800 = 1 then 13 else 22) [] [(0, vr (some (U + 9))), (1, vr (some x))] h' Q) : wp (d + 8) K_X5_takeNaming 0 [] [(0, vr (some (U + 9))), (1, vr (some x))] h4 Q := by
  have c9 := E.1.2.2.2.2.2.2.2.2.1
  have c10 := E.1.2.2.2.2.2.2.2.2.2.1
  have tT : tg h4 T = 10 := E.2.1.1
  obtain ⟨pn, q1, q2, q3⟩ := E.pl
  rw [bk_X5_takeNaming_0, c10, nn_some, nn_some, q1]
  have E1 := E.fi (f := 806) (x := x) (nI pn) hx (by decide)
  have L1 := LST.fi L (f := 806) (x := x) (nI pn) hx (by decide)
  have F1 := F.sI 806 (nI pn)
  have X1 : FX (ENM T U e0 x none) h4 (setFI h4 806 x (nI pn)) := FX.FI (Or.inr (Or.inr (Or.inl ⟨rfl, by decide⟩)))
  have t91 : tg (setFI h4 806 x (nI pn)) x = 9 := t9
  have tp1 : tp (setFI h4 806 x (nI pn)) = tp h4 := rfl
  have c91 : tg (setFI h4 806 x (nI pn)) (U + 9) = 8 := c9
  generalize setFI h4 806 x (nI pn) = h5 at *
  refine ⟨c9, tT, t9, c91, p_takeName E1 (fun h6 y E6 w6 val => ?_)⟩
  have L6 := L1.pw w6
  have F6 := F1.fx w6.1 (by omega) (fun f hf => EPW_no (by omega))
  have t96 : tg h6 x = 9 := by rw [w6.1.tg (by omega)]; exact t91
  have X6 : FX (ENM T U e0 x none) h4 h6 := X1.tr (w6.1.mono (fun _ _ z => Or.inl z))
  simp only [psh, bk_X5_takeNaming_8, nn_some]
  have E7 := E6.fj (f := 20805) (x := x) y hx (by decide)
  have L7 := LST.fj L6 (f := 20805) (x := x) y hx (by decide)
  have F7 := F6.sJ 20805 y
  have X7 : FX (ENM T U e0 x none) h4 (setFJ h6 20805 x y) := X6.toFJ _ (Or.inr (Or.inr (Or.inl ⟨rfl, by decide⟩)))
  have tp7 : tp (setFJ h6 20805 x y) = tp h4 := by show tp h6 = _; rw [w6.2.1, tp1]
  have v8 : fI (setFJ h6 20805 x y) 800 x = v0 800 := by
    rw [(F7 800 (by decide)).1]
    unfold up1
    rw [if_neg (by decide)]
  have K := H (setFJ h6 20805 x y) y pn E7 L7 X7 tp7 F7 q1 (by omega) q3 val
  rw [v8]
  refine ⟨t96, t96, fun z => ?_, fun z => ?_⟩
  · rw [if_neg z] at K; exact K
  · rw [if_pos (Classical.not_not.mp z)] at K; exact K
theorem ENM_up {x : Nat} {sa : Option Nat} {h h' : AH} (X : FX (ENM T U e0 x none) h h') : FX (ENM T U e0 x sa) h h' := X.mono (fun g y z => by
  rcases z with z | z | z | ⟨-, z⟩
  · exact Or.inl z
  · exact Or.inr (Or.inl z)
  · exact Or.inr (Or.inr (Or.inl z))
  · cases z)
/-- throw: a parameter, or a kind that is known, or not -/
theorem nm_throw {nk : Nat} {par : Nat → Nat} {wk : Nat → Int64} {pk : Nat → Int32} {sc : List Nat} (E : ES h4 T U e0 1 r1 D l il so) (C : CHN h4 U sc so) (K : KD h4 (U + 1) nk par wk pk) (L : LST h4 U e0 nm fW ns fS ks (B + 1)) (hx : U + 10 ≤ x) (hx2 : x < tp h4) (t9 : tg h4 x = 9) (F : FO h4 8 x v0 (fun _ => 0) (fun _ => none)) (v2 : v0 800 = 2) (v7 : v0 807 = -1)
    (H : ∀ h' y pn ks' v', ES h' T U e0 1 (gT (decide (tkn r1 = 27)) r1) D l il so → LST h' U e0 nm fW ns fS ks' B → FX (ENM T U e0 x none) h4 h' → FO h' 8 x v' (up1 (fun _ => 0) 20805 y) (up1 (fun _ => none) 30808 (sc.find? (fun a => decide (fJ h4 20303 a = y)))) → (∀ f, ¬ f = 806 → ¬ f = 807 → v' f = v0 f) → v' 806 = nI pn → fI h4 905 T = nI pn → 0 < pn → pn ≤ 2000 → (gi r1 1452 = -1 → tkn r1 = 27 → y = conv (gl r1 21450) ∧ WV (gl r1 21450)) → (sc.find? (fun a => decide (fJ h4 20303 a = y)) = none → v' 807 = oI (ffst (fun k => decide (wk k = y)) nk 0) ∧ CTK ks' (lif (decide (ffst (fun k => decide (wk k = y)) nk 0 = none)) (keyN pn 1 0)) ks) → (¬ sc.find? (fun a => decide (fJ h4 20303 a = y)) = none → v' 807 = -1 ∧ ks' = ks) → Q none h') : wp (d + 8) K_X5_takeNaming 0 [] [(0, vr (some (U + 9))), (1, vr (some x))] h4 Q := by
  refine nm_pre E L hx hx2 t9 F (fun h5 y pn E5 L5 X5 tp5 F5 pp p0 p2 val => ?_)
  rw [v2, if_neg (by decide)]
  have c9 := E5.1.2.2.2.2.2.2.2.2.1
  have t95 : tg h5 x = 9 := by rw [X5.tg hx2]; exact t9
  have nE : ∀ g a, ¬ (g = 903 ∨ g = 904 ∨ g = 905 ∨ g = 20906 ∨ g = 702 ∨ g = 100 ∨ g = 102 ∨ g = 30101 ∨ g = 90003) → ¬ g / 100 % 100 = 8 → ¬ ENM T U e0 x none g a := fun g a h1 h2 z => by
    rcases z with z | z | z | ⟨-, z⟩
    · exact EPW_no (by omega) z
    · exact ELs_no (by omega) z
    · exact h2 z.2
    · cases z
  have C5 : CHN h5 U sc so := CHN.fx X5 (fun a => ⟨nE _ _ (by decide) (by decide), nE _ _ (by decide) (by decide)⟩) C
  have fs : sc.find? (fun a => decide (fJ h5 20303 a = y)) = sc.find? (fun a => decide (fJ h4 20303 a = y)) := by
    have g : ∀ l : List Nat, (∀ a, a ∈ l → a < tp h4) → l.find? (fun a => decide (fJ h5 20303 a = y)) = l.find? (fun a => decide (fJ h4 20303 a = y)) := by
      intro l
      induction l with
      | nil => intro _; rfl
      | cons a l ih =>
        intro hl
        rw [List.find?_cons, List.find?_cons, ih (fun b m => hl b (List.mem_cons_of_mem _ m)), X5.fJ (hl a List.mem_cons_self) (nE _ _ (by decide) (by decide))]
    exact g sc (fun a m => by have := (C.mem a m).2.1; omega)
  rw [bk_X5_takeNaming_22, nn_some, (F5 20805 (by decide)).2.1, show up1 (fun _ => 0) 20805 y 20805 = y from if_pos rfl, p_param c9 E5.2.2.1.2.2.2.2 C5, fs]
  refine ⟨t95, c9, ?_⟩
  simp only [psh, bk_X5_takeNaming_27, nn_some]
  obtain ⟨o, ho⟩ : ∃ o, sc.find? (fun a => decide (fJ h4 20303 a = y)) = o := ⟨_, rfl⟩
  rw [ho]
  have E6 := E5.fp (f := 30808) (x := x) o hx (by decide)
  have L6 := LST.fp L5 (f := 30808) (x := x) o hx (by decide)
  have F6 := F5.sP 30808 o
  have X6 : FX (ENM T U e0 x none) h4 (setFP h5 30808 x o) := X5.toFP _ (Or.inr (Or.inr (Or.inl ⟨rfl, by decide⟩)))
  have K6 : KD (setFP h5 30808 x o) (U + 1) nk par wk pk := K.fx X6 (fun g z => by
    rcases z with z | z | z | ⟨-, z⟩
    · rcases z with ⟨z1, z2⟩ | ⟨z1, z2⟩
      · have := E.1.2.1; omega
      · omega
    · have := L.e0
      rcases z with ⟨z1, z2⟩ | ⟨z1, z2⟩ <;> omega
    · omega
    · cases z) (nE _ _ (by decide) (by decide)) (nE _ _ (by decide) (by decide)) (nE _ _ (by decide) (by decide)) (nE _ _ (by decide) (by decide))
  have t96 : tg (setFP h5 30808 x o) x = 9 := t95
  have tp6 : tp (setFP h5 30808 x o) = tp h4 := tp5
  generalize setFP h5 30808 x o = h6 at *
  have w800 : fI h6 800 x = 2 := by
    rw [(F6 800 (by decide)).1]
    unfold up1; rw [if_neg (by decide)]; exact v2
  have w806 : up1 v0 806 (nI pn) 806 = nI pn := if_pos rfl
  have w807 : up1 v0 806 (nI pn) 807 = -1 := by unfold up1; rw [if_neg (by decide)]; exact v7
  rw [w800]
  refine ⟨t95, t96, fun _ => ?_, fun z => absurd (by decide) z⟩
  rw [bk_X5_takeNaming_36, nn_some, (F6 30808 (by decide)).2.2, show up1 (fun _ => none) 30808 o 30808 = o from if_pos rfl]
  refine ⟨t96, fun z => ?_, fun z => ?_⟩
  · rw [bk_X5_takeNaming_58]
    exact H h6 y pn ks _ E6 (L6.less (by omega)) X6 (by rw [ho]; exact F6) (fun f h1 h2 => by unfold up1; rw [if_neg h1]) w806 pp p0 p2 val (fun q => absurd (ho.symm.trans q) z) (fun _ => ⟨w807, rfl⟩)
  · have c96 := E6.1.2.2.2.2.2.2.2.2.1
    have c116 := E6.1.2.2.2.2.2.2.2.2.2.2
    have c46 := E6.1.2.2.2.1
    have c56 := E6.1.2.2.2.2.1
    rw [bk_X5_takeNaming_39, c116, nn_some, nn_some, c56, nn_some, (F6 20805 (by decide)).2.1, show up1 (fun _ => 0) 20805 y 20805 = y from if_pos rfl, k_named K6]
    refine ⟨c96, c46, t96, K6.1, ?_⟩
    simp only [psh, bk_X5_takeNaming_46, nn_some]
    generalize hk : ffst (fun k => decide (wk k = y)) nk 0 = k at *
    have kb : ∀ j, k = some j → j < 2 ^ 31 := fun j hj => by
      rw [hj] at hk
      have h1 := (ffst_some hk).2.1
      have h2 := K6.2.2.2.2.2.2.2.1
      omega
    have E7 := E6.fi (f := 807) (x := x) (oI k) hx (by decide)
    have L7 := LST.fi L6 (f := 807) (x := x) (oI k) hx (by decide)
    have F7 := F6.sI 807 (oI k)
    have X7 : FX (ENM T U e0 x none) h4 (setFI h6 807 x (oI k)) := X6.toFI _ (Or.inr (Or.inr (Or.inl ⟨rfl, by decide⟩)))
    have t97 : tg (setFI h6 807 x (oI k)) x = 9 := t96
    have tp7 : tp (setFI h6 807 x (oI k)) = tp h4 := tp6
    rw [fFI_same]
    generalize setFI h6 807 x (oI k) = h7 at *
    have s807 : up1 (up1 v0 806 (nI pn)) 807 (oI k) 807 = oI k := if_pos rfl
    have s806 : up1 (up1 v0 806 (nI pn)) 807 (oI k) 806 = nI pn := by unfold up1; rw [if_neg (by decide), if_pos rfl]
    refine ⟨t96, t97, fun q => ?_, fun q => ?_⟩
    · rw [bk_X5_takeNaming_58]
      have kn : ¬ k = none := fun e => q ((oI_m1 kb).mpr e)
      refine H h7 y pn ks _ E7 (L7.less (by omega)) X7 (by rw [ho]; exact F7) (fun f h1 h2 => by unfold up1; rw [if_neg h2, if_neg h1]) s806 pp p0 p2 val (fun _ => ⟨by rw [s807, hk], ?_⟩) (fun q => absurd (ho.trans z) q)
      rw [hk, decide_eq_false kn]; exact CTK.rf
    · have kn : k = none := (oI_m1 kb).mp (Classical.not_not.mp q)
      have c97 := E7.1.2.2.2.2.2.2.2.2.1
      have c117 := E7.1.2.2.2.2.2.2.2.2.2.2
      have c47 := E7.1.2.2.2.1
      rw [bk_X5_takeNaming_51, nn_some, c117, nn_some, (F7 806 (by decide)).1, s806, ← kI_0, lt1]
      refine ⟨c97, t97, c47, p_note E7.1 L7 p0 (by omega) (by omega) (by omega) (fun h8 ks8 L8 pm8 x8 t8 => ?_)⟩
      simp only [psh, bk_X5_takeNaming_58]
      have F8 := F7.fx x8 (by omega) (fun f hf => ELs_no (by omega))
      refine H h8 y pn ks8 _ (E7.ls x8) L8 (X7.tr (x8.mono (fun _ _ z => Or.inr (Or.inl z)))) (by rw [ho]; exact F8) (fun f h1 h2 => by unfold up1; rw [if_neg h2, if_neg h1]) s806 pp p0 p2 val (fun _ => ⟨by rw [s807, hk], ?_⟩) (fun q => absurd (ho.trans z) q)
      rw [hk, decide_eq_true kn]; exact CTK.pm pm8
end
