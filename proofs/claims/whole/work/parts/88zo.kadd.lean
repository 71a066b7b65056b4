/-! One kind more -/
theorem blw_cg {par par' : Nat → Nat} {nk : Nat} (hp : ∀ k, 0 < k → k < nk → par k < k) (e : ∀ k, k < nk → par' k = par k) : ∀ f x y, x < nk → blw par' f x y = blw par f x y := by
  intro f
  induction f with
  | zero => intro x y _; rfl
  | succ f ih =>
    intro x y hx
    rw [blw, blw, e x hx]
    by_cases z : x = 0
    · subst z; simp
    · rw [ih (par x) y (by have := hp x (by omega) hx; omega)]
theorem belP_cg {par par' : Nat → Nat} {nk : Nat} (hp : ∀ k, 0 < k → k < nk → par k < k) (e : ∀ k, k < nk → par' k = par k) {x : Nat} (hx : x < nk) (y : Nat) : belP par' x y = belP par x y := blw_cg hp e x x y hx
theorem k_add {d : Nat} {h : AH} {Q : Option V → AH → Prop} {K nk : Nat} {par : Nat → Nat} {wk : Nat → Int64} {pk : Nat → Int32} (D : KD h K nk par wk pk) (hn : nk < 16) (x1 : Int64) (x3 x4 : Int32) (pr : Nat) (hx3 : (nk = 0 ∧ x3 = -1) ∨ (0 < nk ∧ x3 = nI pr ∧ pr < nk)) (H : ∀ h', KD h' K (nk + 1) (fun k => if k = nk then pr else par k) (fun k => if k = nk then x1 else wk k) (fun k => if k = nk then x4 else pk k) → FX (fun g y => (y = K ∧ (g = 504 ∨ g = 505)) ∨ (g = 90001 ∧ (y = K + 1 ∨ y = K + 2 ∨ y = K + 3 ∨ y = K + 4))) h h' → tp h' = tp h → rc h' = rc h → rs h' = rs h → Q none h') : wp (d + 1) K_X3_add 0 [] [(0, vr (some K)), (1, vl x1), (3, vi x3), (4, vi x4)] h Q := by
  obtain ⟨a1, a2, ⟨b1, b2, b3⟩, ⟨c1, c2, c3⟩, ⟨e1, e2, e3⟩, ⟨f1, f2, f3⟩, a7, a8, a9, a10, a11⟩ := id D
  rw [bk_X3_add_0, a7]
  refine ⟨a1, fun z => absurd z (nI_pos (by omega)), fun _ => ?_⟩
  rw [bk_X3_add_3, a7, show (16 : Int32) = nI 16 from rfl, nI_leI (by omega) (by omega)]
  refine ⟨a1, fun z => by omega, fun _ => ?_⟩
  rw [bk_X3_add_7, b1, nn_some, a7]
  simp (disch := omega) only [nI_clamp, nI_leI, nI_ltI, nI_eq, nI_add, pk_mul, vp_in_nI, nI_1, true_and, and_true, true_implies, implies_true, not_true_eq_false, not_false_eq_true, false_implies, psh, nn_some, forall_const, a1, b2, b3]
  simp only [fJ_setFI, fP_setFI, aI_setFI, aJ_setFI, aP_setFI, tg_setFI, ln_setFI, tp_setFI, rc_setFI, rs_setFI, fI_setFJ, fP_setFJ, aI_setFJ, aJ_setFJ, aP_setFJ, tg_setFJ, ln_setFJ, tp_setFJ, rc_setFJ, rs_setFJ, fI_setFP, fJ_setFP, aI_setFP, aJ_setFP, aP_setFP, tg_setFP, ln_setFP, tp_setFP, rc_setFP, rs_setFP, fI_setAI, fJ_setAI, fP_setAI, aJ_setAI, aP_setAI, tg_setAI, ln_setAI, tp_setAI, rc_setAI, rs_setAI, fI_setAJ, fJ_setAJ, fP_setAJ, aI_setAJ, aP_setAJ, tg_setAJ, ln_setAJ, tp_setAJ, rc_setAJ, rs_setAJ, fI_setAP, fJ_setAP, fP_setAP, aI_setAP, aJ_setAP, tg_setAP, ln_setAP, tp_setAP, rc_setAP, rs_setAP, a1, c1, c2, c3, e1, e2, e3, nn_some, a7]
  simp (disch := omega) only [nI_clamp, nI_leI, nI_ltI, nI_eq, nI_add, pk_mul, vp_in_nI, nI_1, true_and, and_true, true_implies, implies_true, not_true_eq_false, not_false_eq_true, false_implies, psh, nn_some, forall_const]
  have D3 : KD (setAI (setAI (setAJ h (K + 1) nk x1) (K + 2) nk x3) (K + 3) nk x4) K nk par wk pk := by
    refine ⟨a1, a2, ⟨b1, b2, b3⟩, ⟨c1, c2, c3⟩, ⟨e1, e2, e3⟩, ⟨f1, f2, f3⟩, a7, a8, fun k hk => ?_, a10, a11⟩
    have hne : ¬ k = nk := by omega
    simp only [fJ_setFI, fP_setFI, aI_setFI, aJ_setFI, aP_setFI, tg_setFI, ln_setFI, tp_setFI, rc_setFI, rs_setFI, fI_setFJ, fP_setFJ, aI_setFJ, aJ_setFJ, aP_setFJ, tg_setFJ, ln_setFJ, tp_setFJ, rc_setFJ, rs_setFJ, fI_setFP, fJ_setFP, aI_setFP, aJ_setFP, aP_setFP, tg_setFP, ln_setFP, tp_setFP, rc_setFP, rs_setFP, fI_setAI, fJ_setAI, fP_setAI, aJ_setAI, aP_setAI, tg_setAI, ln_setAI, tp_setAI, rc_setAI, rs_setAI, fI_setAJ, fJ_setAJ, fP_setAJ, aI_setAJ, aP_setAJ, tg_setAJ, ln_setAJ, tp_setAJ, rc_setAJ, rs_setAJ, fI_setAP, fJ_setAP, fP_setAP, aI_setAP, aJ_setAP, tg_setAP, ln_setAP, tp_setAP, rc_setAP, rs_setAP, fI_setFI, fJ_setFJ, fP_setFP, aI_setAI, aJ_setAJ, aP_setAP]
    simp [hne]
    exact a9 k hk
  have x0 : FX (fun g y => (y = K ∧ (g = 504 ∨ g = 505)) ∨ (g = 90001 ∧ (y = K + 1 ∨ y = K + 2 ∨ y = K + 3 ∨ y = K + 4))) h (setAI (setAI (setAJ h (K + 1) nk x1) (K + 2) nk x3) (K + 3) nk x4) := ((FX.AJ (Or.inr ⟨rfl, Or.inl rfl⟩)).tr (FX.AI (Or.inr ⟨rfl, Or.inr (Or.inl rfl)⟩))).tr (FX.AI (Or.inr ⟨rfl, Or.inr (Or.inr (Or.inl rfl))⟩))
  have v1 : aJ (setAI (setAI (setAJ h (K + 1) nk x1) (K + 2) nk x3) (K + 3) nk x4) (K + 1) nk = x1 ∧ aI (setAI (setAI (setAJ h (K + 1) nk x1) (K + 2) nk x3) (K + 3) nk x4) (K + 2) nk = x3 ∧ aI (setAI (setAI (setAJ h (K + 1) nk x1) (K + 2) nk x3) (K + 3) nk x4) (K + 3) nk = x4 := by
    simp only [fJ_setFI, fP_setFI, aI_setFI, aJ_setFI, aP_setFI, tg_setFI, ln_setFI, tp_setFI, rc_setFI, rs_setFI, fI_setFJ, fP_setFJ, aI_setFJ, aJ_setFJ, aP_setFJ, tg_setFJ, ln_setFJ, tp_setFJ, rc_setFJ, rs_setFJ, fI_setFP, fJ_setFP, aI_setFP, aJ_setFP, aP_setFP, tg_setFP, ln_setFP, tp_setFP, rc_setFP, rs_setFP, fI_setAI, fJ_setAI, fP_setAI, aJ_setAI, aP_setAI, tg_setAI, ln_setAI, tp_setAI, rc_setAI, rs_setAI, fI_setAJ, fJ_setAJ, fP_setAJ, aI_setAJ, aP_setAJ, tg_setAJ, ln_setAJ, tp_setAJ, rc_setAJ, rs_setAJ, fI_setAP, fJ_setAP, fP_setAP, aI_setAP, aJ_setAP, tg_setAP, ln_setAP, tp_setAP, rc_setAP, rs_setAP, fI_setFI, fJ_setFJ, fP_setFP, aI_setAI, aJ_setAJ, aP_setAP]
    simp
  have tp3 : tp (setAI (setAI (setAJ h (K + 1) nk x1) (K + 2) nk x3) (K + 3) nk x4) = tp h := rfl
  have rc3 : rc (setAI (setAI (setAJ h (K + 1) nk x1) (K + 2) nk x3) (K + 3) nk x4) = rc h := rfl
  have rs3 : rs (setAI (setAI (setAJ h (K + 1) nk x1) (K + 2) nk x3) (K + 3) nk x4) = rs h := rfl
  generalize setAI (setAI (setAJ h (K + 1) nk x1) (K + 2) nk x3) (K + 3) nk x4 = h3 at *
  obtain ⟨a1, a2, ⟨b1, b2, b3⟩, ⟨c1, c2, c3⟩, ⟨e1, e2, e3⟩, ⟨f1, f2, f3⟩, a7, a8, a9, a10, a11⟩ := id D3
  -- the new kind's set
  have hp' : ∀ k, 0 < k → k < nk + 1 → (fun k => if k = nk then pr else par k) k < k := fun k h1 h2 => by
    show (if k = nk then pr else par k) < k
    by_cases z : k = nk
    · rw [if_pos z]; omega
    · rw [if_neg z]; exact a11 k h1 (by omega)
  have ea : ∀ k, k < nk → (fun k => if k = nk then pr else par k) k = par k := fun k hk => if_neg (by omega)
  have en : (fun k => if k = nk then pr else par k) nk = pr := if_pos rfl
  generalize (fun k => if k = nk then pr else par k) = par' at *
  have bc : ∀ x, x < nk → ∀ y, belP par' x y = belP par x y := fun x hx y => belP_cg a11 ea hx y
  have ov : ∀ k, k < nk → ovm par' k = ovm par k := fun k hk => by
    unfold ovm
    congr 1
    funext y
    exact bc k hk y
  have OV : ∀ Q', wp d K_X3_overOf 0 [] [(0, vr (some K)), (1, vi x3)] h3 Q' = Q' (some (vi (if nk = 0 then 0 else ovm par pr))) h3 := fun Q' => by
    rw [k_overOf D3]
    rcases hx3 with ⟨z, z2⟩ | ⟨z, z2, z3⟩
    · rw [show ixO x3 nk = none by rw [z2, z]; rfl, if_pos z]
    · rw [z2, ixO_nI z3 (by omega), if_neg (by omega)]
  have eo : (if nk = 0 then 0 else ovm par pr) ||| one nk = ovm par' nk := by
    refine hasB_ext (fun y hy => ?_)
    rw [hasB_or _ _ hy, hasB_one (by omega) hy, hasB_ovm hy]
    rcases hx3 with ⟨z, z2⟩ | ⟨z, z2, z3⟩
    · have h0 : hasB 0 y = false := by
        have := hasB_mask (fun _ => false) 0 (by omega) y hy
        simp at this
        exact this
      rw [if_pos z, h0, Bool.false_or]
      have b := belP_iff hp' (x := nk) (y := y) (by omega)
      cases w : belP par' nk y with
      | true =>
        have := b.mp w
        have : nk = y := by omega
        simp [this]
        omega
      | false =>
        have : ¬ nk = y := fun q => by
          have := b.mpr (Or.inl q)
          rw [w] at this; cases this
        simp [this]
    · rw [if_neg (by omega), hasB_ovm hy]
      have b := belP_iff hp' (x := nk) (y := y) (by omega)
      rw [en, bc pr z3 y] at b
      cases w : belP par' nk y with
      | true =>
        rcases b.mp w with q | ⟨-, q⟩
        · simp [q]; omega
        · have l := belP_le a11 z3 q
          rw [q]; simp; omega
      | false =>
        have n1 : ¬ nk = y := fun q => by
          have := b.mpr (Or.inl q)
          rw [w] at this; cases this
        have n2 : belP par pr y = false := by
          cases q : belP par pr y with
          | false => rfl
          | true =>
            have := b.mpr (Or.inr ⟨by omega, q⟩)
            rw [w] at this; cases this
        simp [n1, n2]
  have fin : ∀ h5 : AH, (∀ g x, fP h5 g x = fP h3 g x) → (∀ x, tg h5 x = tg h3 x) → (∀ x, ln h5 x = ln h3 x) → tp h5 = tp h3 → fI h5 504 K = mask (ckP par') (nk + 1) → (∀ b i, aJ h5 b i = aJ h3 b i) → (∀ b i, aI h5 b i = if b = K + 4 ∧ i = nk then ovm par' nk else aI h3 b i) → KD (setFI h5 505 K (nI (nk + 1))) K (nk + 1) par' (fun k => if k = nk then x1 else wk k) (fun k => if k = nk then x4 else pk k) := by
    intro h5 g1 g2 g3 g4 g5 g6 g7
    unfold KD
    simp only [fJ_setFI, fP_setFI, aI_setFI, aJ_setFI, aP_setFI, tg_setFI, ln_setFI, tp_setFI, rc_setFI, rs_setFI, fI_setFJ, fP_setFJ, aI_setFJ, aJ_setFJ, aP_setFJ, tg_setFJ, ln_setFJ, tp_setFJ, rc_setFJ, rs_setFJ, fI_setFP, fJ_setFP, aI_setFP, aJ_setFP, aP_setFP, tg_setFP, ln_setFP, tp_setFP, rc_setFP, rs_setFP, fI_setAI, fJ_setAI, fP_setAI, aJ_setAI, aP_setAI, tg_setAI, ln_setAI, tp_setAI, rc_setAI, rs_setAI, fI_setAJ, fJ_setAJ, fP_setAJ, aI_setAJ, aP_setAJ, tg_setAJ, ln_setAJ, tp_setAJ, rc_setAJ, rs_setAJ, fI_setAP, fJ_setAP, fP_setAP, aI_setAP, aJ_setAP, tg_setAP, ln_setAP, tp_setAP, rc_setAP, rs_setAP, fI_setFI, fJ_setFJ, fP_setFP, aI_setAI, aJ_setAJ, aP_setAP, g1, g2, g3, g4, g6, g7]
    refine ⟨a1, a2, ⟨b1, b2, b3⟩, ⟨c1, c2, c3⟩, ⟨e1, e2, e3⟩, ⟨f1, f2, f3⟩, by simp, by omega, fun k hk => ?_, by simpa using g5, hp'⟩
    by_cases z : k = nk
    · subst z
      obtain ⟨w1, w2, w3⟩ := v1
      refine ⟨by simp [w1], ?_, by simp [w3], by simp⟩
      rw [if_neg (by omega), w2]
      rcases hx3 with ⟨z, z2⟩ | ⟨z, z2, z3⟩
      · rw [if_pos z, z2]
      · rw [if_neg (by omega), z2, en]
    · obtain ⟨w1, w2, w3, w4⟩ := a9 k (by omega)
      refine ⟨by simp [z, w1], ?_, by simp [z, w3], ?_⟩
      · rw [if_neg (by omega), w2, ea k (by omega)]
      · rw [if_neg (by omega), w4, ov k (by omega)]
  -- which kinds are checked
  have ck0 : ∀ b : Bool, (b = true ↔ (ovm par' nk &&& 12 = 0)) → (if b then mask (ckP par) nk ||| one nk else mask (ckP par) nk) = mask (ckP par') (nk + 1) := fun b hb => by
    have h12 : ∀ k, k < 32 → hasB 12 k = (decide (k = 2) || decide (k = 3)) := by decide +kernel
    have ckn : b = ckP par' nk := by
      have az := and_zero (s := ovm par' nk) (t := 12)
      unfold ckP
      cases b with
      | true =>
        have w := az.mp (hb.mp rfl)
        have n2 := w 2 (by omega)
        have n3 := w 3 (by omega)
        rw [hasB_ovm (by omega), h12 2 (by omega)] at n2
        rw [hasB_ovm (by omega), h12 3 (by omega)] at n3
        simp at n2 n3
        simp [n2, n3]
      | false =>
        cases q2 : belP par' nk 2 with
        | true => simp
        | false =>
          cases q3 : belP par' nk 3 with
          | true => simp
          | false =>
            exfalso
            have : ovm par' nk &&& 12 = 0 := az.mpr (fun k hk ⟨u1, u2⟩ => by
              rw [hasB_ovm hk] at u1
              rw [h12 k hk] at u2
              simp at u1 u2
              rcases u2 with u2 | u2
              · rw [u2, q2] at u1; simp at u1
              · rw [u2, q3] at u1; simp at u1)
            have := hb.mpr this
            cases this
    have cko : ∀ k, k < nk → ckP par' k = ckP par k := fun k hk => by
      unfold ckP; rw [bc k hk, bc k hk]
    refine hasB_ext (fun y hy => ?_)
    rw [hasB_mask _ (nk + 1) (by omega) y hy]
    have hm := hasB_mask (ckP par) nk (by omega) y hy
    by_cases z : y = nk
    · subst z
      cases b with
      | true =>
        rw [if_pos rfl, hasB_or _ _ hy, hasB_one hy hy, ← ckn]; simp
      | false =>
        rw [if_neg (by decide), hm, ← ckn]; simp
    · by_cases z2 : y < nk
      · rw [cko y z2]
        cases b with
        | true =>
          rw [if_pos rfl, hasB_or _ _ hy, hasB_one (by omega) hy, hm]
          simp [show ¬ nk = y by omega, z2, show y < nk + 1 by omega]
        | false =>
          rw [if_neg (by decide), hm]
          simp [z2, show y < nk + 1 by omega]
      · cases b with
        | true =>
          rw [if_pos rfl, hasB_or _ _ hy, hasB_one (by omega) hy, hm]
          simp [show ¬ nk = y by omega, z2, show ¬ y < nk + 1 by omega]
        | false =>
          rw [if_neg (by decide), hm]
          simp [z2, show ¬ y < nk + 1 by omega]
  rw [bk_X3_add_25, OV, a7, f1]
  refine ⟨a1, a1, a1, ?_⟩
  simp only [psh]
  rw [bk_X3_add_32, nn_some, a7, one_def, eo]
  simp only [fJ_setFI, fP_setFI, aI_setFI, aJ_setFI, aP_setFI, tg_setFI, ln_setFI, tp_setFI, rc_setFI, rs_setFI, fI_setFJ, fP_setFJ, aI_setFJ, aJ_setFJ, aP_setFJ, tg_setFJ, ln_setFJ, tp_setFJ, rc_setFJ, rs_setFJ, fI_setFP, fJ_setFP, aI_setFP, aJ_setFP, aP_setFP, tg_setFP, ln_setFP, tp_setFP, rc_setFP, rs_setFP, fI_setAI, fJ_setAI, fP_setAI, aJ_setAI, aP_setAI, tg_setAI, ln_setAI, tp_setAI, rc_setAI, rs_setAI, fI_setAJ, fJ_setAJ, fP_setAJ, aI_setAJ, aP_setAJ, tg_setAJ, ln_setAJ, tp_setAJ, rc_setAJ, rs_setAJ, fI_setAP, fJ_setAP, fP_setAP, aI_setAP, aJ_setAP, tg_setAP, ln_setAP, tp_setAP, rc_setAP, rs_setAP, f1, nn_some, a7]
  simp (disch := omega) only [nI_clamp, nI_leI, nI_ltI, nI_eq, nI_add, pk_mul, vp_in_nI, nI_1, true_and, and_true, true_implies, implies_true, not_true_eq_false, not_false_eq_true, false_implies, psh, nn_some, forall_const, a1, f2, f3]
  rw [show aI (setAI h3 (K + 4) nk (ovm par' nk)) (K + 4) nk = ovm par' nk by rw [aI_setAI, if_pos ⟨rfl, rfl⟩]]
  have X4 : FX (fun g y => (y = K ∧ (g = 504 ∨ g = 505)) ∨ (g = 90001 ∧ (y = K + 1 ∨ y = K + 2 ∨ y = K + 3 ∨ y = K + 4))) h (setAI h3 (K + 4) nk (ovm par' nk)) := x0.tr (FX.AI (Or.inr ⟨rfl, Or.inr (Or.inr (Or.inr rfl))⟩))
  refine ⟨Or.inl trivial, fun z => ?_, fun z => ?_⟩
  · rw [bk_X3_add_55]
    simp only [fJ_setFI, fP_setFI, aI_setFI, aJ_setFI, aP_setFI, tg_setFI, ln_setFI, tp_setFI, rc_setFI, rs_setFI, fI_setFJ, fP_setFJ, aI_setFJ, aJ_setFJ, aP_setFJ, tg_setFJ, ln_setFJ, tp_setFJ, rc_setFJ, rs_setFJ, fI_setFP, fJ_setFP, aI_setFP, aJ_setFP, aP_setFP, tg_setFP, ln_setFP, tp_setFP, rc_setFP, rs_setFP, fI_setAI, fJ_setAI, fP_setAI, aJ_setAI, aP_setAI, tg_setAI, ln_setAI, tp_setAI, rc_setAI, rs_setAI, fI_setAJ, fJ_setAJ, fP_setAJ, aI_setAJ, aP_setAJ, tg_setAJ, ln_setAJ, tp_setAJ, rc_setAJ, rs_setAJ, fI_setAP, fJ_setAP, fP_setAP, aI_setAP, aJ_setAP, tg_setAP, ln_setAP, tp_setAP, rc_setAP, rs_setAP, a7, a1, nI_1]
    rw [bk_X3_add_61]
    refine ⟨trivial, trivial, H _ (fin _ (fun _ _ => rfl) (fun _ => rfl) (fun _ => rfl) rfl ?_ (fun _ _ => rfl) (fun b i => by rw [aI_setAI])) (X4.toFI _ (Or.inl ⟨rfl, Or.inr rfl⟩)) tp3 rc3 rs3⟩
    have := ck0 false ⟨fun q => Bool.noConfusion q, fun q => absurd q z⟩
    rw [if_neg (by decide)] at this
    rw [← this]; exact a10
  · have z := Classical.not_not.mp z
    rw [bk_X3_add_46]
    simp only [fJ_setFI, fP_setFI, aI_setFI, aJ_setFI, aP_setFI, tg_setFI, ln_setFI, tp_setFI, rc_setFI, rs_setFI, fI_setFJ, fP_setFJ, aI_setFJ, aJ_setFJ, aP_setFJ, tg_setFJ, ln_setFJ, tp_setFJ, rc_setFJ, rs_setFJ, fI_setFP, fJ_setFP, aI_setFP, aJ_setFP, aP_setFP, tg_setFP, ln_setFP, tp_setFP, rc_setFP, rs_setFP, fI_setAI, fJ_setAI, fP_setAI, aJ_setAI, aP_setAI, tg_setAI, ln_setAI, tp_setAI, rc_setAI, rs_setAI, fI_setAJ, fJ_setAJ, fP_setAJ, aI_setAJ, aP_setAJ, tg_setAJ, ln_setAJ, tp_setAJ, rc_setAJ, rs_setAJ, fI_setAP, fJ_setAP, fP_setAP, aI_setAP, aJ_setAP, tg_setAP, ln_setAP, tp_setAP, rc_setAP, rs_setAP, a7, a1, a10, one_def]
    refine ⟨trivial, trivial, trivial, ?_⟩
    rw [bk_X3_add_55, show fI (setFI (setAI h3 (K + 4) nk (ovm par' nk)) 504 K (mask (ckP par) nk ||| one nk)) 505 K = nI nk by rw [fI_setFI, if_neg (by omega)]; exact a7, nI_1, bk_X3_add_61]
    refine ⟨a1, a1, H _ (fin _ (fun _ _ => rfl) (fun _ => rfl) (fun _ => rfl) rfl ?_ (fun _ _ => rfl) (fun b i => ?_)) ((X4.toFI _ (Or.inl ⟨rfl, Or.inl rfl⟩)).toFI _ (Or.inl ⟨rfl, Or.inr rfl⟩)) tp3 rc3 rs3⟩
    · have := ck0 true ⟨fun _ => z, fun _ => rfl⟩
      rw [if_pos rfl] at this
      rw [← this, fI_setFI, if_pos ⟨rfl, rfl⟩]
    · show aI (setAI h3 (K + 4) nk (ovm par' nk)) b i = _
      rw [aI_setAI]
