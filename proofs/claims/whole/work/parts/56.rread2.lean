/-! The reference's reading: lists of names, kinds, methods -/
theorem OB_of {r r' : RV} (B : OB r) (P' : PT r') (e1 : gi r' 1402 = gi r 1402) (e2 : gi r' 1455 = gi r 1455) (e3 : ai r' 39 = ai r 39) : OB r' := by
  obtain ⟨-, b1, b2, b3, b4⟩ := B
  have ew : wN r' = wN r := by unfold wN; rw [e1]
  refine ⟨P', ?_, ?_, ?_, ?_⟩
  · rw [ew, e1]; exact b1
  · rw [ew]; exact b2
  · rw [ew, e3]; exact b3
  · rw [e2]; exact b4
theorem OB_adv {r : RV} (B : OB r) : OB (advF r) := OB_of B (PT_adv B.1) (gi_adv r) (gi_adv r) (by rw [ai_adv])
theorem OB_nam {r : RV} (B : OB r) : OB (namF r) := OB_of B (PT_nam B.1) (by unfold namF; rw [gi_adv]; rfl) (by unfold namF; rw [gi_adv]; rfl) (by unfold namF; rw [ai_adv]; rfl)
theorem ai_nam (r : RV) : ai (namF r) = ai r := by unfold namF; rw [ai_adv]; rfl
theorem al_nam (r : RV) : al (namF r) = al r := by unfold namF; rw [al_adv]; rfl
theorem gi_nam (r : RV) {f : Nat} (h1 : ¬ f = 1447 := by decide) (h2 : ¬ f = 1449 := by decide) (h3 : ¬ f = 1451 := by decide) (h4 : ¬ f = 1454 := by decide) : gi (namF r) f = gi r f := by
  unfold namF; rw [gi_adv _ h1 h2 h3, gi_sI, if_neg h4]; rfl
theorem nam_w (r : RV) : gl (namF r) 21453 = gl r 21450 := by unfold namF; rw [gl_adv]; rfl
theorem nam_a (r : RV) : gi (namF r) 1454 = gi r 1449 := by unfold namF; rw [gi_adv]; rfl
theorem ai_fai (r : RV) : ai (faiF r) = ai r := rfl
theorem al_fai (r : RV) : al (faiF r) = al r := rfl
theorem gi_fai (r : RV) {f : Nat} (h1 : ¬ f = 1452 := by decide) : gi (faiF r) f = gi r f := by unfold faiF; rw [gi_sI, if_neg h1]
/-- one name more -/
def nlS (qc qw qa i : Nat) (r : RV) : RV := tI (tI (tL r qw (4 * i + tn (ai r qc i)) (gl r 21453)) qa (4 * i + tn (ai r qc i)) (gi r 1454)) qc i (ai r qc i + 1)
theorem PT_nlS {qc qw qa i : Nat} {r : RV} (P : PT r) : PT (nlS qc qw qa i r) := P
/-- names, as long as they follow -/
def nlF (qc qw qa i : Nat) (sep : Int32) : Nat → RV → RV × Bool
  | 0, r => (r, false)
  | f + 1, r => if ai r qc i = 4 then (faiF (advF r), false) else if okN (advF r) = false then (faiF (advF r), false) else if gi (namF (advF r)) 1451 = sep then nlF qc qw qa i sep f (nlS qc qw qa i (namF (advF r))) else (nlS qc qw qa i (namF (advF r)), true)
theorem nl_keep {qc qw qa i : Nat} {sep : Int32} (hq : ¬ qc = 39) (hq2 : ¬ qa = 39) : ∀ f r, (OB r → OB (nlF qc qw qa i sep f r).1) ∧ (∀ q, ¬ q = qc → ¬ q = qa → ai (nlF qc qw qa i sep f r).1 q = ai r q) ∧ (∀ g, ¬ g = 1447 → ¬ g = 1449 → ¬ g = 1451 → ¬ g = 1452 → ¬ g = 1454 → gi (nlF qc qw qa i sep f r).1 g = gi r g) := by
  intro f
  induction f with
  | zero => intro r; exact ⟨id, fun _ _ _ => rfl, fun _ _ _ _ _ _ => rfl⟩
  | succ f ih =>
    intro r
    rw [nlF]
    have fa : (OB r → OB (faiF (advF r))) ∧ (∀ q, ¬ q = qc → ¬ q = qa → ai (faiF (advF r)) q = ai r q) ∧ (∀ g, ¬ g = 1447 → ¬ g = 1449 → ¬ g = 1451 → ¬ g = 1452 → ¬ g = 1454 → gi (faiF (advF r)) g = gi r g) :=
      ⟨fun B => OB_of (OB_adv B) (PT_fai (PT_adv B.1)) (gi_fai _) (gi_fai _) rfl, fun q _ _ => by rw [ai_fai, ai_adv], fun g g1 g2 g3 g4 g5 => by rw [gi_fai _ g4, gi_adv _ g1 g2 g3]⟩
    have aq : ∀ q, ¬ q = qc → ¬ q = qa → ai (nlS qc qw qa i (namF (advF r))) q = ai r q := fun q q1 q2 => by
      funext j
      unfold nlS
      rw [ai_tI, if_neg (fun z => q1 z.1), ai_tI, if_neg (fun z => q2 z.1), ai_tL, ai_nam, ai_adv]
    have gq : ∀ g, ¬ g = 1447 → ¬ g = 1449 → ¬ g = 1451 → ¬ g = 1454 → gi (nlS qc qw qa i (namF (advF r))) g = gi r g := fun g g1 g2 g3 g4 => by
      unfold nlS
      rw [gi_tI, gi_tI, gi_tL, gi_nam _ g1 g2 g3 g4, gi_adv _ g1 g2 g3]
    have fs : (OB r → OB (nlS qc qw qa i (namF (advF r)))) := fun B => OB_of B (PT_nlS (PT_nam (PT_adv B.1))) (gq 1402 (by decide) (by decide) (by decide) (by decide)) (gq 1455 (by decide) (by decide) (by decide) (by decide)) (aq 39 (fun z => hq z.symm) (fun z => hq2 z.symm))
    split
    · exact fa
    · split
      · exact fa
      · split
        · obtain ⟨i1', i2', i3'⟩ := ih (nlS qc qw qa i (namF (advF r)))
          exact ⟨fun B => i1' (fs B), fun q q1 q2 => by rw [i2' q q1 q2, aq q q1 q2], fun g g1 g2 g3 g4 g5 => by rw [i3' g g1 g2 g3 g4 g5, gq g g1 g2 g3 g5]⟩
        · exact ⟨fs, aq, fun g g1 g2 g3 g4 g5 => gq g g1 g2 g3 g5⟩
def rkI (r : RV) : Nat := wN r * 16 + tn (ai r 2 (wN r))
def rkB (r : RV) (k : Nat) : RV := tI (tL r 3 k (gl r 21453)) 4 k (gi r 1454)
def rkC (r : RV) (k : Nat) : RV := tI (tI (tL r 6 k (gl r 21453)) 7 k (gi r 1454)) 5 k (gi r 1449)
theorem PT_rkB {r : RV} {k : Nat} (P : PT r) : PT (rkB r k) := P
theorem PT_rkC {r : RV} {k : Nat} (P : PT r) : PT (rkC r k) := P
theorem gi_rkB (r : RV) (k : Nat) : gi (rkB r k) = gi r := rfl
theorem gl_rkB (r : RV) (k : Nat) : gl (rkB r k) = gl r := rfl
theorem gi_rkC (r : RV) (k : Nat) : gi (rkC r k) = gi r := rfl
theorem gl_rkC (r : RV) (k : Nat) : gl (rkC r k) = gl r := rfl
theorem ai_rkB (r : RV) (k : Nat) : ai (rkB r k) 2 = ai r 2 := by
  funext j
  unfold rkB
  rw [ai_tI, if_neg (fun z => absurd z.1 (by decide)), ai_tL]
theorem ai_rkC (r : RV) (k : Nat) : ai (rkC r k) 2 = ai r 2 := by
  funext j
  unfold rkC
  rw [ai_tI, if_neg (fun z => absurd z.1 (by decide)), ai_tI, if_neg (fun z => absurd z.1 (by decide)), ai_tL]
theorem RW_rkB {r : RV} {h : AH} {a k : Nat} (R : RW r h a) : RW (rkB r k) (setAI (setAJ h (a + 3) k (gl r 21453)) (a + 4) k (gi r 1454)) a := (R.AJ 3 k _).AI 4 k _
theorem RW_rkC {r : RV} {h : AH} {a k : Nat} (R : RW r h a) : RW (rkC r k) (setAI (setAI (setAJ h (a + 6) k (gl r 21453)) (a + 7) k (gi r 1454)) (a + 5) k (gi r 1449)) a := ((R.AJ 6 k _).AI 7 k _).AI 5 k _
/-- a kind is read -/
def rkF (r : RV) : RV := if ai r 2 (wN r) = 16 then faiF r else if okN (advF r) = false then faiF (advF r) else
  if ¬ gl (namF (advF r)) 21450 = 422608400247 then faiF (rkB (namF (advF r)) (rkI r)) else
  if okN (advF (rkB (namF (advF r)) (rkI r))) = false then faiF (advF (rkB (namF (advF r)) (rkI r))) else
  if ¬ gi (namF (advF (rkB (namF (advF r)) (rkI r)))) 1451 = 59 then faiF (rkC (namF (advF (rkB (namF (advF r)) (rkI r)))) (rkI r)) else
  tI (advF (rkC (namF (advF (rkB (namF (advF r)) (rkI r)))) (rkI r))) 2 (wN r) (ai r 2 (wN r) + 1)
section
variable {d : Nat} {h : AH} {a : Nat} {r : RV} {Q : Option V → AH → Prop}
theorem c_readKind (R : RW r h a) (B : OB r) (hk : cnt (ai r 2 (wN r)) 16) (H : ∀ h', RW (rkF r) h' a → Q none h') : wp (d + 3) K_X12_readKind 0 [] [(0, vr (some a))] h Q := by
  obtain ⟨P, hw, hw2, -, -⟩ := B
  have hk2 := hk.2
  rw [rb_X12_readKind_0 _ R.1, R.gi, hw]
  simp (disch := omega) only [nI_clamp, nI_leI, nI_ltI, nI_eq, nI_add, pk_mul, vp_in_nI, nI_1, true_and, and_true, true_implies, implies_true, not_true_eq_false, not_false_eq_true, false_implies, psh, nn_some, forall_const]
  rw [R.ai]
  unfold rkF at H
  have ek : rkI r = wN r * 16 + tn (ai r 2 (wN r)) := rfl
  refine ⟨fun z => ?_, fun z => ?_⟩
  · rw [if_neg z] at H
    have k16 : ¬ tn (ai r 2 (wN r)) = 16 := fun q => z (by rw [hk.1, q]; rfl)
    have e1 : nI (wN r) * 16 + ai r 2 (wN r) = nI (rkI r) := by rw [hk.1, lt16, pk_mul, nI_add, ← ek]
    rw [e1, rb_X12_readKind_22 _ _ R.1]
    refine c_advance R P (fun h1 R1 => ?_)
    have P1 := PT_adv P
    have w1 : gi (advF r) 1402 = nI (wN r) := by rw [gi_adv]; exact hw
    have a1 : ai (advF r) 2 = ai r 2 := by rw [ai_adv]
    generalize advF r = r1 at *
    simp only [psh]
    rw [rb_X12_readKind_24 _ _ R1.1]
    refine c_takeName R1 P1 (fun ok h2 R2 => ?_) (fun no h2 R2 => ?_)
    · rw [if_neg (by rw [ok]; decide)] at H
      have P2 := PT_nam P1
      have w2 : gi (namF r1) 1402 = nI (wN r) := by rw [gi_nam]; exact w1
      have a2 : ai (namF r1) 2 = ai r 2 := by rw [ai_nam]; exact a1
      generalize namF r1 = r2 at *
      simp only [psh, bk_X12_readKind_26, b2i_0]
      refine ⟨fun _ => ?_, fun q => absurd (Classical.not_not.mp q) (by decide)⟩
      rw [rb_X12_readKind_28 _ _ R2.1]
      simp (disch := omega) only [nI_clamp, nI_leI, nI_ltI, nI_eq, nI_add, pk_mul, vp_in_nI, nI_1, true_and, and_true, true_implies, implies_true, not_true_eq_false, not_false_eq_true, false_implies, psh, nn_some, forall_const, fI_setAJ]
      rw [R2.gi, R2.gl]
      have R3 := RW_rkB (k := rkI r) R2
      have P3 : PT (rkB r2 (rkI r)) := PT_rkB P2
      have g3 : gl (rkB r2 (rkI r)) 21450 = gl r2 21450 := rfl
      have w3 : gi (rkB r2 (rkI r)) 1402 = nI (wN r) := w2
      have a3 : ai (rkB r2 (rkI r)) 2 = ai r 2 := by rw [ai_rkB]; exact a2
      rw [← g3] at H
      generalize rkB r2 (rkI r) = r3 at *
      refine c_takeWord R3 P3 _ (fun z2 h4 R4 => ?_) (fun z2 h4 R4 => ?_)
      · rw [if_neg (fun q => q z2)] at H
        have P4 := PT_adv P3
        have w4 : gi (advF r3) 1402 = nI (wN r) := by rw [gi_adv]; exact w3
        have a4 : ai (advF r3) 2 = ai r 2 := by rw [ai_adv]; exact a3
        generalize advF r3 = r4 at *
        simp only [psh, bk_X12_readKind_43, b2i_0]
        refine ⟨fun q => absurd q (by decide), fun _ => ?_⟩
        rw [rb_X12_readKind_44 _ _ R4.1]
        refine c_takeName R4 P4 (fun ok2 h5 R5 => ?_) (fun no2 h5 R5 => ?_)
        · rw [if_neg (by rw [ok2]; decide)] at H
          have P5 := PT_nam P4
          have w5 : gi (namF r4) 1402 = nI (wN r) := by rw [gi_nam]; exact w4
          have a5 : ai (namF r4) 2 = ai r 2 := by rw [ai_nam]; exact a4
          generalize namF r4 = r5 at *
          simp only [psh, bk_X12_readKind_46, b2i_0]
          refine ⟨fun _ => ?_, fun q => absurd (Classical.not_not.mp q) (by decide)⟩
          rw [rb_X12_readKind_48 _ _ R5.1]
          simp (disch := omega) only [nI_clamp, nI_leI, nI_ltI, nI_eq, nI_add, pk_mul, vp_in_nI, nI_1, true_and, and_true, true_implies, implies_true, not_true_eq_false, not_false_eq_true, false_implies, psh, nn_some, forall_const, fI_setAJ, fI_setAI]
          rw [R5.gi, R5.gi, R5.gl]
          have R6 := RW_rkC (k := rkI r) R5
          rw [rb_X12_readKind_66 _ _ R6.1]
          have P6 : PT (rkC r5 (rkI r)) := PT_rkC P5
          have g6 : gi (rkC r5 (rkI r)) 1451 = gi r5 1451 := rfl
          have w6 : gi (rkC r5 (rkI r)) 1402 = nI (wN r) := w5
          have a6 : ai (rkC r5 (rkI r)) 2 = ai r 2 := by rw [ai_rkC]; exact a5
          rw [← g6] at H
          generalize rkC r5 (rkI r) = r6 at *
          refine c_take R6 P6 59 (fun z3 h7 R7 => ?_) (fun z3 h7 R7 => ?_)
          · rw [if_neg (fun q => q z3)] at H
            simp only [psh, bk_X12_readKind_69, b2i_0]
            refine ⟨fun q => absurd q (by decide), fun _ => ?_⟩
            have w7 : gi (advF r6) 1402 = nI (wN r) := by rw [gi_adv]; exact w6
            have a7 : ai (advF r6) 2 = ai r 2 := by rw [ai_adv]; exact a6
            rw [rb_X12_readKind_70 _ _ R7.1, R7.gi, w7]
            simp (disch := omega) only [nI_clamp, nI_leI, nI_ltI, nI_eq, nI_add, pk_mul, vp_in_nI, nI_1, true_and, and_true, true_implies, implies_true, not_true_eq_false, not_false_eq_true, false_implies, psh, nn_some, forall_const, bk_X12_readKind_79]
            rw [R7.ai, a7]
            exact H _ (R7.AI 2 (wN r) _)
          · rw [if_pos z3] at H
            simp only [psh, bk_X12_readKind_69, b2i_0, bk_X12_readKind_79]
            exact ⟨fun _ => H h7 R7, fun q => absurd trivial q⟩
        · rw [if_pos no2] at H
          simp only [psh, bk_X12_readKind_46, b2i_0, bk_X12_readKind_47]
          exact ⟨fun q => absurd trivial q, fun _ => H h5 R5⟩
      · rw [if_pos z2] at H
        simp only [psh, bk_X12_readKind_43, b2i_0, bk_X12_readKind_47]
        exact ⟨fun _ => H h4 R4, fun q => absurd trivial q⟩
    · rw [if_pos no] at H
      simp only [psh, bk_X12_readKind_26, b2i_0, bk_X12_readKind_27]
      exact ⟨fun q => absurd trivial q, fun _ => H h2 R2⟩
  · rw [if_pos (Classical.not_not.mp z)] at H
    rw [rb_X12_readKind_18 _ _ R.1]
    refine c_fails R (fun h1 R1 => ?_)
    simp only [psh, bk_X12_readKind_20]
    exact H h1 R1
end
