/-! The reference's reading: methods -/
def rmI (r : RV) : Nat := wN r * 12 + tn (ai r 8 (wN r))
def rmA (r : RV) (m : Nat) : RV := tI (tI (tL (tI (tL r 9 m (gl r 21453)) 10 m (gi r 1454)) 11 m 0) 14 m 0) 17 m (-1)
def rmO (r : RV) (m : Nat) : RV := tI (tL r 11 m (gl r 21453)) 12 m (gi r 1454)
def rmC (r : RV) (m : Nat) : RV := if gl r 21450 = 1718773093 then advF (tI r 13 m (b2i true)) else tI r 13 m (b2i false)
def rmD (r : RV) (m : Nat) : RV × Bool := if gl r 21450 = 127991945328499 then nlF 14 15 16 m 44 5 r else (r, true)
def rmU (r : RV) : RV := tI r 8 (wN r) (ai r 8 (wN r) + 1)
def rmE (r : RV) (m : Nat) : RV := if gi r 1451 = 59 then advF (rmU r) else tI (opF (rmU r) 0 (-1) (ai r 8 (wN r) + 1 - 1)) 17 m (opV (rmU r))
/-- a method, from free on -/
def rmG (r : RV) (m : Nat) : RV := if (rmD (rmC r m) m).2 = false then (rmD (rmC r m) m).1 else rmE (rmD (rmC r m) m).1 m
def rmB (r : RV) (m : Nat) : RV := if gl r 21450 = 1870030194 then (if okN (advF r) = false then faiF (advF r) else rmG (rmO (namF (advF r)) m) m) else rmG r m
/-- a method is read -/
def rmF (r : RV) : RV := if ai r 8 (wN r) = 12 then faiF r else if okN (advF r) = false then faiF (advF r) else rmB (rmA (namF (advF r)) (rmI r)) (rmI r)
theorem OB_rmA {r : RV} {m : Nat} (B : OB r) : OB (rmA r m) := OB_of B B.1 rfl rfl (by funext j; unfold rmA; rw [ai_tI, if_neg (fun z => absurd z.1 (by decide)), ai_tI, if_neg (fun z => absurd z.1 (by decide)), ai_tL, ai_tI, if_neg (fun z => absurd z.1 (by decide)), ai_tL])
theorem OB_rmO {r : RV} {m : Nat} (B : OB r) : OB (rmO r m) := OB_of B B.1 rfl rfl (by funext j; unfold rmO; rw [ai_tI, if_neg (fun z => absurd z.1 (by decide)), ai_tL])
theorem OB_t13 {r : RV} {m : Nat} {v : Int32} (B : OB r) : OB (tI r 13 m v) := OB_of B B.1 rfl rfl (by funext j; rw [ai_tI, if_neg (fun z => absurd z.1 (by decide))])
theorem OB_rmU {r : RV} (B : OB r) : OB (rmU r) := OB_of B B.1 rfl rfl (by funext j; unfold rmU; rw [ai_tI, if_neg (fun z => absurd z.1 (by decide))])
theorem ai8_rmA (r : RV) (m : Nat) : ai (rmA r m) 8 = ai r 8 := by funext j; unfold rmA; rw [ai_tI, if_neg (fun z => absurd z.1 (by decide)), ai_tI, if_neg (fun z => absurd z.1 (by decide)), ai_tL, ai_tI, if_neg (fun z => absurd z.1 (by decide)), ai_tL]
theorem ai8_rmO (r : RV) (m : Nat) : ai (rmO r m) 8 = ai r 8 := by funext j; unfold rmO; rw [ai_tI, if_neg (fun z => absurd z.1 (by decide)), ai_tL]
theorem ai14_rmA (r : RV) (m : Nat) : ai (rmA r m) 14 m = nI 0 := by unfold rmA; rw [ai_tI, if_neg (fun z => absurd z.1 (by decide)), ai_tI, if_pos ⟨rfl, rfl⟩]; rfl
theorem ai14_rmO (r : RV) (m : Nat) : ai (rmO r m) 14 = ai r 14 := by funext j; unfold rmO; rw [ai_tI, if_neg (fun z => absurd z.1 (by decide)), ai_tL]
theorem RW_rmA {r : RV} {h : AH} {a m : Nat} (R : RW r h a) : RW (rmA r m) (setAI (setAI (setAJ (setAI (setAJ h (a + 9) m (gl r 21453)) (a + 10) m (gi r 1454)) (a + 11) m 0) (a + 14) m 0) (a + 17) m (-1)) a := ((((R.AJ 9 m _).AI 10 m _).AJ 11 m _).AI 14 m _).AI 17 m _
theorem RW_rmO {r : RV} {h : AH} {a m : Nat} (R : RW r h a) : RW (rmO r m) (setAI (setAJ h (a + 11) m (gl r 21453)) (a + 12) m (gi r 1454)) a := (R.AJ 11 m _).AI 12 m _
theorem RW_nlS {r : RV} {h : AH} {a qc qw qa i : Nat} (R : RW r h a) : RW (nlS qc qw qa i r) (setAI (setAI (setAJ h (a + qw) (4 * i + tn (ai r qc i)) (gl r 21453)) (a + qa) (4 * i + tn (ai r qc i)) (gi r 1454)) (a + qc) i (ai r qc i + 1)) a := ((R.AJ qw _ _).AI qa _ _).AI qc _ _
theorem gi_nlS (r : RV) (qc qw qa i : Nat) : gi (nlS qc qw qa i r) = gi r := rfl
theorem aiq_nlS (r : RV) (qc qw qa i : Nat) : ai (nlS qc qw qa i r) qc i = ai r qc i + 1 := by unfold nlS; rw [ai_tI, if_pos ⟨rfl, rfl⟩]
theorem aI_neq (h : AH) (a : Nat) {q q2 : Nat} (hq : ¬ q2 = q) (i j : Nat) (v : Int32) : aI (setAI h (a + q) i v) (a + q2) j = aI h (a + q2) j := by
  rw [aI_setAI, if_neg (fun z => hq (by omega))]
section
variable {d : Nat} {h : AH} {a : Nat} {r : RV} {Q : Option V → AH → Prop}
/-- the names behind throws -/
theorem c_thrLoop {m : Nat} (hm : m < 24) : ∀ f (r : RV) (h : AH) (x2 : Int32) c, ¬ x2 = 0 → RW r h a → PT r → ai r 14 m = nI c → c ≤ 4 → 5 ≤ f + c → (∀ h', (nlF 14 15 16 m 44 f r).2 = false → RW (nlF 14 15 16 m 44 f r).1 h' a → Q none h') → (∀ h' x2, (nlF 14 15 16 m 44 f r).2 = true → RW (nlF 14 15 16 m 44 f r).1 h' a → wp (d + 4) K_X12_readMethod 158 [] [(0, vr (some a)), (1, vi (nI m)), (2, vi x2)] h' Q) → wp (d + 4) K_X12_readMethod 97 [] [(0, vr (some a)), (1, vi (nI m)), (2, vi x2)] h Q := by
  intro f
  induction f with
  | zero => intro r h x2 c _ _ _ _ h4 h5; omega
  | succ f ih =>
    intro r h x2 c hx R P hc h4 h5 H1 H2
    rw [bk_X12_readMethod_97]
    refine ⟨fun z => absurd z hx, fun _ => ?_⟩
    rw [rb_X12_readMethod_99 _ _ _ R.1]
    refine c_advance R P (fun h1 R1 => ?_)
    rw [nlF] at H1 H2
    have P1 := PT_adv P
    have a1 : ai (advF r) 14 m = nI c := by rw [ai_adv]; exact hc
    generalize advF r = r1 at *
    simp only [psh]
    rw [rb_X12_readMethod_101 _ _ _ R1.1]
    simp (disch := omega) only [nI_clamp, nI_leI, nI_ltI, nI_eq, nI_add, pk_mul, vp_in_nI, nI_1, true_and, and_true, true_implies, implies_true, not_true_eq_false, not_false_eq_true, false_implies, psh, nn_some, forall_const]
    rw [R1.ai, a1]
    rw [hc] at H1 H2
    refine ⟨fun z => ?_, fun z => ?_⟩
    · rw [if_neg z] at H1 H2
      have c4 : ¬ c = 4 := fun q => z (by rw [q]; rfl)
      rw [rb_X12_readMethod_111 _ _ _ R1.1]
      refine c_takeName R1 P1 (fun ok h2 R2 => ?_) (fun no h2 R2 => ?_)
      · rw [if_neg (by rw [ok]; decide)] at H1 H2
        have P2 := PT_nam P1
        have a2 : ai (namF r1) 14 m = nI c := by rw [ai_nam]; exact a1
        generalize namF r1 = r2 at *
        simp only [psh, bk_X12_readMethod_113, b2i_0]
        refine ⟨fun _ => ?_, fun q => absurd (Classical.not_not.mp q) (by decide)⟩
        rw [rb_X12_readMethod_115 _ _ _ R2.1, lt4]
        simp (disch := omega) only [nI_clamp, nI_leI, nI_ltI, nI_eq, nI_add, pk_mul, vp_in_nI, nI_1, true_and, and_true, true_implies, implies_true, not_true_eq_false, not_false_eq_true, false_implies, psh, nn_some, forall_const, fI_setAJ, aI_setAJ]
        rw [R2.ai, a2]
        simp (disch := omega) only [nI_clamp, nI_leI, nI_ltI, nI_eq, nI_add, pk_mul, vp_in_nI, nI_1, true_and, and_true, true_implies, implies_true, not_true_eq_false, not_false_eq_true, false_implies, psh, nn_some, forall_const, fI_setAJ, aI_setAJ]
        rw [aI_neq _ _ (by decide)]
        simp only [aI_setAJ]
        rw [R2.ai, a2, R2.gi, R2.gl]
        have R3 := RW_nlS (qc := 14) (qw := 15) (qa := 16) (i := m) R2
        rw [a2, tn_nI (by omega), nI_1] at R3
        have P3 : PT (nlS 14 15 16 m r2) := PT_nlS P2
        have g3 : gi (nlS 14 15 16 m r2) 1451 = gi r2 1451 := rfl
        have a3 : ai (nlS 14 15 16 m r2) 14 m = nI (c + 1) := by rw [aiq_nlS, a2, nI_1]
        rw [← g3] at H1 H2
        rw [nI_1]
        generalize nlS 14 15 16 m r2 = r3 at *
        rw [rb_X12_readMethod_149 _ _ _ R3.1, R3.gi]
        refine ⟨fun z2 => ?_, fun z2 => ?_⟩
        · rw [if_neg z2] at H1 H2
          rw [bk_X12_readMethod_155, bk_X12_readMethod_156, bk_X12_readMethod_97]
          exact ⟨fun _ => H2 _ _ rfl R3, fun q => absurd rfl q⟩
        · rw [if_pos (Classical.not_not.mp z2)] at H1 H2
          rw [bk_X12_readMethod_153, bk_X12_readMethod_156]
          exact ih r3 _ 1 (c + 1) (by decide) R3 P3 a3 (by omega) (by omega) H1 H2
      · rw [if_pos no] at H1 H2
        simp only [psh, bk_X12_readMethod_113, b2i_0, bk_X12_readMethod_114]
        exact ⟨fun q => absurd trivial q, fun _ => H1 h2 rfl R2⟩
    · rw [if_pos (Classical.not_not.mp z)] at H1 H2
      rw [rb_X12_readMethod_107 _ _ _ R1.1]
      refine c_fails R1 (fun h2 R2 => ?_)
      simp only [psh, bk_X12_readMethod_109]
      exact H1 h2 rfl R2
theorem c_readMethod (R : RW r h a) (B : OB r) (hm : cnt (ai r 8 (wN r)) 12) (H : ∀ h', RW (rmF r) h' a → Q none h') : wp (d + 4) K_X12_readMethod 0 [] [(0, vr (some a))] h Q := by
  have P := B.1; have hw := B.2.1; have hw2 := B.2.2.1
  have hm2 := hm.2
  rw [rb_X12_readMethod_0 _ R.1, R.gi, hw]
  simp (disch := omega) only [nI_clamp, nI_leI, nI_ltI, nI_eq, nI_add, pk_mul, vp_in_nI, nI_1, true_and, and_true, true_implies, implies_true, not_true_eq_false, not_false_eq_true, false_implies, psh, nn_some, forall_const]
  rw [R.ai]
  unfold rmF at H
  have ek : rmI r = wN r * 12 + tn (ai r 8 (wN r)) := rfl
  refine ⟨fun z => ?_, fun z => ?_⟩
  · rw [if_neg z] at H
    have k12 : ¬ tn (ai r 8 (wN r)) = 12 := fun q => z (by rw [hm.1, q]; rfl)
    have hm24 : rmI r < 24 := by omega
    have e1 : nI (wN r) * 12 + ai r 8 (wN r) = nI (rmI r) := by rw [hm.1, lt12, pk_mul, nI_add, ← ek]
    rw [e1, rb_X12_readMethod_22 _ _ R.1]
    generalize em : rmI r = m at *
    refine c_advance R P (fun h1 R1 => ?_)
    have B1 := OB_adv B
    have w1 : wN (advF r) = wN r := by unfold wN; rw [gi_adv]
    have a1 : ai (advF r) 8 = ai r 8 := by rw [ai_adv]
    generalize advF r = r1 at *
    simp only [psh]
    rw [rb_X12_readMethod_24 _ _ R1.1]
    refine c_takeName R1 B1.1 (fun ok h2 R2 => ?_) (fun no h2 R2 => ?_)
    · rw [if_neg (by rw [ok]; decide)] at H
      have B2 := OB_nam B1
      have w2 : wN (namF r1) = wN r := by rw [← w1]; unfold wN; rw [gi_nam]
      have a2 : ai (namF r1) 8 = ai r 8 := by rw [ai_nam]; exact a1
      generalize namF r1 = r2 at *
      simp only [psh, bk_X12_readMethod_26, b2i_0]
      refine ⟨fun _ => ?_, fun q => absurd (Classical.not_not.mp q) (by decide)⟩
      rw [rb_X12_readMethod_28 _ _ R2.1]
      simp (disch := omega) only [nI_clamp, nI_leI, nI_ltI, nI_eq, nI_add, pk_mul, vp_in_nI, nI_1, true_and, and_true, true_implies, implies_true, not_true_eq_false, not_false_eq_true, false_implies, psh, nn_some, forall_const, fI_setAJ, aI_setAJ]
      rw [R2.gi, R2.gl]
      rw [rb_X12_readMethod_45 _ _ (RS_AJ _ _ _ (RS_AI _ _ _ (RS_AJ _ _ _ R2.1)))]
      simp (disch := omega) only [nI_clamp, nI_leI, nI_ltI, nI_eq, nI_add, pk_mul, vp_in_nI, nI_1, true_and, and_true, true_implies, implies_true, not_true_eq_false, not_false_eq_true, false_implies, psh, nn_some, forall_const]
      have R3 := RW_rmA (m := m) R2
      have B3 := OB_rmA (m := m) B2
      have w3 : wN (rmA r2 m) = wN r := w2
      have a3 : ai (rmA r2 m) 8 = ai r 8 := by rw [ai8_rmA]; exact a2
      have c3 := ai14_rmA r2 m
      generalize rmA r2 m = r3 at *
      generalize setAI (setAI (setAJ (setAI (setAJ h2 (a + 9) m (gl r2 21453)) (a + 10) m (gi r2 1454)) (a + 11) m 0) (a + 14) m 0) (a + 17) m (-1) = h3 at *
      rw [c_isWord R3]
      simp only [psh, bk_X12_readMethod_58, b2i_0]
      -- the last part
      have E : ∀ (r : RV) (h : AH), RW r h a → OB r → ai r 8 (wN r) = nI (tn (ai r 8 (wN r))) → tn (ai r 8 (wN r)) < 12 → (∀ h', RW (rmE r m) h' a → Q none h') → wp (d + 4) K_X12_readMethod 158 [] [(0, vr (some a)), (1, vi (nI m))] h Q := by
        intro r h R B hm hm12 H
        have hw := B.2.1; have hw2 := B.2.2.1
        unfold rmE at H
        rw [rb_X12_readMethod_158 _ _ R.1, R.gi, hw]
        simp (disch := omega) only [nI_clamp, nI_leI, nI_ltI, nI_eq, nI_add, pk_mul, vp_in_nI, nI_1, true_and, and_true, true_implies, implies_true, not_true_eq_false, not_false_eq_true, false_implies, psh, nn_some, forall_const, fI_setAI]
        rw [R.ai]
        have R4 := R.AI 8 (wN r) (ai r 8 (wN r) + 1)
        have eU : rmU r = tI r 8 (wN r) (ai r 8 (wN r) + 1) := rfl
        rw [← eU] at R4
        have B4 := OB_rmU B
        have w4 : wN (rmU r) = wN r := rfl
        have s4 : gi (rmU r) 1451 = gi r 1451 := rfl
        have a4 : ai (rmU r) 8 (wN r) = ai r 8 (wN r) + 1 := by rw [eU, ai_tI, if_pos ⟨rfl, rfl⟩]
        rw [← s4] at H
        have g0 : fI h 1451 a = gi (rmU r) 1451 := by rw [s4]; exact R.gi 1451
        rw [g0]
        generalize setAI h (a + 8) (wN r) (ai r 8 (wN r) + 1) = h4 at R4 ⊢
        generalize rmU r = r4 at *
        refine ⟨fun z => ?_, fun z => ?_⟩
        · rw [if_neg z] at H
          rw [rb_X12_readMethod_174 _ _ R4.1, R4.gi, B4.2.1, w4]
          simp (disch := omega) only [nI_clamp, nI_leI, nI_ltI, nI_eq, nI_add, pk_mul, vp_in_nI, nI_1, true_and, and_true, true_implies, implies_true, not_true_eq_false, not_false_eq_true, false_implies, psh, nn_some, forall_const]
          rw [R4.ai, a4]
          refine c_opened R4 B4 _ _ _ (fun h5 R5 => ?_)
          simp only [psh, bk_X12_readMethod_188]
          rw [R4.1.p31418, nn_some]
          have hs5 := R5.1
          refine ⟨hs5.t31418, by rw [hs5.l31418]; simp (disch := omega) only [nI_clamp, nI_leI, nI_ltI, nI_eq, nI_add, pk_mul, vp_in_nI, nI_1, true_and, and_true, true_implies, implies_true, not_true_eq_false, not_false_eq_true, false_implies, psh, nn_some, forall_const], ?_⟩
          simp (disch := omega) only [nI_clamp, nI_leI, nI_ltI, nI_eq, nI_add, pk_mul, vp_in_nI, nI_1, true_and, and_true, true_implies, implies_true, not_true_eq_false, not_false_eq_true, false_implies, psh, nn_some, forall_const, bk_X12_readMethod_189]
          exact H _ (R5.AI 17 m _)
        · rw [if_pos (Classical.not_not.mp z)] at H
          rw [rb_X12_readMethod_171 _ _ R4.1]
          refine c_advance R4 B4.1 (fun h5 R5 => ?_)
          simp only [psh, bk_X12_readMethod_173, bk_X12_readMethod_189]
          exact H h5 R5
      -- from free on
      have C : ∀ (r : RV) (h : AH), RW r h a → OB r → ai r 8 (wN r) = nI (tn (ai r 8 (wN r))) → tn (ai r 8 (wN r)) < 12 → ai r 14 m = nI 0 → (∀ h', RW (rmG r m) h' a → Q none h') → wp (d + 4) K_X12_readMethod 77 [] [(0, vr (some a)), (1, vi (nI m))] h Q := by
        intro r h R B hm hm12 hc H
        -- throws
        have D : ∀ (r : RV) (h : AH), RW r h a → OB r → ai r 8 (wN r) = nI (tn (ai r 8 (wN r))) → tn (ai r 8 (wN r)) < 12 → ai r 14 m = nI 0 → (∀ h', RW (if (rmD r m).2 = false then (rmD r m).1 else rmE (rmD r m).1 m) h' a → Q none h') → wp (d + 4) K_X12_readMethod 91 [] [(0, vr (some a)), (1, vi (nI m))] h Q := by
          intro r h R B hm hm12 hc H
          unfold rmD at H
          rw [rb_X12_readMethod_91 _ _ R.1, c_isWord R]
          simp only [psh, bk_X12_readMethod_94, b2i_0]
          refine ⟨fun z => ?_, fun z => ?_⟩
          · have z := of_decide_eq_false z
            rw [if_neg z] at H
            exact E r h R B hm hm12 H
          · have z : gl r 21450 = 127991945328499 := of_decide_eq_true (bt z)
            rw [if_pos z] at H
            rw [bk_X12_readMethod_95]
            obtain ⟨k1, k2, k3⟩ := nl_keep (qc := 14) (qw := 15) (qa := 16) (i := m) (sep := 44) (by decide) (by decide) 5 r
            have a8 := k2 8 (by decide) (by decide)
            have w8 : wN (nlF 14 15 16 m 44 5 r).1 = wN r := by unfold wN; rw [k3 1402 (by decide) (by decide) (by decide) (by decide) (by decide)]
            refine c_thrLoop (by omega) 5 r h 1 0 (by decide) R B.1 hc (by omega) (by omega) (fun h' e R' => ?_) (fun h' x2 e R' => ?_)
            · rw [e] at H
              exact H h' R'
            · refine wp_cut 2 ?_
              rw [e] at H
              refine E _ h' R' (k1 B) ?_ ?_ H
              · rw [w8, a8]; exact hm
              · rw [w8, a8]; exact hm12
        unfold rmG rmC at H
        rw [rb_X12_readMethod_77 _ _ R.1, c_isWord R]
        simp only [psh]
        rw [R.1.p31414, rb_X12_readMethod_83 _ _ _ _ _ R.1]
        simp (disch := omega) only [nI_clamp, nI_leI, nI_ltI, nI_eq, nI_add, pk_mul, vp_in_nI, nI_1, true_and, and_true, true_implies, implies_true, not_true_eq_false, not_false_eq_true, false_implies, psh, nn_some, forall_const, R.1.t31414, R.1.l31414]
        refine ⟨Or.inr (by rw [b2i_ok]; trivial), ?_⟩
        rw [aI_setAI, if_pos ⟨rfl, rfl⟩]
        simp only [b2i_0]
        have R2 := R.AI 13 m (b2i (decide (gl r 21450 = 1718773093)))
        refine ⟨fun z => ?_, fun z => ?_⟩
        · have z' := of_decide_eq_false z
          rw [if_neg z'] at H
          rw [z] at R2 ⊢
          refine D _ _ R2 (OB_t13 B) ?_ ?_ ?_ H
          · rw [ai_tI, if_neg (fun z => absurd z.1 (by decide))]; exact hm
          · rw [ai_tI, if_neg (fun z => absurd z.1 (by decide))]; exact hm12
          · rw [ai_tI, if_neg (fun z => absurd z.1 (by decide))]; exact hc
        · have z := bt z
          have z' : gl r 21450 = 1718773093 := of_decide_eq_true z
          rw [if_pos z'] at H
          rw [z] at R2 ⊢
          rw [rb_X12_readMethod_89 _ _ R2.1]
          have B2 := OB_t13 (m := m) (v := b2i true) B
          refine c_advance R2 B2.1 (fun h' R' => ?_)
          simp only [psh]
          have w8 : wN (advF (tI r 13 m (b2i true))) = wN r := by unfold wN; rw [gi_adv]; rfl
          have a8 : ai (advF (tI r 13 m (b2i true))) 8 = ai r 8 := by rw [ai_adv]; funext j; rw [ai_tI, if_neg (fun z => absurd z.1 (by decide))]
          have c8 : ai (advF (tI r 13 m (b2i true))) 14 m = nI 0 := by rw [ai_adv, ai_tI, if_neg (fun z => absurd z.1 (by decide))]; exact hc
          have B3 := OB_adv B2
          generalize advF (tI r 13 m (b2i true)) = r' at *
          refine D _ _ R' B3 ?_ ?_ c8 H
          · rw [w8, a8]; exact hm
          · rw [w8, a8]; exact hm12
      unfold rmB at H
      refine ⟨fun z => ?_, fun z => ?_⟩
      · have z := of_decide_eq_false z
        rw [if_neg z] at H
        refine C r3 h3 R3 B3 ?_ ?_ c3 H
        · rw [w3, a3]; exact hm.1
        · rw [w3, a3]; omega
      · have z : gl r3 21450 = 1870030194 := of_decide_eq_true (bt z)
        rw [if_pos z] at H
        rw [rb_X12_readMethod_59 _ _ R3.1]
        refine c_advance R3 B3.1 (fun h4 R4 => ?_)
        have B4 := OB_adv B3
        have w4 : wN (advF r3) = wN r := by rw [← w3]; unfold wN; rw [gi_adv]
        have a4 : ai (advF r3) 8 = ai r 8 := by rw [ai_adv]; exact a3
        have c4 : ai (advF r3) 14 m = nI 0 := by rw [ai_adv]; exact c3
        generalize advF r3 = r4 at *
        simp only [psh]
        rw [rb_X12_readMethod_61 _ _ R4.1]
        refine c_takeName R4 B4.1 (fun ok5 h5 R5 => ?_) (fun no5 h5 R5 => ?_)
        · rw [if_neg (by rw [ok5]; decide)] at H
          have B5 := OB_nam B4
          have w5 : wN (namF r4) = wN r := by rw [← w4]; unfold wN; rw [gi_nam]
          have a5 : ai (namF r4) 8 = ai r 8 := by rw [ai_nam]; exact a4
          have c5 : ai (namF r4) 14 m = nI 0 := by rw [ai_nam]; exact c4
          generalize namF r4 = r5 at *
          simp only [psh, bk_X12_readMethod_63, b2i_0]
          refine ⟨fun _ => ?_, fun q => absurd (Classical.not_not.mp q) (by decide)⟩
          rw [rb_X12_readMethod_65 _ _ R5.1]
          simp (disch := omega) only [nI_clamp, nI_leI, nI_ltI, nI_eq, nI_add, pk_mul, vp_in_nI, nI_1, true_and, and_true, true_implies, implies_true, not_true_eq_false, not_false_eq_true, false_implies, psh, nn_some, forall_const, fI_setAJ]
          rw [R5.gi, R5.gl]
          have R6 := RW_rmO (m := m) R5
          have B6 := OB_rmO (m := m) B5
          have w6 : wN (rmO r5 m) = wN r := w5
          have a6 : ai (rmO r5 m) 8 = ai r 8 := by rw [ai8_rmO]; exact a5
          have c6 : ai (rmO r5 m) 14 m = nI 0 := by rw [ai14_rmO]; exact c5
          generalize rmO r5 m = r6 at *
          refine C r6 _ R6 B6 ?_ ?_ c6 H
          · rw [w6, a6]; exact hm.1
          · rw [w6, a6]; omega
        · rw [if_pos no5] at H
          simp only [psh, bk_X12_readMethod_63, b2i_0, bk_X12_readMethod_64]
          exact ⟨fun q => absurd trivial q, fun _ => H h5 R5⟩
    · rw [if_pos no] at H
      simp only [psh, bk_X12_readMethod_26, b2i_0, bk_X12_readMethod_27]
      exact ⟨fun q => absurd trivial q, fun _ => H h2 R2⟩
  · rw [if_pos (Classical.not_not.mp z)] at H
    rw [rb_X12_readMethod_18 _ _ R.1]
    refine c_fails R (fun h1 R1 => ?_)
    simp only [psh, bk_X12_readMethod_20]
    exact H h1 R1
end
