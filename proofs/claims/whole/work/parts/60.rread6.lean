/-! The reference's reading: catches, the ends of blocks -/
def rcP (r : RV) (c : Nat) : RV := tI (tL r 34 c (gl r 21453)) 35 c (gi r 1454)
def rcU (r : RV) (s : Nat) : RV := tI r 32 s (ai r 32 s + 1)
def rcE (r : RV) (s c : Nat) : RV := tI (opF (rcU r s) 6 (nI s) (ai r 32 s + 1 - 1)) 33 c (opV (rcU r s))
def rcD (r : RV) (s c : Nat) : RV := if gi r 1451 = 41 then rcE (advF (rcP r c)) s c else faiF (rcP r c)
def rcC (r : RV) (s c : Nat) : RV := if okN r = false then faiF r else rcD (namF r) s c
def rcB (r : RV) (s c : Nat) : RV := if gi r 1451 = 40 then (if (nlF 36 37 38 c 124 5 r).2 = false then (nlF 36 37 38 c 124 5 r).1 else rcC (nlF 36 37 38 c 124 5 r).1 s c) else faiF r
/-- a catch is read -/
def rcF (r : RV) (s : Nat) : RV := if ai r 32 s = 4 then faiF r else rcB (tI (advF r) 36 (4 * s + tn (ai r 32 s)) 0) s (4 * s + tn (ai r 32 s))
def beF (r : RV) (s : Nat) (body : Bool) : RV := if gl r 21450 = 426836779880 then rcF r s else if gl r 21450 = 28826370426301561 then opB (advF r) 28 s 7 else if body = true ∧ ai r 29 s = 0 then faiF r else r
def clB (r : RV) (s : Nat) (role : Int32) : RV := if role = 1 then takF r 59 else if role = 2 then (if gl r 21450 = 1701606245 then opB (advF r) 27 s 3 else r) else if role = 8 then (if gl r 21450 = 127991945328499 then (arF r s 59).1 else takF r 59) else if role = 5 ∨ role = 6 then beF r s (decide (role = 5)) else r
def clA (r : RV) : RV := advF (sI r 1455 (gi r 1455 - 1))
/-- a block ends -/
def clF (r : RV) : RV := clB (clA r) (tn (ai r 41 (rsB r))) (ai r 40 (rsB r))
theorem OB_rcP {r : RV} {c : Nat} (B : OB r) : OB (rcP r c) := OB_t (OB_tl B)
theorem OB_rcU {r : RV} {s : Nat} (B : OB r) : OB (rcU r s) := OB_t B
theorem RW_rcP {r : RV} {h : AH} {a c : Nat} (R : RW r h a) : RW (rcP r c) (setAI (setAJ h (a + 34) c (gl r 21453)) (a + 35) c (gi r 1454)) a := (R.AJ 34 c _).AI 35 c _
theorem OB_fai {r : RV} (B : OB r) : OB (faiF r) := OB_of B (PT_fai B.1) (gi_fai _) (gi_fai _) rfl
/-- numbers that the end of a block needs -/
def CB (r : RV) : Prop := OB r ∧ 1 ≤ tn (gi r 1455) ∧ ai r 46 (tn (gi r 1455) - 1) = nI (rsB r) ∧ rsB r < 2048 ∧ (ai r 40 (rsB r) = 0 ∨ (ai r 41 (rsB r) = nI (tn (ai r 41 (rsB r))) ∧ tn (ai r 41 (rsB r)) < 240 ∧ cnt (ai r 32 (tn (ai r 41 (rsB r)))) 4 ∧ (ai r 40 (rsB r) = 8 → ai r 29 (tn (ai r 41 (rsB r))) = nI 0)))
section
variable {d : Nat} {h : AH} {a : Nat} {r : RV} {Q : Option V → AH → Prop}
theorem c_catLoop {s c : Nat} (hc : c < 960) : ∀ f (r : RV) (h : AH) (x3 : Int32) n, ¬ x3 = 0 → RW r h a → PT r → ai r 36 c = nI n → n ≤ 4 → 5 ≤ f + n → (∀ h', (nlF 36 37 38 c 124 f r).2 = false → RW (nlF 36 37 38 c 124 f r).1 h' a → Q none h') → (∀ h' x3, (nlF 36 37 38 c 124 f r).2 = true → RW (nlF 36 37 38 c 124 f r).1 h' a → wp (d + 4) K_X12_readCatch 97 [] [(0, vr (some a)), (1, vi (nI s)), (2, vi (nI c)), (3, vi x3)] h' Q) → wp (d + 4) K_X12_readCatch 36 [] [(0, vr (some a)), (1, vi (nI s)), (2, vi (nI c)), (3, vi x3)] h Q := by
  intro f
  induction f with
  | zero => intro r h x2 n _ _ _ _ h4 h5; omega
  | succ f ih =>
    intro r h x2 n hx R P hn h4 h5 H1 H2
    rw [bk_X12_readCatch_36]
    refine ⟨fun z => absurd z hx, fun _ => ?_⟩
    rw [rb_X12_readCatch_38 _ _ _ _ R.1]
    refine c_advance R P (fun h1 R1 => ?_)
    rw [nlF] at H1 H2
    have P1 := PT_adv P
    have a1 : ai (advF r) 36 c = nI n := by rw [ai_adv]; exact hn
    generalize advF r = r1 at *
    simp only [psh]
    rw [rb_X12_readCatch_40 _ _ _ _ R1.1]
    simp (disch := omega) only [nI_clamp, nI_leI, nI_ltI, nI_eq, nI_add, pk_mul, vp_in_nI, nI_1, true_and, and_true, true_implies, implies_true, not_true_eq_false, not_false_eq_true, false_implies, psh, nn_some, forall_const]
    rw [R1.ai, a1]
    rw [hn] at H1 H2
    refine ⟨fun z => ?_, fun z => ?_⟩
    · rw [if_neg z] at H1 H2
      have c4 : ¬ n = 4 := fun q => z (by rw [q]; rfl)
      rw [rb_X12_readCatch_50 _ _ _ _ R1.1]
      refine c_takeName R1 P1 (fun ok h2 R2 => ?_) (fun no h2 R2 => ?_)
      · rw [if_neg (by rw [ok]; decide)] at H1 H2
        have P2 := PT_nam P1
        have a2 : ai (namF r1) 36 c = nI n := by rw [ai_nam]; exact a1
        generalize namF r1 = r2 at *
        simp only [psh, bk_X12_readCatch_52, b2i_0]
        refine ⟨fun _ => ?_, fun q => absurd (Classical.not_not.mp q) (by decide)⟩
        rw [rb_X12_readCatch_54 _ _ _ _ R2.1, lt4]
        simp (disch := omega) only [nI_clamp, nI_leI, nI_ltI, nI_eq, nI_add, pk_mul, vp_in_nI, nI_1, true_and, and_true, true_implies, implies_true, not_true_eq_false, not_false_eq_true, false_implies, psh, nn_some, forall_const, fI_setAJ, aI_setAJ]
        rw [R2.ai, a2]
        simp (disch := omega) only [nI_clamp, nI_leI, nI_ltI, nI_eq, nI_add, pk_mul, vp_in_nI, nI_1, true_and, and_true, true_implies, implies_true, not_true_eq_false, not_false_eq_true, false_implies, psh, nn_some, forall_const, fI_setAJ, aI_setAJ]
        rw [aI_neq _ _ (by decide)]
        simp only [aI_setAJ]
        rw [R2.ai, a2, R2.gi, R2.gl]
        have R3 := RW_nlS (qc := 36) (qw := 37) (qa := 38) (i := c) R2
        rw [a2, tn_nI (by omega), nI_1] at R3
        have P3 : PT (nlS 36 37 38 c r2) := PT_nlS P2
        have g3 : gi (nlS 36 37 38 c r2) 1451 = gi r2 1451 := rfl
        have a3 : ai (nlS 36 37 38 c r2) 36 c = nI (n + 1) := by rw [aiq_nlS, a2, nI_1]
        rw [← g3] at H1 H2
        rw [nI_1]
        generalize nlS 36 37 38 c r2 = r3 at *
        rw [rb_X12_readCatch_88 _ _ _ _ R3.1, R3.gi]
        refine ⟨fun z2 => ?_, fun z2 => ?_⟩
        · rw [if_neg z2] at H1 H2
          rw [bk_X12_readCatch_94, bk_X12_readCatch_95, bk_X12_readCatch_36]
          exact ⟨fun _ => H2 _ _ rfl R3, fun q => absurd rfl q⟩
        · rw [if_pos (Classical.not_not.mp z2)] at H1 H2
          rw [bk_X12_readCatch_92, bk_X12_readCatch_95]
          exact ih r3 _ 1 (n + 1) (by decide) R3 P3 a3 (by omega) (by omega) H1 H2
      · rw [if_pos no] at H1 H2
        simp only [psh, bk_X12_readCatch_52, b2i_0, bk_X12_readCatch_53]
        exact ⟨fun q => absurd trivial q, fun _ => H1 h2 rfl R2⟩
    · rw [if_pos (Classical.not_not.mp z)] at H1 H2
      rw [rb_X12_readCatch_46 _ _ _ _ R1.1]
      refine c_fails R1 (fun h2 R2 => ?_)
      simp only [psh, bk_X12_readCatch_48]
      exact H1 h2 rfl R2
theorem c_readCatch {s : Nat} (hs : s < 240) (R : RW r h a) (B : OB r) (hc : cnt (ai r 32 s) 4) (H : ∀ h', RW (rcF r s) h' a → Q none h') : wp (d + 4) K_X12_readCatch 0 [] [(0, vr (some a)), (1, vi (nI s))] h Q := by
  have hc2 := hc.2
  unfold rcF at H
  rw [rb_X12_readCatch_0 _ _ R.1]
  simp (disch := omega) only [nI_clamp, nI_leI, nI_ltI, nI_eq, nI_add, pk_mul, vp_in_nI, nI_1, true_and, and_true, true_implies, implies_true, not_true_eq_false, not_false_eq_true, false_implies, psh, nn_some, forall_const]
  rw [R.ai]
  refine ⟨fun z => ?_, fun z => ?_⟩
  · rw [if_neg z] at H
    have n4 : ¬ tn (ai r 32 s) = 4 := fun q => z (by rw [hc.1, q]; rfl)
    have e1 : 4 * nI s + ai r 32 s = nI (4 * s + tn (ai r 32 s)) := by rw [hc.1, lt4, pk_mul, nI_add, tn_nI (by omega)]
    rw [e1]
    have hc960 : 4 * s + tn (ai r 32 s) < 960 := by omega
    generalize 4 * s + tn (ai r 32 s) = c at *
    rw [rb_X12_readCatch_19 _ _ _ R.1]
    refine c_advance R B.1 (fun h1 R1 => ?_)
    have B1 := OB_adv B
    have q1 : ai (advF r) 32 s = ai r 32 s := by rw [ai_adv]
    generalize advF r = r1 at *
    simp only [psh]
    rw [rb_X12_readCatch_21 _ _ _ R1.1]
    simp (disch := omega) only [nI_clamp, nI_leI, nI_ltI, nI_eq, nI_add, pk_mul, vp_in_nI, nI_1, true_and, and_true, true_implies, implies_true, not_true_eq_false, not_false_eq_true, false_implies, psh, nn_some, forall_const, fI_setAI]
    have R2 := R1.AI 36 c 0
    have B2 := OB_t (q := 36) (i := c) (v := 0) B1
    have q2 : ai (tI r1 36 c 0) 32 s = ai r 32 s := by rw [ai_n (by decide)]; exact q1
    have n2 : ai (tI r1 36 c 0) 36 c = nI 0 := by rw [ai_tI, if_pos ⟨rfl, rfl⟩]; rfl
    have g0 : fI h1 1451 a = gi (tI r1 36 c 0) 1451 := R1.gi 1451
    rw [g0]
    generalize tI r1 36 c 0 = r2 at *
    generalize setAI h1 (a + 36) c 0 = h2 at *
    unfold rcB at H
    refine ⟨fun z2 => ?_, fun z2 => ?_⟩
    · rw [if_pos z2] at H
      rw [bk_X12_readCatch_34]
      obtain ⟨k1, k2, k3⟩ := nl_keep (qc := 36) (qw := 37) (qa := 38) (i := c) (sep := 124) (by decide) (by decide) 5 r2
      refine c_catLoop hc960 5 r2 h2 1 0 (by decide) R2 B2.1 n2 (by omega) (by omega) (fun h' e R' => ?_) (fun h' x3 e R' => ?_)
      · rw [if_pos e] at H
        exact H h' R'
      · rw [if_neg (by rw [e]; decide)] at H
        have B3 := k1 B2
        have q3 : ai (nlF 36 37 38 c 124 5 r2).1 32 s = ai r 32 s := by rw [k2 32 (by decide) (by decide)]; exact q2
        generalize (nlF 36 37 38 c 124 5 r2).1 = r3 at *
        unfold rcC at H
        rw [rb_X12_readCatch_97 _ _ _ _ R'.1]
        refine c_takeName R' B3.1 (fun ok h4 R4 => ?_) (fun no h4 R4 => ?_)
        · rw [if_neg (by rw [ok]; decide)] at H
          have B4 := OB_nam B3
          have q4 : ai (namF r3) 32 s = ai r 32 s := by rw [ai_nam]; exact q3
          generalize namF r3 = r4 at *
          simp only [psh, bk_X12_readCatch_99, b2i_0]
          refine ⟨fun _ => ?_, fun q => absurd (Classical.not_not.mp q) (by decide)⟩
          unfold rcD at H
          rw [rb_X12_readCatch_101 _ _ _ _ R4.1]
          simp (disch := omega) only [nI_clamp, nI_leI, nI_ltI, nI_eq, nI_add, pk_mul, vp_in_nI, nI_1, true_and, and_true, true_implies, implies_true, not_true_eq_false, not_false_eq_true, false_implies, psh, nn_some, forall_const, fI_setAJ]
          rw [R4.gi, R4.gl]
          have R5 := RW_rcP (c := c) R4
          have B5 := OB_rcP (c := c) B4
          have g5 : gi (rcP r4 c) 1451 = gi r4 1451 := rfl
          have q5 : ai (rcP r4 c) 32 s = ai r 32 s := by unfold rcP; rw [ai_n (by decide), ai_tL]; exact q4
          rw [← g5] at H
          generalize rcP r4 c = r5 at *
          refine c_take R5 B5.1 41 (fun z3 h6 R6 => ?_) (fun z3 h6 R6 => ?_)
          · rw [if_pos z3] at H
            have B6 := OB_adv B5
            have q6 : ai (advF r5) 32 s = ai r 32 s := by rw [ai_adv]; exact q5
            generalize advF r5 = r6 at *
            simp only [psh, bk_X12_readCatch_116, b2i_0]
            refine ⟨fun _ => ?_, fun q => absurd (Classical.not_not.mp q) (by decide)⟩
            unfold rcE at H
            rw [rb_X12_readCatch_118 _ _ _ _ R6.1]
            simp (disch := omega) only [nI_clamp, nI_leI, nI_ltI, nI_eq, nI_add, pk_mul, vp_in_nI, nI_1, true_and, and_true, true_implies, implies_true, not_true_eq_false, not_false_eq_true, false_implies, psh, nn_some, forall_const]
            rw [aI_setAI, if_pos ⟨rfl, rfl⟩, R6.ai]
            have R7 : RW (rcU r6 s) _ a := R6.AI 32 s (ai r6 32 s + 1)
            have B7 := OB_rcU (s := s) B6
            generalize rcU r6 s = r7 at *
            generalize setAI h6 (a + 32) s (ai r6 32 s + 1) = h7 at *
            refine c_opened R7 B7 6 (nI s) _ (fun h8 R8 => ?_)
            simp only [psh, bk_X12_readCatch_139]
            rw [R7.1.p31434, nn_some]
            refine ⟨R8.1.t31434, by rw [R8.1.l31434]; simp (disch := omega) only [nI_clamp, nI_leI, nI_ltI, nI_eq, nI_add, pk_mul, vp_in_nI, nI_1, true_and, and_true, true_implies, implies_true, not_true_eq_false, not_false_eq_true, false_implies, psh, nn_some, forall_const], ?_⟩
            simp (disch := omega) only [nI_clamp, nI_leI, nI_ltI, nI_eq, nI_add, pk_mul, vp_in_nI, nI_1, true_and, and_true, true_implies, implies_true, not_true_eq_false, not_false_eq_true, false_implies, psh, nn_some, forall_const]
            exact H _ (R8.AI 33 c _)
          · rw [if_neg z3] at H
            simp only [psh, bk_X12_readCatch_116, b2i_0, bk_X12_readCatch_117]
            exact ⟨fun q => absurd trivial q, fun _ => H h6 R6⟩
        · rw [if_pos no] at H
          simp only [psh, bk_X12_readCatch_99, b2i_0, bk_X12_readCatch_100]
          exact ⟨fun q => absurd trivial q, fun _ => H h4 R4⟩
    · rw [if_neg z2] at H
      rw [rb_X12_readCatch_30 _ _ _ R2.1]
      refine c_fails R2 (fun h3 R3 => ?_)
      simp only [psh, bk_X12_readCatch_32]
      exact H h3 R3
  · rw [if_pos (Classical.not_not.mp z)] at H
    rw [rb_X12_readCatch_15 _ _ _ R.1]
    refine c_fails R (fun h3 R3 => ?_)
    simp only [psh, bk_X12_readCatch_17]
    exact H h3 R3
theorem c_behind {s : Nat} (hs : s < 240) (R : RW r h a) (B : OB r) (hc : cnt (ai r 32 s) 4) (body : Bool) (H : ∀ h', RW (beF r s body) h' a → Q none h') : wp (d + 5) K_X12_behind 0 [] [(0, vr (some a)), (1, vi (nI s)), (2, vi (b2i body))] h Q := by
  unfold beF at H
  rw [rb_X12_behind_0 _ _ _ R.1, c_isWord R]
  simp only [psh, bk_X12_behind_3, b2i_0]
  refine ⟨fun z => ?_, fun z => ?_⟩
  · have z := of_decide_eq_false z
    rw [if_neg z] at H
    rw [rb_X12_behind_8 _ _ _ R.1, c_isWord R]
    simp only [psh, bk_X12_behind_11, b2i_0]
    refine ⟨fun z2 => ?_, fun z2 => ?_⟩
    · have z2 := of_decide_eq_false z2
      rw [if_neg z2] at H
      rw [bk_X12_behind_24]
      simp only [b2i_0, bk_X12_behind_34]
      refine ⟨fun z3 => ?_, fun z3 => ?_⟩
      · rw [if_neg (by rw [z3]; rintro ⟨q, -⟩; cases q)] at H
        exact H h R
      · rw [rb_X12_behind_26 _ _ _ R.1]
        simp (disch := omega) only [nI_clamp, nI_leI, nI_ltI, nI_eq, nI_add, pk_mul, vp_in_nI, nI_1, true_and, and_true, true_implies, implies_true, not_true_eq_false, not_false_eq_true, false_implies, psh, nn_some, forall_const, bk_X12_behind_34]
        rw [R.ai]
        refine ⟨fun z4 => ?_, fun z4 => ?_⟩
        · rw [if_neg (fun q => z4 q.2)] at H
          exact H h R
        · rw [if_pos ⟨bt z3, Classical.not_not.mp z4⟩] at H
          rw [rb_X12_behind_31 _ _ _ R.1]
          refine c_fails R (fun h3 R3 => ?_)
          simp only [psh, bk_X12_behind_33, bk_X12_behind_34]
          exact H h3 R3
    · have z2 : gl r 21450 = 28826370426301561 := of_decide_eq_true (bt z2)
      rw [if_pos z2] at H
      rw [rb_X12_behind_12 _ _ _ R.1]
      refine c_advance R B.1 (fun h1 R1 => ?_)
      have B1 := OB_adv B
      generalize advF r = r1 at *
      simp only [psh]
      rw [rb_X12_behind_14 _ _ _ R1.1]
      refine c_opened R1 B1 7 (nI s) 0 (fun h8 R8 => ?_)
      simp only [psh, bk_X12_behind_22, bk_X12_behind_34]
      rw [R1.1.p31429, nn_some]
      refine ⟨R8.1.t31429, by rw [R8.1.l31429]; simp (disch := omega) only [nI_clamp, nI_leI, nI_ltI, nI_eq, nI_add, pk_mul, vp_in_nI, nI_1, true_and, and_true, true_implies, implies_true, not_true_eq_false, not_false_eq_true, false_implies, psh, nn_some, forall_const], ?_⟩
      simp (disch := omega) only [nI_clamp, nI_leI, nI_ltI, nI_eq, nI_add, pk_mul, vp_in_nI, nI_1, true_and, and_true, true_implies, implies_true, not_true_eq_false, not_false_eq_true, false_implies, psh, nn_some, forall_const]
      exact H _ (R8.AI 28 s _)
  · have z : gl r 21450 = 426836779880 := of_decide_eq_true (bt z)
    rw [if_pos z] at H
    rw [rb_X12_behind_4 _ _ _ R.1]
    refine c_readCatch hs R B hc (fun h1 R1 => ?_)
    simp only [psh, bk_X12_behind_7, bk_X12_behind_34]
    exact H h1 R1
theorem c_close (R : RW r h a) (C : CB r) (H : ∀ h', RW (clF r) h' a → Q none h') : wp (d + 6) K_X12_close 0 [] [(0, vr (some a))] h Q := by
  obtain ⟨B, hd1, hb, hb2, hr⟩ := C
  have hd := B.2.2.2.2
  have hd8 := hd.2
  unfold clF clA at H
  have ed : gi r 1455 - 1 = nI (tn (gi r 1455) - 1) := by rw [hd.1, lt1, pk_sub (by omega), tn_nI (by omega)]
  rw [rb_X12_close_0 _ R.1, R.gi]
  have R0 := R.FI 1455 (gi r 1455 - 1)
  have B0 : OB (sI r 1455 (gi r 1455 - 1)) := by
    obtain ⟨b1, b2, b3, b4, b5⟩ := B
    refine ⟨PT_sI b1 _ _, b2, b3, b4, ?_⟩
    rw [gi_sI, if_pos rfl, ed]
    exact ⟨by rw [tn_nI (by omega)], by rw [tn_nI (by omega)]; omega⟩
  have g0 : gi (sI r 1455 (gi r 1455 - 1)) 1455 = nI (tn (gi r 1455) - 1) := by rw [gi_sI, if_pos rfl, ed]
  have a0 : ai (sI r 1455 (gi r 1455 - 1)) = ai r := rfl
  generalize sI r 1455 (gi r 1455 - 1) = r0 at *
  generalize setFI h 1455 a (gi r 1455 - 1) = h0 at *
  rw [R0.gi, g0]
  simp (disch := omega) only [nI_clamp, nI_leI, nI_ltI, nI_eq, nI_add, pk_mul, vp_in_nI, nI_1, true_and, and_true, true_implies, implies_true, not_true_eq_false, not_false_eq_true, false_implies, psh, nn_some, forall_const]
  rw [R0.ai, a0, hb]
  simp (disch := omega) only [nI_clamp, nI_leI, nI_ltI, nI_eq, nI_add, pk_mul, vp_in_nI, nI_1, true_and, and_true, true_implies, implies_true, not_true_eq_false, not_false_eq_true, false_implies, psh, nn_some, forall_const]
  rw [R0.ai, a0]
  refine c_advance R0 B0.1 (fun h1 R1 => ?_)
  have B1 := OB_adv B0
  have a1 : ai (advF r0) = ai r := by rw [ai_adv, a0]
  generalize advF r0 = r1 at *
  generalize rsB r = b at *
  simp only [psh]
  rw [rb_X12_close_19 _ _ _ R1.1]
  simp (disch := omega) only [nI_clamp, nI_leI, nI_ltI, nI_eq, nI_add, pk_mul, vp_in_nI, nI_1, true_and, and_true, true_implies, implies_true, not_true_eq_false, not_false_eq_true, false_implies, psh, nn_some, forall_const]
  rw [R1.ai, a1]
  have e73 : r1 = clB r1 (tn (ai r 41 b)) (ai r 40 b) → ∀ x2, wp (d + 6) K_X12_close 73 [] [(0, vr (some a)), (1, vi (nI b)), (2, vi x2)] h1 Q := fun e x2 => by
    rw [bk_X12_close_73]
    rw [← e] at H
    exact H h1 R1
  have D : ∀ v, ai r 40 b = v → (v = 0 → False) → ai r 41 b = nI (tn (ai r 41 b)) ∧ tn (ai r 41 b) < 240 ∧ cnt (ai r 32 (tn (ai r 41 b))) 4 ∧ (ai r 40 b = 8 → ai r 29 (tn (ai r 41 b)) = nI 0) := fun v e hv => by
    rcases hr with hr | hr
    · exact absurd (e.symm.trans hr) (fun q => hv q)
    · exact hr
  refine ⟨fun c => ?_, fun j hj e => ?_⟩
  · have ne : ∀ x : Int32, ¬ (x < 1 ∨ 1 + Int32.ofNat 8 ≤ x) → ¬ ai r 40 b = x := fun x hx z => hx (by rw [z] at c; exact c)
    refine e73 ?_ _
    unfold clB
    rw [if_neg (ne 1 (by decide)), if_neg (ne 2 (by decide)), if_neg (ne 8 (by decide)), if_neg]
    rintro (q | q)
    · exact ne 5 (by decide) q
    · exact ne 6 (by decide) q
  · have e60 : (ai r 40 b = 5 ∨ ai r 40 b = 6) → wp (d + 6) K_X12_close 60 [] [(0, vr (some a)), (1, vi (nI b)), (2, vi (ai r 41 b))] h1 Q := fun z => by
      obtain ⟨d1, d2, d3, -⟩ := D _ rfl (fun q => by rw [q] at z; rcases z with z | z <;> exact absurd z (by decide))
      rw [rb_X12_close_60 _ _ _ R1.1]
      simp (disch := omega) only [nI_clamp, nI_leI, nI_ltI, nI_eq, nI_add, pk_mul, vp_in_nI, nI_1, true_and, and_true, true_implies, implies_true, not_true_eq_false, not_false_eq_true, false_implies, psh, nn_some, forall_const]
      rw [R1.ai, a1]
      unfold clB at H
      rw [if_neg (fun q => by rw [q] at z; rcases z with z | z <;> exact absurd z (by decide)), if_neg (fun q => by rw [q] at z; rcases z with z | z <;> exact absurd z (by decide)), if_neg (fun q => by rw [q] at z; rcases z with z | z <;> exact absurd z (by decide)), if_pos z] at H
      have e71 : ∀ bd, bd = decide (ai r 40 b = 5) → wp (d + 6) K_X12_close 71 [vi (b2i bd), vi (ai r 41 b), vr (some a)] [(0, vr (some a)), (1, vi (nI b)), (2, vi (ai r 41 b))] h1 Q := fun bd eb => by
        rw [bk_X12_close_71, nn_some]
        refine ⟨R1.1.1, ?_⟩
        rw [← eb] at H
        rw [d1]
        refine c_behind d2 R1 B1 (by rw [a1]; exact d3) bd (fun h2 R2 => ?_)
        simp only [psh, bk_X12_close_72, bk_X12_close_73]
        exact H h2 R2
      refine ⟨fun c => ?_, fun c => ?_⟩
      · rw [bk_X12_close_70]; exact e71 false (by rw [decide_eq_false c])
      · rw [bk_X12_close_68]; exact e71 true (by rw [decide_eq_true (Classical.not_not.mp c)])
    have : j = 0 ∨ j = 1 ∨ j = 2 ∨ j = 3 ∨ j = 4 ∨ j = 5 ∨ j = 6 ∨ j = 7 := by omega
    rcases this with z | z | z | z | z | z | z | z <;> subst z
    · have e : ai r 40 b = 1 := e
      change wp (d + 6) K_X12_close 24 [] _ h1 Q
      rw [e] at H
      have H : ∀ h', RW (takF r1 59) h' a → Q none h' := H
      unfold takF at H
      rw [rb_X12_close_24 _ _ _ R1.1]
      refine c_take R1 B1.1 59 (fun z h3 R3 => ?_) (fun z h3 R3 => ?_)
      · rw [if_pos z] at H
        simp only [psh, bk_X12_close_27, bk_X12_close_73]
        exact H h3 R3
      · rw [if_neg z] at H
        simp only [psh, bk_X12_close_27, bk_X12_close_73]
        exact H h3 R3
    · have e : ai r 40 b = 2 := e
      obtain ⟨d1, d2, -, -⟩ := D _ e (fun q => absurd q (by decide))
      change wp (d + 6) K_X12_close 29 [] _ h1 Q
      rw [e] at H
      have H : ∀ h', RW (if gl r1 21450 = 1701606245 then opB (advF r1) 27 (tn (ai r 41 b)) 3 else r1) h' a → Q none h' := H
      rw [rb_X12_close_29 _ _ _ R1.1, c_isWord R1]
      simp only [psh, bk_X12_close_32, b2i_0, bk_X12_close_73]
      refine ⟨fun z => ?_, fun z => ?_⟩
      · rw [if_neg (of_decide_eq_false z)] at H
        exact H h1 R1
      · have z : gl r1 21450 = 1701606245 := of_decide_eq_true (bt z)
        rw [if_pos z] at H
        rw [rb_X12_close_33 _ _ _ R1.1]
        refine c_advance R1 B1.1 (fun h2 R2 => ?_)
        have B2 := OB_adv B1
        generalize advF r1 = r2 at *
        simp only [psh]
        rw [rb_X12_close_35 _ _ _ R2.1, d1]
        refine c_opened R2 B2 3 _ 0 (fun h8 R8 => ?_)
        simp only [psh, bk_X12_close_43, bk_X12_close_73]
        rw [R2.1.p31428, nn_some]
        refine ⟨R8.1.t31428, by rw [R8.1.l31428]; simp (disch := omega) only [nI_clamp, nI_leI, nI_ltI, nI_eq, nI_add, pk_mul, vp_in_nI, nI_1, true_and, and_true, true_implies, implies_true, not_true_eq_false, not_false_eq_true, false_implies, psh, nn_some, forall_const], ?_⟩
        simp (disch := omega) only [nI_clamp, nI_leI, nI_ltI, nI_eq, nI_add, pk_mul, vp_in_nI, nI_1, true_and, and_true, true_implies, implies_true, not_true_eq_false, not_false_eq_true, false_implies, psh, nn_some, forall_const]
        exact H _ (R8.AI 27 _ _)
    · have e : ai r 40 b = 3 := e
      exact e73 (by rw [e]; rfl) _
    · have e : ai r 40 b = 4 := e
      exact e73 (by rw [e]; rfl) _
    · exact e60 (Or.inl e)
    · exact e60 (Or.inr e)
    · have e : ai r 40 b = 7 := e
      exact e73 (by rw [e]; rfl) _
    · have e : ai r 40 b = 8 := e
      obtain ⟨d1, d2, -, d4⟩ := D _ e (fun q => absurd q (by decide))
      have d4 := d4 e
      change wp (d + 6) K_X12_close 45 [] _ h1 Q
      rw [e] at H
      have H : ∀ h', RW (if gl r1 21450 = 127991945328499 then (arF r1 (tn (ai r 41 b)) 59).1 else takF r1 59) h' a → Q none h' := H
      rw [rb_X12_close_45 _ _ _ R1.1, c_isWord R1]
      simp only [psh, bk_X12_close_48, b2i_0]
      refine ⟨fun z => ?_, fun z => ?_⟩
      · rw [if_neg (of_decide_eq_false z)] at H
        unfold takF at H
        rw [rb_X12_close_55 _ _ _ R1.1]
        refine c_take R1 B1.1 59 (fun z h3 R3 => ?_) (fun z h3 R3 => ?_)
        · rw [if_pos z] at H
          simp only [psh, bk_X12_close_58, bk_X12_close_73]
          exact H h3 R3
        · rw [if_neg z] at H
          simp only [psh, bk_X12_close_58, bk_X12_close_73]
          exact H h3 R3
      · have z : gl r1 21450 = 127991945328499 := of_decide_eq_true (bt z)
        rw [if_pos z] at H
        rw [rb_X12_close_49 _ _ _ R1.1, d1]
        refine c_areNames d2 59 R1 B1.1 (by rw [a1]; exact d4) (fun h' e R' => ?_) (fun h' e R' => ?_)
        · simp only [psh, bk_X12_close_53, bk_X12_close_73]
          exact H h' R'
        · simp only [psh, bk_X12_close_53, bk_X12_close_73]
          exact H h' R'
end
