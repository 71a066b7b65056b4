/-! The reference's reading: a statement, its contract -/
/-- numbers that the reading of a statement needs -/
def SB (r : RV) : Prop := OB r ∧ cnt (ai r 18 (wN r)) 120 ∧ 1 ≤ tn (gi r 1455) ∧ ai r 46 (tn (gi r 1455) - 1) = nI (rsB r) ∧ rsB r < 2048 ∧ (ai r 45 (rsB r) = -1 ∨ idx (ai r 45 (rsB r)) 240)
theorem ai_n {r : RV} {k i q j : Nat} {v : Int32} (h : ¬ q = k) : ai (tI r k i v) q j = ai r q j := by rw [ai_tI, if_neg (fun z => h z.1)]
theorem RW_rsW {r : RV} {h : AH} {a s : Nat} (R : RW r h a) : RW (rsW r s) (setAI (setAJ h (a + 24) s (gl r 21453)) (a + 25) s (gi r 1454)) a := (R.AJ 24 s _).AI 25 s _
section
variable {d : Nat} {h : AH} {a : Nat} {r : RV} {Q : Option V → AH → Prop}
theorem c_readStatement (R : RW r h a) (S : SB r) (H : ∀ h', RW (rsF r) h' a → Q none h') : wp (d + 4) K_X12_readStatement 0 [] [(0, vr (some a))] h Q := by
  obtain ⟨B, hn, hd1, hb, hb2, he⟩ := S
  have P := B.1; have hw := B.2.1; have hw2 := B.2.2.1; have hd := B.2.2.2.2
  have hn2 := hn.2
  have hd8 := hd.2
  unfold rsF at H
  rw [c_isSt R, bk_X12_readStatement_51]
  simp only [b2i_0]
  have e61 : ∀ x1, (isSt r = false ∨ ai r 18 (wN r) = 120) → wp (d + 4) K_X12_readStatement 61 [] [(0, vr (some a)), (1, vi x1)] h Q := fun x1 z => by
    rw [if_pos z] at H
    rw [rb_X12_readStatement_61 _ _ R.1]
    refine c_fails R (fun h1 R1 => ?_)
    simp only [psh, bk_X12_readStatement_63]
    exact H h1 R1
  refine ⟨fun z => e61 _ (Or.inl z), fun z => ?_⟩
  rw [rb_X12_readStatement_54 _ _ R.1, R.gi, hw]
  simp (disch := omega) only [nI_clamp, nI_leI, nI_ltI, nI_eq, nI_add, pk_mul, vp_in_nI, nI_1, true_and, and_true, true_implies, implies_true, not_true_eq_false, not_false_eq_true, false_implies, psh, nn_some, forall_const]
  rw [R.ai]
  refine ⟨fun z2 => ?_, fun z2 => e61 _ (Or.inr (Classical.not_not.mp z2))⟩
  rw [if_neg (by rintro (q | q); exact z q; exact z2 q)] at H
  have n120 : ¬ tn (ai r 18 (wN r)) = 120 := fun q => z2 (by rw [hn.1, q]; rfl)
  have es : rsN r = wN r * 120 + tn (ai r 18 (wN r)) := rfl
  have hs : rsN r < 240 := by omega
  have en : nI (wN r) * 120 + ai r 18 (wN r) = nI (rsN r) := by rw [hn.1, lt120, pk_mul, nI_add, ← es]
  have ed : gi r 1455 - 1 = nI (tn (gi r 1455) - 1) := by rw [hd.1, lt1, pk_sub (by omega), tn_nI (by omega)]
  -- the writes
  rw [rb_X12_readStatement_65 _ _ R.1, R.gi, R.gi, hw]
  simp (disch := omega) only [nI_clamp, nI_leI, nI_ltI, nI_eq, nI_add, pk_mul, vp_in_nI, nI_1, true_and, and_true, true_implies, implies_true, not_true_eq_false, not_false_eq_true, false_implies, psh, nn_some, forall_const, fI_setAI]
  rw [R.ai, R.gi, en, ed]
  simp (disch := omega) only [nI_clamp, nI_leI, nI_ltI, nI_eq, nI_add, pk_mul, vp_in_nI, nI_1, true_and, and_true, true_implies, implies_true, not_true_eq_false, not_false_eq_true, false_implies, psh, nn_some, forall_const]
  rw [R.ai]
  have R1 : RW (rsA1 r (rsN r)) _ a := ((R.AI 18 (wN r) (ai r 18 (wN r) + 1)).AI 20 (rsN r) (gi r 1449)).AI 21 (rsN r) (ai r 46 (tn (gi r 1455) - 1))
  have B1 := OB_rsA1 (s := rsN r) B
  have w1 : gi (rsA1 r (rsN r)) 1402 = nI (wN r) := hw
  have a8 : ai (rsA1 r (rsN r)) 8 (wN r) = ai r 8 (wN r) := by unfold rsA1; rw [ai_n (by decide), ai_n (by decide), ai_n (by decide)]
  have wn1 : wN (rsA1 r (rsN r)) = wN r := rfl
  have d45 : ai (rsA1 r (rsN r)) 45 (rsB r) = ai r 45 (rsB r) := by unfold rsA1; rw [ai_n (by decide), ai_n (by decide), ai_n (by decide)]
  have s1 : gi (rsA1 r (rsN r)) 1451 = gi r 1451 := rfl
  have x1' : gl (rsA1 r (rsN r)) 21450 = gl r 21450 := rfl
  have eA : rsA r = rsL (rsA3 (rsA2 (rsA1 r (rsN r)) (rsN r)) (rsN r)) (rsN r) (rsB r) := rfl
  rw [hb] at R1 ⊢
  generalize setAI (setAI (setAI h (a + 18) (wN r) (ai r 18 (wN r) + 1)) (a + 20) (rsN r) (gi r 1449)) (a + 21) (rsN r) (nI (rsB r)) = h1 at R1 ⊢
  clear z
  generalize rsN r = s at *
  generalize rsB r = b at *
  generalize rsA1 r s = r1 at *
  rw [rb_X12_readStatement_104 _ _ _ _ R1.1, R1.gi, w1]
  simp (disch := omega) only [nI_clamp, nI_leI, nI_ltI, nI_eq, nI_add, pk_mul, vp_in_nI, nI_1, true_and, and_true, true_implies, implies_true, not_true_eq_false, not_false_eq_true, false_implies, psh, nn_some, forall_const]
  rw [R1.ai, a8]
  have R2 : RW (rsA2 r1 s) _ a := ((R1.AI 22 s (ai r1 8 (wN r1) - 1)).AI 23 s (-1)).AJ 24 s 0
  rw [wn1, a8] at R2
  have B2 := OB_rsA2 (s := s) B1
  have d45' : ai (rsA2 r1 s) 45 b = ai r 45 b := by unfold rsA2; rw [ai_tL, ai_n (by decide), ai_n (by decide)]; exact d45
  have s2 : gi (rsA2 r1 s) 1451 = gi r 1451 := s1
  have x2' : gl (rsA2 r1 s) 21450 = gl r 21450 := x1'
  generalize setAJ (setAI (setAI h1 (a + 22) s (ai r 8 (wN r) - 1)) (a + 23) s (-1)) (a + 24) s 0 = h2 at R2 ⊢
  generalize rsA2 r1 s = r2 at *
  rw [rb_X12_readStatement_125 _ _ _ _ R2.1]
  simp (disch := omega) only [nI_clamp, nI_leI, nI_ltI, nI_eq, nI_add, pk_mul, vp_in_nI, nI_1, true_and, and_true, true_implies, implies_true, not_true_eq_false, not_false_eq_true, false_implies, psh, nn_some, forall_const]
  have R2b := ((R2.AI 26 s (-1)).AI 27 s (-1)).AI 28 s (-1)
  rw [rb_X12_readStatement_140 _ _ _ _ R2b.1]
  simp (disch := omega) only [nI_clamp, nI_leI, nI_ltI, nI_eq, nI_add, pk_mul, vp_in_nI, nI_1, true_and, and_true, true_implies, implies_true, not_true_eq_false, not_false_eq_true, false_implies, psh, nn_some, forall_const]
  have R3 : RW (rsA3 r2 s) _ a := (R2b.AI 29 s 0).AI 32 s 0
  have B3 := OB_rsA3 (s := s) B2
  have d45'' : ai (rsA3 r2 s) 45 b = ai r 45 b := by unfold rsA3; rw [ai_n (by decide), ai_n (by decide), ai_n (by decide), ai_n (by decide), ai_n (by decide)]; exact d45'
  have s3 : gi (rsA3 r2 s) 1451 = gi r 1451 := s2
  have x3' : gl (rsA3 r2 s) 21450 = gl r 21450 := x2'
  have a29 : ai (rsA3 r2 s) 29 s = nI 0 := by unfold rsA3; rw [ai_n (by decide), ai_tI, if_pos ⟨rfl, rfl⟩]; rfl
  generalize setAI (setAI (setAI (setAI (setAI h2 (a + 26) s (-1)) (a + 27) s (-1)) (a + 28) s (-1)) (a + 29) s 0) (a + 32) s 0 = h3 at R3 ⊢
  generalize rsA3 r2 s = r3 at *
  rw [R3.ai, d45'']
  -- from here on: what kind of statement
  have G : ∀ (h : AH), RW (rsA r) h a → OB (rsA r) → gi (rsA r) 1451 = gi r 1451 → gl (rsA r) 21450 = gl r 21450 → ai (rsA r) 29 s = nI 0 → ((¬ gi (rsA r) 1451 = 123 → wp (d + 4) K_X12_readStatement 194 [] [(0, vr (some a)), (1, vi (b2i (isSt r))), (2, vi (nI s)), (3, vi (nI b))] h Q) ∧ (¬ (¬ gi (rsA r) 1451 = 123) → wp (d + 4) K_X12_readStatement 179 [] [(0, vr (some a)), (1, vi (b2i (isSt r))), (2, vi (nI s)), (3, vi (nI b))] h Q)) := by
    intro h R B sg xw h29
    generalize rsA r = rA at *
    have open26 : ∀ (r : RV) (h : AH) (what : Int32), RW r h a → OB r → ∀ (K : Option V → AH → Prop), (∀ h', RW (opB r 26 s what) h' a → Q none h') → (∀ v h', wp (d + 4) K_X12_readStatement 389 [] [(0, vr (some a)), (1, vi (b2i v)), (2, vi (nI s)), (3, vi (nI b)), (4, vl 0)] h' Q → True) → ∀ h', RW (opF r what (nI s) 0) h' a → nn (fP h 31427 a) (fun q1 => tg h' q1 = 101 ∧ vp_in (nI s) (ln h' q1) ∧ Q none (setAI h' q1 (Int32.toNatClampNeg (nI s)) (opV r))) := by
      intro r h what R B K H _ h' R'
      rw [R.1.p31427, nn_some]
      refine ⟨R'.1.t31427, by rw [R'.1.l31427]; simp (disch := omega) only [nI_clamp, nI_leI, nI_ltI, nI_eq, nI_add, pk_mul, vp_in_nI, nI_1, true_and, and_true, true_implies, implies_true, not_true_eq_false, not_false_eq_true, false_implies, psh, nn_some, forall_const], ?_⟩
      simp (disch := omega) only [nI_clamp, nI_leI, nI_ltI, nI_eq, nI_add, pk_mul, vp_in_nI, nI_1, true_and, and_true, true_implies, implies_true, not_true_eq_false, not_false_eq_true, false_implies, psh, nn_some, forall_const]
      exact H _ (R'.AI 26 s _)
    rw [sg]
    refine ⟨fun z => ?_, fun z => ?_⟩
    · rw [if_neg z] at H
      rw [rb_X12_readStatement_194 _ _ _ _ R.1]
      refine c_advance R B.1 (fun h1 R1 => ?_)
      have B1 := OB_adv B
      have n1 : ai (advF rA) 29 s = nI 0 := by rw [ai_adv]; exact h29
      rw [R.gl, xw]
      generalize advF rA = r1 at *
      generalize gl r 21450 = x at *
      simp only [psh]
      rw [bk_X12_readStatement_199, lg0]
      unfold rsK at H
      -- do, break, return
      have K1 : (x = 25711 ∨ x = 422826041707 ∨ x = 125780071117422) → wp (d + 4) K_X12_readStatement 211 [] [(0, vr (some a)), (1, vi (b2i (isSt r))), (2, vi (nI s)), (3, vi (nI b)), (4, vl x)] h1 Q := fun z => by
        rw [if_pos z] at H
        unfold rsK1 takF at H
        have e227 : ∀ v, v = (if x = 25711 then (0 : Int32) else if x = 422826041707 then 7 else 8) → wp (d + 4) K_X12_readStatement 227 [vi v, vi (nI s), vr (fP h1 31420 a)] [(0, vr (some a)), (1, vi (b2i (isSt r))), (2, vi (nI s)), (3, vi (nI b)), (4, vl x)] h1 Q := fun v ev => by
          rw [R1.1.p31420, rb_X12_readStatement_227 _ _ _ _ _ _ _ _ R1.1, nn_some]
          rw [← ev] at H
          refine ⟨R1.1.t31420, by rw [R1.1.l31420]; simp (disch := omega) only [nI_clamp, nI_leI, nI_ltI, nI_eq, nI_add, pk_mul, vp_in_nI, nI_1, true_and, and_true, true_implies, implies_true, not_true_eq_false, not_false_eq_true, false_implies, psh, nn_some, forall_const], ?_⟩
          simp (disch := omega) only [nI_clamp, nI_leI, nI_ltI, nI_eq, nI_add, pk_mul, vp_in_nI, nI_1, true_and, and_true, true_implies, implies_true, not_true_eq_false, not_false_eq_true, false_implies, psh, nn_some, forall_const]
          have R2 := R1.AI 19 s v
          have g2 : gi (tI r1 19 s v) 1451 = gi r1 1451 := rfl
          refine c_take R2 (PT_tI B1.1 _ _ _) 59 (fun z h3 R3 => ?_) (fun z h3 R3 => ?_)
          · rw [if_pos z] at H
            simp only [psh, bk_X12_readStatement_231, bk_X12_readStatement_389]
            exact H h3 R3
          · rw [if_neg z] at H
            simp only [psh, bk_X12_readStatement_231, bk_X12_readStatement_389]
            exact H h3 R3
        rw [rb_X12_readStatement_211 _ _ _ _ _ R1.1, lg0]
        refine ⟨fun c => ?_, fun c => ?_⟩
        · rw [bk_X12_readStatement_220, lg0]
          refine ⟨fun c2 => ?_, fun c2 => ?_⟩
          · rw [bk_X12_readStatement_226]; exact e227 8 (by rw [if_neg c, if_neg c2])
          · rw [bk_X12_readStatement_224]; exact e227 7 (by rw [if_neg c, if_pos (Classical.not_not.mp c2)])
        · rw [bk_X12_readStatement_218]; exact e227 0 (by rw [if_pos (Classical.not_not.mp c)])
      refine ⟨fun c => K1 (Or.inl c), fun c1 => ?_⟩
      rw [bk_X12_readStatement_203, lg0]
      refine ⟨fun c => K1 (Or.inr (Or.inl c)), fun c2 => ?_⟩
      rw [bk_X12_readStatement_207, lg0]
      refine ⟨fun c3 => ?_, fun c => K1 (Or.inr (Or.inr (Classical.not_not.mp c)))⟩
      rw [if_neg (by rintro (q | q | q); exact c1 q; exact c2 q; exact c3 q)] at H
      clear K1
      rw [bk_X12_readStatement_233, lg0]
      -- throw, set, call
      have K2 : (x = 499968536439 ∨ x = 7562612 ∨ x = 1667329132) → wp (d + 4) K_X12_readStatement 245 [] [(0, vr (some a)), (1, vi (b2i (isSt r))), (2, vi (nI s)), (3, vi (nI b)), (4, vl x)] h1 Q := fun z => by
        rw [if_pos z] at H
        unfold rsK2 at H
        have e261 : ∀ v, v = (if x = 499968536439 then (2 : Int32) else if x = 7562612 then 3 else 1) → wp (d + 4) K_X12_readStatement 261 [vi v, vi (nI s), vr (fP h1 31420 a)] [(0, vr (some a)), (1, vi (b2i (isSt r))), (2, vi (nI s)), (3, vi (nI b)), (4, vl x)] h1 Q := fun v ev => by
          rw [R1.1.p31420, rb_X12_readStatement_261 _ _ _ _ _ _ _ _ R1.1, nn_some]
          rw [← ev] at H
          refine ⟨R1.1.t31420, by rw [R1.1.l31420]; simp (disch := omega) only [nI_clamp, nI_leI, nI_ltI, nI_eq, nI_add, pk_mul, vp_in_nI, nI_1, true_and, and_true, true_implies, implies_true, not_true_eq_false, not_false_eq_true, false_implies, psh, nn_some, forall_const], ?_⟩
          simp (disch := omega) only [nI_clamp, nI_leI, nI_ltI, nI_eq, nI_add, pk_mul, vp_in_nI, nI_1, true_and, and_true, true_implies, implies_true, not_true_eq_false, not_false_eq_true, false_implies, psh, nn_some, forall_const]
          have R2 := R1.AI 19 s v
          have B2 := OB_t (q := 19) (i := s) (v := v) B1
          have ok2 : okN (tI r1 19 s v) = okN r1 := rfl
          refine c_takeName R2 B2.1 (fun ok h3 R3 => ?_) (fun no h3 R3 => ?_)
          · rw [if_neg (by rw [← ok2, ok]; decide)] at H
            have B3 := OB_nam B2
            simp only [psh, bk_X12_readStatement_264, b2i_0]
            refine ⟨fun _ => ?_, fun q => absurd (Classical.not_not.mp q) (by decide)⟩
            generalize namF (tI r1 19 s v) = r3 at *
            rw [rb_X12_readStatement_266 _ _ _ _ _ R3.1]
            simp (disch := omega) only [nI_clamp, nI_leI, nI_ltI, nI_eq, nI_add, pk_mul, vp_in_nI, nI_1, true_and, and_true, true_implies, implies_true, not_true_eq_false, not_false_eq_true, false_implies, psh, nn_some, forall_const, fI_setAJ, lg0]
            rw [R3.gi, R3.gl]
            have R4 := RW_rsW (s := s) R3
            have B4 := OB_rsW (s := s) B3
            generalize rsW r3 s = r4 at *
            generalize setAI (setAJ h3 (a + 24) s (gl r3 21453)) (a + 25) s (gi r3 1454) = h4 at *
            unfold rsK2b takF at H
            have T4 : ¬ (x = 1667329132 ∧ gi r4 1451 = 123) → wp (d + 4) K_X12_readStatement 296 [] [(0, vr (some a)), (1, vi (b2i (isSt r))), (2, vi (nI s)), (3, vi (nI b)), (4, vl x)] h4 Q := fun q => by
              rw [if_neg q] at H
              rw [rb_X12_readStatement_296 _ _ _ _ _ R4.1]
              refine c_take R4 B4.1 59 (fun z h3 R3 => ?_) (fun z h3 R3 => ?_)
              · rw [if_pos z] at H
                simp only [psh, bk_X12_readStatement_299, bk_X12_readStatement_389]
                exact H h3 R3
              · rw [if_neg z] at H
                simp only [psh, bk_X12_readStatement_299, bk_X12_readStatement_389]
                exact H h3 R3
            refine ⟨fun c => T4 (fun q => c q.1), fun c => ?_⟩
            have c := Classical.not_not.mp c
            rw [rb_X12_readStatement_282 _ _ _ _ _ R4.1, R4.gi]
            refine ⟨fun c2 => T4 (fun q => c2 q.2), fun c2 => ?_⟩
            rw [if_pos ⟨c, Classical.not_not.mp c2⟩] at H
            rw [rb_X12_readStatement_286 _ _ _ _ _ R4.1]
            refine c_opened R4 B4 1 (nI s) 0 (fun h5 R5 => ?_)
            simp only [psh, bk_X12_readStatement_294, bk_X12_readStatement_389]
            exact open26 r4 h4 1 R4 B4 Q H (fun _ _ _ => trivial) h5 R5
          · rw [if_pos (by rw [← ok2]; exact no)] at H
            simp only [psh, bk_X12_readStatement_264, b2i_0, bk_X12_readStatement_265]
            exact ⟨fun q => absurd trivial q, fun _ => H h3 R3⟩
        rw [rb_X12_readStatement_245 _ _ _ _ _ R1.1, lg0]
        refine ⟨fun c => ?_, fun c => ?_⟩
        · rw [bk_X12_readStatement_254, lg0]
          refine ⟨fun c2 => ?_, fun c2 => ?_⟩
          · rw [bk_X12_readStatement_260]; exact e261 1 (by rw [if_neg c, if_neg c2])
          · rw [bk_X12_readStatement_258]; exact e261 3 (by rw [if_neg c, if_pos (Classical.not_not.mp c2)])
        · rw [bk_X12_readStatement_252]; exact e261 2 (by rw [if_pos (Classical.not_not.mp c)])
      refine ⟨fun c => K2 (Or.inl c), fun c4 => ?_⟩
      rw [bk_X12_readStatement_237, lg0]
      refine ⟨fun c => K2 (Or.inr (Or.inl c)), fun c5 => ?_⟩
      rw [bk_X12_readStatement_241, lg0]
      refine ⟨fun c6 => ?_, fun c => K2 (Or.inr (Or.inr (Classical.not_not.mp c)))⟩
      rw [if_neg (by rintro (q | q | q); exact c4 q; exact c5 q; exact c6 q)] at H
      clear K2
      rw [bk_X12_readStatement_301, lg0]
      -- if, run
      have K3 : (x = 26982 ∨ x = 7501166) → wp (d + 4) K_X12_readStatement 309 [] [(0, vr (some a)), (1, vi (b2i (isSt r))), (2, vi (nI s)), (3, vi (nI b)), (4, vl x)] h1 Q := fun z => by
        rw [if_pos z] at H
        unfold rsK3 at H
        have e319 : ∀ v u, v = (if x = 26982 then (4 : Int32) else 10) → u = (if x = 26982 then (2 : Int32) else 8) → wp (d + 4) K_X12_readStatement 319 [vi v, vi (nI s), vr (fP h1 31420 a)] [(0, vr (some a)), (1, vi (b2i (isSt r))), (2, vi (nI s)), (3, vi (nI b)), (4, vl x)] h1 Q := fun v u ev eu => by
          rw [R1.1.p31420, rb_X12_readStatement_319 _ _ _ _ _ _ _ _ R1.1, nn_some]
          refine ⟨R1.1.t31420, by rw [R1.1.l31420]; simp (disch := omega) only [nI_clamp, nI_leI, nI_ltI, nI_eq, nI_add, pk_mul, vp_in_nI, nI_1, true_and, and_true, true_implies, implies_true, not_true_eq_false, not_false_eq_true, false_implies, psh, nn_some, forall_const], ?_⟩
          simp (disch := omega) only [nI_clamp, nI_leI, nI_ltI, nI_eq, nI_add, pk_mul, vp_in_nI, nI_1, true_and, and_true, true_implies, implies_true, not_true_eq_false, not_false_eq_true, false_implies, psh, nn_some, forall_const, lg0]
          rw [← ev, ← eu] at H
          have R2 := R1.AI 19 s v
          have B2 := OB_t (q := 19) (i := s) (v := v) B1
          generalize tI r1 19 s v = r2 at *
          generalize setAI h1 (a + 19) s v = h2 at *
          have e331 : wp (d + 4) K_X12_readStatement 331 [vi u, vr (some a), vi (nI s), vr (fP h2 31427 a)] [(0, vr (some a)), (1, vi (b2i (isSt r))), (2, vi (nI s)), (3, vi (nI b)), (4, vl x)] h2 Q := by
            rw [bk_X12_readStatement_331, nn_some]
            refine ⟨R2.1.1, ?_⟩
            refine c_opened R2 B2 u (nI s) 0 (fun h5 R5 => ?_)
            simp only [psh, bk_X12_readStatement_334, bk_X12_readStatement_389]
            exact open26 r2 h2 u R2 B2 Q H (fun _ _ _ => trivial) h5 R5
          refine ⟨fun c => ?_, fun c => ?_⟩
          · rw [if_neg c] at eu
            rw [bk_X12_readStatement_330, ← eu]; exact e331
          · rw [if_pos (Classical.not_not.mp c)] at eu
            rw [bk_X12_readStatement_328, ← eu]; exact e331
        rw [rb_X12_readStatement_309 _ _ _ _ _ R1.1, lg0]
        refine ⟨fun c => ?_, fun c => ?_⟩
        · rw [bk_X12_readStatement_318]; exact e319 10 8 (by rw [if_neg c]) (by rw [if_neg c])
        · rw [bk_X12_readStatement_316]; exact e319 4 2 (by rw [if_pos (Classical.not_not.mp c)]) (by rw [if_pos (Classical.not_not.mp c)])
      refine ⟨fun c => K3 (Or.inl c), fun c7 => ?_⟩
      rw [bk_X12_readStatement_305, lg0]
      refine ⟨fun c8 => ?_, fun c => K3 (Or.inr (Classical.not_not.mp c))⟩
      rw [if_neg (by rintro (q | q); exact c7 q; exact c8 q)] at H
      clear K3
      rw [bk_X12_readStatement_336, lg0]
      -- while, loop
      have K4 : (x = 512852847717 ∨ x = 1819242352) → wp (d + 4) K_X12_readStatement 344 [] [(0, vr (some a)), (1, vi (b2i (isSt r))), (2, vi (nI s)), (3, vi (nI b)), (4, vl x)] h1 Q := fun z => by
        rw [if_pos z] at H
        unfold rsK4 at H
        have e354 : ∀ v, v = (if x = 512852847717 then (5 : Int32) else 6) → wp (d + 4) K_X12_readStatement 354 [vi v, vi (nI s), vr (fP h1 31420 a)] [(0, vr (some a)), (1, vi (b2i (isSt r))), (2, vi (nI s)), (3, vi (nI b)), (4, vl x)] h1 Q := fun v ev => by
          rw [R1.1.p31420, rb_X12_readStatement_354 _ _ _ _ _ _ _ _ R1.1, nn_some]
          refine ⟨R1.1.t31420, by rw [R1.1.l31420]; simp (disch := omega) only [nI_clamp, nI_leI, nI_ltI, nI_eq, nI_add, pk_mul, vp_in_nI, nI_1, true_and, and_true, true_implies, implies_true, not_true_eq_false, not_false_eq_true, false_implies, psh, nn_some, forall_const], ?_⟩
          simp (disch := omega) only [nI_clamp, nI_leI, nI_ltI, nI_eq, nI_add, pk_mul, vp_in_nI, nI_1, true_and, and_true, true_implies, implies_true, not_true_eq_false, not_false_eq_true, false_implies, psh, nn_some, forall_const]
          rw [← ev] at H
          have R2 := R1.AI 19 s v
          have B2 := OB_t (q := 19) (i := s) (v := v) B1
          generalize tI r1 19 s v = r2 at *
          generalize setAI h1 (a + 19) s v = h2 at *
          refine c_opened R2 B2 4 (nI s) 0 (fun h5 R5 => ?_)
          simp only [psh, bk_X12_readStatement_363, bk_X12_readStatement_389]
          exact open26 r2 h2 4 R2 B2 Q H (fun _ _ _ => trivial) h5 R5
        rw [rb_X12_readStatement_344 _ _ _ _ _ R1.1, lg0]
        refine ⟨fun c => ?_, fun c => ?_⟩
        · rw [bk_X12_readStatement_353]; exact e354 6 (by rw [if_neg c])
        · rw [bk_X12_readStatement_351]; exact e354 5 (by rw [if_pos (Classical.not_not.mp c)])
      refine ⟨fun c => K4 (Or.inl c), fun c9 => ?_⟩
      rw [bk_X12_readStatement_340, lg0]
      refine ⟨fun c10 => ?_, fun c => K4 (Or.inr (Classical.not_not.mp c))⟩
      rw [if_neg (by rintro (q | q); exact c9 q; exact c10 q)] at H
      clear K4
      -- try
      unfold rsK5 at H
      rw [rb_X12_readStatement_365 _ _ _ _ _ R1.1]
      simp (disch := omega) only [nI_clamp, nI_leI, nI_ltI, nI_eq, nI_add, pk_mul, vp_in_nI, nI_1, true_and, and_true, true_implies, implies_true, not_true_eq_false, not_false_eq_true, false_implies, psh, nn_some, forall_const, fI_setAI]
      rw [R1.gi]
      have R2 := R1.AI 19 s 9
      have B2 := OB_t (q := 19) (i := s) (v := 9) B1
      have n2 : ai (tI r1 19 s 9) 29 s = nI 0 := by rw [ai_n (by decide)]; exact n1
      generalize tI r1 19 s 9 = r2 at *
      generalize setAI h1 (a + 19) s 9 = h2 at *
      have e380 : ∀ (rz : RV) (h : AH), RW rz h a → OB rz → (∀ h', RW (opB rz 26 s 5) h' a → Q none h') → wp (d + 4) K_X12_readStatement 380 [] [(0, vr (some a)), (1, vi (b2i (isSt r))), (2, vi (nI s)), (3, vi (nI b)), (4, vl x)] h Q := fun rz h R B H => by
        rw [rb_X12_readStatement_380 _ _ _ _ _ R.1]
        refine c_opened R B 5 (nI s) 0 (fun h5 R5 => ?_)
        simp only [psh, bk_X12_readStatement_388, bk_X12_readStatement_389]
        exact open26 rz h 5 R B Q H (fun _ _ _ => trivial) h5 R5
      refine ⟨fun c => ?_, fun c => ?_⟩
      · rw [if_neg c] at H
        exact e380 r2 h2 R2 B2 H
      · rw [if_pos (Classical.not_not.mp c)] at H
        rw [rb_X12_readStatement_374 _ _ _ _ _ R2.1]
        obtain ⟨k1, k2, k3⟩ := nl_keep (qc := 29) (qw := 30) (qa := 31) (i := s) (sep := 44) (by decide) (by decide) 5 r2
        refine c_areNames (by omega) 41 R2 B2.1 n2 (fun h' e R' => ?_) (fun h' e R' => ?_)
        · rw [if_pos e] at H
          simp only [psh, bk_X12_readStatement_378, b2i_0, bk_X12_readStatement_379]
          exact ⟨fun q => absurd trivial q, fun _ => H h' R'⟩
        · rw [if_neg (by rw [e]; decide)] at H
          simp only [psh, bk_X12_readStatement_378, b2i_0]
          refine ⟨fun _ => ?_, fun q => absurd (Classical.not_not.mp q) (by decide)⟩
          refine e380 _ h' R' ?_ H
          unfold arF takF
          split
          · exact k1 B2
          · show OB (if _ then advF _ else faiF _)
            split
            · exact OB_adv (k1 B2)
            · exact OB_of (k1 B2) (PT_fai (k1 B2).1) (gi_fai _) (gi_fai _) rfl
    · rw [if_pos (Classical.not_not.mp z)] at H
      rw [rb_X12_readStatement_179 _ _ _ _ R.1]
      simp (disch := omega) only [nI_clamp, nI_leI, nI_ltI, nI_eq, nI_add, pk_mul, vp_in_nI, nI_1, true_and, and_true, true_implies, implies_true, not_true_eq_false, not_false_eq_true, false_implies, psh, nn_some, forall_const]
      have R2 := R.AI 19 s 11
      have B2 := OB_t (q := 19) (i := s) (v := 11) B
      generalize tI rA 19 s 11 = r2 at *
      generalize setAI h (a + 19) s 11 = h2 at *
      refine c_opened R2 B2 9 (nI s) 0 (fun h5 R5 => ?_)
      simp only [psh, bk_X12_readStatement_192]
      exact open26 r2 h2 9 R2 B2 Q H (fun _ _ _ => trivial) h5 R5
  have fin : ∀ (h : AH) (rX : RV), rX = (if ai r3 45 b = -1 then tI r3 44 b (nI s) else tI r3 23 (tn (ai r3 45 b)) (nI s)) → RW rX h a → wp (d + 4) K_X12_readStatement 170 [] [(0, vr (some a)), (1, vi (b2i (isSt r))), (2, vi (nI s)), (3, vi (nI b))] h Q := by
    intro h rX eX RX
    rw [rb_X12_readStatement_170 _ _ _ _ RX.1]
    simp (disch := omega) only [nI_clamp, nI_leI, nI_ltI, nI_eq, nI_add, pk_mul, vp_in_nI, nI_1, true_and, and_true, true_implies, implies_true, not_true_eq_false, not_false_eq_true, false_implies, psh, nn_some, forall_const, fI_setAI]
    have R4 := RX.AI 45 b (nI s)
    have e4 : tI rX 45 b (nI s) = rsA r := by rw [eA, eX]; rfl
    rw [e4] at R4
    have g4 : gi (rsA r) 1451 = gi r 1451 := by rw [gi_rsA]
    have a4 : ai (rsA r) 29 s = nI 0 := by
      rw [← e4, ai_n (by decide), eX]
      split
      · rw [ai_n (by decide)]; exact a29
      · rw [ai_n (by decide)]; exact a29
    have B4 : OB (rsA r) := by rw [eA]; exact OB_rsL B3
    have gX : fI h 1451 a = gi (rsA r) 1451 := by
      rw [← e4]; exact RX.gi 1451
    rw [gX]
    exact G _ R4 B4 g4 (by rw [gl_rsA]) a4
  refine ⟨fun c => ?_, fun c => ?_⟩
  · have hx : idx (ai r 45 b) 240 := by
      rcases he with he | he
      · exact absurd he c
      · exact he
    have hx2 := hx.2
    rw [rb_X12_readStatement_162 _ _ _ _ R3.1]
    simp (disch := omega) only [nI_clamp, nI_leI, nI_ltI, nI_eq, nI_add, pk_mul, vp_in_nI, nI_1, true_and, and_true, true_implies, implies_true, not_true_eq_false, not_false_eq_true, false_implies, psh, nn_some, forall_const]
    rw [R3.ai, d45'', hx.1]
    simp (disch := omega) only [nI_clamp, nI_leI, nI_ltI, nI_eq, nI_add, pk_mul, vp_in_nI, nI_1, true_and, and_true, true_implies, implies_true, not_true_eq_false, not_false_eq_true, false_implies, psh, nn_some, forall_const]
    refine fin _ (tI r3 23 (tn (ai r 45 b)) (nI s)) ?_ (R3.AI 23 _ _)
    rw [if_neg (by rw [d45'']; exact c), d45'']
  · have c := Classical.not_not.mp c
    rw [rb_X12_readStatement_156 _ _ _ _ R3.1]
    simp (disch := omega) only [nI_clamp, nI_leI, nI_ltI, nI_eq, nI_add, pk_mul, vp_in_nI, nI_1, true_and, and_true, true_implies, implies_true, not_true_eq_false, not_false_eq_true, false_implies, psh, nn_some, forall_const]
    refine fin _ (tI r3 44 b (nI s)) ?_ (R3.AI 44 _ _)
    rw [if_pos (by rw [d45'']; exact c)]
end
