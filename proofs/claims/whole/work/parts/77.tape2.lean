/-! The class's tape goes on to the next token as the reference does -/
/-- the class's token is the reference's -/
def TK (h : AH) (T : Nat) (r : RV) : Prop := TS h T (ai r 1) (tn (gi r 1448)) ∧ fI h 905 T = gi r 1449 ∧ fI h 904 T = nI (tkn r) ∧ (¬ gi r 1451 = -1 → fI h 903 T = gi r 1447) ∧ (gi r 1451 = 0 → fJ h 20906 T = conv (gl r 21450))
/-- what is known of the reference's token -/
def RT (r : RV) : Prop := PT r ∧ (∃ q, gi r 1449 = nI q ∧ q ≤ tn (gi r 1447) ∧ (¬ gi r 1451 = -1 → q < tn (gi r 1447)) ∧ (gi r 1451 = -1 → q = tn (gi r 1448))) ∧ (gi r 1451 = 0 → WV (gl r 21450) ∧ ¬ gl r 21450 = 0) ∧ (¬ gi r 1451 = 0 → gl r 21450 = 0) ∧ (gi r 1451 = 0 ∨ gi r 1451 = -1 ∨ gi r 1451 = -2 ∨ isSg (gi r 1451) = true)
theorem isSg_sgT {x : Int32} (h : isSg x = true) : ¬ sgT x = 29 ∧ ¬ sgT x = 28 := by
  unfold isSg at h
  rcases of_decide_eq_true h with h | h | h | h | h | h | h <;> subst h <;> decide
theorem nSg_sgT {b : Nat} (hb : b < 256) (h : isSg (nI b) = false) : sgT (nI b) = 29 := by
  have : ∀ b, b < 256 → isSg (nI b) = false → sgT (nI b) = 29 := by decide +kernel
  exact this b hb h
theorem RT_adv {r : RV} (P : PT r) : RT (advF r) := by
  have PA := PT_adv P
  obtain ⟨p, n, hp, hn, h1, h2⟩ := P
  have eF : advF r = tokP r (ai r 1) n (skB (ai r 1) (n - p) p) := by
    unfold advF
    rw [hp, hn, tn_nI (by omega), tn_nI (by omega)]
  have b := skB_le (ai r 1) (n - p) p
  have e8 : tn (gi (advF r) 1448) = n := by rw [gi_adv, hn, tn_nI (by omega)]
  generalize skB (ai r 1) (n - p) p = q at eF b
  have l := lwE_le (ai r 1) (n - q) q
  refine ⟨PA, ?_⟩
  rw [e8]
  clear PA e8
  rw [eF]
  unfold tokP
  by_cases c : q = n
  · rw [if_pos c]
    refine ⟨⟨q, rfl, ?_, fun z => absurd rfl z, fun _ => c⟩, fun z => absurd (show (-1 : Int32) = 0 from z) (by decide), fun _ => rfl, Or.inr (Or.inl rfl)⟩
    show q ≤ tn (nI q)
    rw [tn_nI (by omega)]
    exact Nat.le_refl _
  · rw [if_neg c]
    by_cases c2 : isLe (ai r 1 q) = true
    · rw [if_pos c2]
      have ee : q + 1 ≤ lwE (ai r 1) (n - q) q := by
        obtain ⟨f, hf⟩ : ∃ f, n - q = f + 1 := ⟨n - q - 1, by omega⟩
        rw [hf, lwE, if_pos c2]
        exact (lwE_le _ _ _).1
      by_cases c3 : lwE (ai r 1) (n - q) q - q ≤ 8
      · rw [if_pos c3]
        refine ⟨⟨q, rfl, ?_, fun _ => ?_, fun z => absurd (show (0 : Int32) = -1 from z) (by decide)⟩, fun _ => ?_, fun z => absurd rfl z, Or.inl rfl⟩
        · show q ≤ tn (nI _)
          rw [tn_nI (by omega)]; omega
        · show q < tn (nI _)
          rw [tn_nI (by omega)]; omega
        · obtain ⟨a', q1, q2, -, q4, -⟩ := lw_both (ai r 1) (n - q) q 0 0 rfl (by omega)
          show WV (lwW (ai r 1) (n - q) q 0) ∧ ¬ lwW (ai r 1) (n - q) q 0 = 0
          rw [show (0 : Int64) = lN 0 from rfl, q2]
          refine ⟨⟨a', q1, rfl⟩, fun z => ?_⟩
          rw [pk_lEQ (vd8_lt q1) (by decide)] at z
          rcases q4 rfl with y | y
          · omega
          · omega
      · rw [if_neg c3]
        refine ⟨⟨q, rfl, ?_, fun _ => ?_, fun z => absurd (show (-2 : Int32) = -1 from z) (by decide)⟩, fun z => absurd (show (-2 : Int32) = 0 from z) (by decide), fun _ => rfl, Or.inr (Or.inr (Or.inl rfl))⟩
        · show q ≤ tn (nI _)
          rw [tn_nI (by omega)]; omega
        · show q < tn (nI _)
          rw [tn_nI (by omega)]; omega
    · rw [if_neg c2]
      have sg : ∀ v : Int32, v = (if isSg (ai r 1 q) then ai r 1 q else -2) → ¬ v = -1 ∧ ¬ v = 0 ∧ (v = -2 ∨ isSg v = true) := fun v ev => by
        by_cases c4 : isSg (ai r 1 q) = true
        · rw [if_pos c4] at ev
          rw [ev]
          refine ⟨fun z => ?_, fun z => ?_, Or.inr c4⟩
          · rw [z] at c4; exact absurd c4 (by decide)
          · rw [z] at c4; exact absurd c4 (by decide)
        · rw [if_neg c4] at ev
          rw [ev]
          exact ⟨by decide, by decide, Or.inl rfl⟩
      obtain ⟨s1, s2, s3⟩ := sg _ rfl
      refine ⟨⟨q, rfl, ?_, fun _ => ?_, fun z => absurd z s1⟩, fun z => absurd z s2, fun _ => rfl, ?_⟩
      · show q ≤ tn (nI (q + 1))
        rw [tn_nI (by omega)]; omega
      · show q < tn (nI (q + 1))
        rw [tn_nI (by omega)]; omega
      · rcases s3 with s3 | s3
        · exact Or.inr (Or.inr (Or.inl s3))
        · exact Or.inr (Or.inr (Or.inr s3))
section
variable {d : Nat} {h : AH} {Q : Option V → AH → Prop} {T : Nat} {r : RV}
theorem p_advance (S : TS h T (ai r 1) (tn (gi r 1448))) (P : PT r) (h3 : fI h 903 T = gi r 1447) (H : ∀ h', TW T h h' → TK h' T (advF r) → Q none h') : wp (d + 5) K_X7_advance 0 [] [(0, vr (some T))] h Q := by
  obtain ⟨p, n, hp, hn, h1, h2⟩ := P
  have e8 : tn (gi r 1448) = n := by rw [hn, tn_nI (by omega)]
  have eF : advF r = tokP r (ai r 1) n (skB (ai r 1) (n - p) p) := by
    unfold advF
    rw [hp, hn, tn_nI (by omega), tn_nI (by omega)]
  have aA : ai (advF r) = ai r := ai_adv r
  have gA : tn (gi (advF r) 1448) = n := by rw [gi_adv]; exact e8
  rw [e8] at S
  rw [hp] at h3
  generalize et : ai r 1 = t at *
  -- the end: what TK asks
  have fin : ∀ h', TW T h h' → fI h' 905 T = gi (advF r) 1449 → fI h' 904 T = nI (tkn (advF r)) → (¬ gi (advF r) 1451 = -1 → fI h' 903 T = gi (advF r) 1447) → (gi (advF r) 1451 = 0 → fJ h' 20906 T = conv (gl (advF r) 21450)) → Q none h' := fun h' w q1 q2 q3 q4 => by
    refine H h' w ⟨?_, q1, q2, q3, q4⟩
    rw [aA, gA, et]
    exact S.tw w
  have st : ∀ (h' : AH), TW T h h' → TS h' T t n := fun h' w => S.tw w
  have tag : ∀ (h' : AH), TW T h h' → tg h' T = 10 := fun h' w => (S.tw w).1
  have ln2 : ∀ (h' : AH), TW T h h' → fI h' 902 T = nI n := fun h' w => (S.tw w).2.2.2.2.2.2.2.2.1
  -- from the place on
  have T1 : ∀ q (h1 : AH), q ≤ n → advF r = tokP r t n q → TW T h h1 → fI h1 903 T = nI q → wp (d + 5) K_X7_advance 18 [] [(0, vr (some T))] h1 Q := by
    intro q h1 hq eF w1 e3
    rw [bk_X7_advance_18, e3]
    refine ⟨tag h1 w1, tag h1 w1, tag h1 w1, ?_⟩
    have w2 : TW T h (setFJ (setFI h1 905 T (nI q)) 20906 T 0) := w1.tr ((TW.FI (by decide)).tr (TW.FJ (by decide)))
    have g5 : fI (setFJ (setFI h1 905 T (nI q)) 20906 T 0) 905 T = nI q := fFI_same _ _ _ _
    have g3 : fI (setFJ (setFI h1 905 T (nI q)) 20906 T 0) 903 T = nI q := by
      rw [fI_setFJ, fI_setFI, if_neg (fun z => absurd z.1 (by decide))]; exact e3
    have g6 : fJ (setFJ (setFI h1 905 T (nI q)) 20906 T 0) 20906 T = lN 0 := by
      rw [fJ_setFJ, if_pos ⟨rfl, rfl⟩]; rfl
    generalize setFJ (setFI h1 905 T (nI q)) 20906 T 0 = h2 at *
    -- the letters
    have L : ∀ f e x (h2 : AH), e + f = n → q ≤ e → TW T h h2 → fI h2 905 T = nI q → fI h2 903 T = nI e → fJ h2 20906 T = x → (∀ h', TW T h h' → fI h' 905 T = nI q → fI h' 903 T = nI (lwE t f e) → fJ h' 20906 T = lw5 t f e x → wp (d + 5) K_X7_advance 52 [] [(0, vr (some T))] h' Q) → wp (d + 5) K_X7_advance 25 [] [(0, vr (some T))] h2 Q := by
      intro f
      induction f with
      | zero =>
        intro e x h2 he hqe w2 g5 g3 g6 G
        rw [bk_X7_advance_25, ln2 h2 w2, g3]
        simp (disch := omega) only [nI_clamp, nI_leI, nI_ltI, nI_eq, nI_add, pk_mul, vp_in_nI, nI_1, true_and, and_true, true_implies, implies_true, not_true_eq_false, not_false_eq_true, false_implies, psh, nn_some, forall_const, tag h2 w2, show n ≤ e by omega]
        exact G h2 w2 g5 g3 g6
      | succ f ih =>
        intro e x h2 he hqe w2 g5 g3 g6 G
        rw [bk_X7_advance_25, ln2 h2 w2, g3]
        simp (disch := omega) only [nI_clamp, nI_leI, nI_ltI, nI_eq, nI_add, pk_mul, vp_in_nI, nI_1, true_and, and_true, true_implies, implies_true, not_true_eq_false, not_false_eq_true, false_implies, psh, nn_some, forall_const, tag h2 w2, show ¬ n ≤ e by omega]
        rw [bk_X7_advance_30, g3, p_byteAt (st h2 w2) (by omega), if_pos (by omega)]
        refine ⟨tag h2 w2, tag h2 w2, ?_⟩
        simp only [psh, bk_X7_advance_34]
        rw [p_isLetter]
        simp only [psh, bk_X7_advance_35, b2i_0]
        rw [lwE, lw5] at G
        refine ⟨fun z => ?_, fun z => ?_⟩
        · simp only [z, Bool.false_eq_true, if_false] at G
          exact G h2 w2 g5 g3 g6
        · simp only [bt z, if_true] at G
          rw [bk_X7_advance_36, g3, g6, p_byteAt (st h2 w2) (by omega), if_pos (by omega)]
          refine ⟨tag h2 w2, tag h2 w2, tag h2 w2, ?_⟩
          simp only [psh, bk_X7_advance_43, bk_X7_withLetter_0, bk_X7_advance_44, nn_some]
          refine ⟨tag h2 w2, tag h2 w2, tag h2 w2, ?_⟩
          have k3 : fI (setFJ h2 20906 T (x * 32 + Int32.toInt64 (t e - 97 + 1))) 903 T = nI e := g3
          rw [k3, nI_1]
          refine ih (e + 1) (wd5 x (t e)) _ (by omega) (by omega) (w2.tr ((TW.FJ (by decide)).tr (TW.FI (by decide)))) ?_ (fFI_same _ _ _ _) ?_ G
          · rw [fI_setFI, if_neg (fun z => absurd z.1 (by decide))]; exact g5
          · show fJ (setFJ h2 20906 T _) 20906 T = _
            rw [fJ_setFJ, if_pos ⟨rfl, rfl⟩]; rfl
    refine L (n - q) q (lN 0) h2 (by omega) (Nat.le_refl _) w2 g5 g3 g6 (fun h4 w4 k5 k3 k6 => ?_)
    have l := lwE_le t (n - q) q
    rw [bk_X7_advance_52, k3, k5]
    simp (disch := omega) only [nI_clamp, nI_leI, nI_ltI, nI_eq, nI_add, pk_mul, vp_in_nI, nI_1, true_and, and_true, true_implies, implies_true, not_true_eq_false, not_false_eq_true, false_implies, psh, nn_some, forall_const, tag h4 w4]
    refine ⟨fun z => ?_, fun z => ?_⟩
    · -- no letter
      have z : lwE t (n - q) q = q := by omega
      rw [z] at k3
      rw [bk_X7_advance_62, k3, p_byteAt (st h4 w4) (by omega)]
      refine ⟨tag h4 w4, tag h4 w4, ?_⟩
      simp only [psh, bk_X7_advance_67]
      have hb : (if q < n then t q else -1) = -1 ∨ ∃ b, b < 256 ∧ (if q < n then t q else -1) = nI b := by
        by_cases c : q < n
        · rw [if_pos c]; exact Or.inr ((S.2.2.2.2.2.2.2.2.2.2.1 q c).2)
        · rw [if_neg c]; exact Or.inl rfl
      rw [p_sign (st h4 w4) hb]
      simp only [psh, bk_X7_advance_68, nn_some]
      refine ⟨tag h4 w4, tag h4 w4, tag h4 w4, ?_⟩
      rw [bk_X7_advance_75]
      have m3 : fI (setFI h4 904 T (nI (sgT (if q < n then t q else -1)))) 903 T = nI q := by
        rw [fI_setFI, if_neg (fun z => absurd z.1 (by decide))]; exact k3
      rw [m3, nI_1]
      have f5 : fI (setFI (setFI h4 904 T (nI (sgT (if q < n then t q else -1)))) 903 T (nI (q + 1))) 905 T = nI q := by
        rw [fI_setFI, if_neg (fun z => absurd z.1 (by decide)), fI_setFI, if_neg (fun z => absurd z.1 (by decide))]; exact k5
      have f4 : fI (setFI (setFI h4 904 T (nI (sgT (if q < n then t q else -1)))) 903 T (nI (q + 1))) 904 T = nI (sgT (if q < n then t q else -1)) := by
        rw [fI_setFI, if_neg (fun z => absurd z.1 (by decide)), fI_setFI, if_pos ⟨rfl, rfl⟩]
      have f3 : fI (setFI (setFI h4 904 T (nI (sgT (if q < n then t q else -1)))) 903 T (nI (q + 1))) 903 T = nI (q + 1) := fFI_same _ _ _ _
      have wF : TW T h (setFI (setFI h4 904 T (nI (sgT (if q < n then t q else -1)))) 903 T (nI (q + 1))) := w4.tr ((TW.FI (by decide)).tr (TW.FI (by decide)))
      generalize setFI (setFI h4 904 T (nI (sgT (if q < n then t q else -1)))) 903 T (nI (q + 1)) = h5 at *
      rw [eF] at fin
      unfold tokP at fin
      by_cases c : q = n
      · rw [if_pos c] at fin
        rw [if_neg (by omega)] at f4
        exact fin h5 wF f5 f4 (fun z => absurd rfl z) (fun z => absurd (show (-1 : Int32) = 0 from z) (by decide))
      · rw [if_neg c] at fin
        have c2 : ¬ isLe (t q) = true := fun y => by
          obtain ⟨f, hf⟩ : ∃ f, n - q = f + 1 := ⟨n - q - 1, by omega⟩
          rw [hf, lwE, if_pos y] at z
          have := (lwE_le t f (q + 1)).1
          omega
        rw [if_neg c2] at fin
        rw [if_pos (by omega)] at f4
        obtain ⟨b, hb1, hb2⟩ := (S.2.2.2.2.2.2.2.2.2.2.1 q (by omega)).2
        refine fin h5 wF f5 ?_ (fun _ => f3) ?_
        · rw [f4]
          unfold tkn
          show nI (sgT (t q)) = nI (if (if isSg (t q) = true then t q else -2) = 0 then kwI 0 else sgT (if isSg (t q) = true then t q else -2))
          by_cases c3 : isSg (t q) = true
          · rw [if_pos c3, if_neg (fun y => by rw [y] at c3; exact absurd c3 (by decide))]
          · rw [if_neg c3, if_neg (by decide)]
            rw [hb2] at c3 ⊢
            rw [nSg_sgT hb1 (Bool.eq_false_iff.mpr c3)]
            rfl
        · intro y
          have y : (if isSg (t q) = true then t q else -2) = 0 := y
          by_cases c3 : isSg (t q) = true
          · rw [if_pos c3] at y; rw [y] at c3; exact absurd c3 (by decide)
          · rw [if_neg c3] at y; exact absurd y (by decide)
    · -- letters
      have z : q < lwE t (n - q) q := by omega
      have c : ¬ q = n := by omega
      have c2 : isLe (t q) = true := by
        by_cases y : isLe (t q) = true
        · exact y
        · obtain ⟨f, hf⟩ : ∃ f, n - q = f + 1 := ⟨n - q - 1, by omega⟩
          rw [hf, lwE, if_neg y] at z
          omega
      rw [eF] at fin
      unfold tokP at fin
      rw [if_neg c, if_pos c2] at fin
      rw [bk_X7_advance_57]
      refine ⟨tag h4 w4, ?_⟩
      by_cases c8 : lwE t (n - q) q - q ≤ 8
      · obtain ⟨a', q1, q2, q3, -, -⟩ := lw_both t (n - q) q 0 0 rfl (by omega)
        have q3 : lw5 t (n - q) q (lN 0) = lN (cv 8 a') := q3
        rw [p_word (st h4 w4) k5 k3 (by omega) (by omega) (a := a') (fun _ => ⟨q1, by rw [k6, q3]⟩), if_pos c8]
        rw [if_pos c8, show (0 : Int64) = lN 0 from rfl, q2] at fin
        simp only [psh, bk_X7_advance_60, nn_some, bk_X7_advance_75]
        refine ⟨tag h4 w4, fin _ (w4.tr (TW.FI (by decide))) ?_ ?_ (fun _ => ?_) (fun _ => ?_)⟩
        · rw [fI_setFI, if_neg (fun z => absurd z.1 (by decide))]; exact k5
        · rw [fFI_same]; rfl
        · rw [fI_setFI, if_neg (fun z => absurd z.1 (by decide))]; exact k3
        · show fJ h4 20906 T = conv (lN a')
          rw [k6, q3, conv_lN q1]
      · rw [p_word (st h4 w4) k5 k3 (by omega) (by omega) (a := 0) (fun y => absurd y c8), if_neg c8]
        rw [if_neg c8] at fin
        simp only [psh, bk_X7_advance_60, nn_some, bk_X7_advance_75]
        refine ⟨tag h4 w4, fin _ (w4.tr (TW.FI (by decide))) ?_ ?_ (fun _ => ?_) (fun y => absurd (show (-2 : Int32) = 0 from y) (by decide))⟩
        · rw [fI_setFI, if_neg (fun z => absurd z.1 (by decide))]; exact k5
        · rw [fFI_same]; rfl
        · rw [fI_setFI, if_neg (fun z => absurd z.1 (by decide))]; exact k3
  -- the blanks
  have L0 : ∀ f q (h1 : AH), q + f = n → TW T h h1 → fI h1 903 T = nI q → advF r = tokP r t n (skB t f q) → wp (d + 5) K_X7_advance 0 [] [(0, vr (some T))] h1 Q := by
    intro f
    induction f with
    | zero =>
      intro q h1 hq w1 e3 eF
      rw [bk_X7_advance_0, ln2 h1 w1, e3]
      simp (disch := omega) only [nI_clamp, nI_leI, nI_ltI, nI_eq, nI_add, pk_mul, vp_in_nI, nI_1, true_and, and_true, true_implies, implies_true, not_true_eq_false, not_false_eq_true, false_implies, psh, nn_some, forall_const, tag h1 w1, show n ≤ q by omega]
      exact T1 q h1 (by omega) eF w1 e3
    | succ f ih =>
      intro q h1 hq w1 e3 eF
      rw [bk_X7_advance_0, ln2 h1 w1, e3]
      simp (disch := omega) only [nI_clamp, nI_leI, nI_ltI, nI_eq, nI_add, pk_mul, vp_in_nI, nI_1, true_and, and_true, true_implies, implies_true, not_true_eq_false, not_false_eq_true, false_implies, psh, nn_some, forall_const, tag h1 w1, show ¬ n ≤ q by omega]
      rw [bk_X7_advance_5, e3, p_byteAt (st h1 w1) (by omega), if_pos (by omega)]
      refine ⟨tag h1 w1, tag h1 w1, ?_⟩
      simp only [psh, bk_X7_advance_9]
      rw [p_isBlank]
      simp only [psh, bk_X7_advance_10, b2i_0]
      rw [skB] at eF
      refine ⟨fun z => ?_, fun z => ?_⟩
      · simp only [z, Bool.false_eq_true, if_false] at eF
        exact T1 q h1 (by omega) eF w1 e3
      · simp only [bt z, if_true] at eF
        rw [bk_X7_advance_11, e3, nI_1]
        exact ⟨tag h1 w1, tag h1 w1, ih (q + 1) _ (by omega) (w1.tr (TW.FI (by decide))) (fFI_same _ _ _ _) eF⟩
  exact L0 (n - p) p h (by omega) TW.rf h3 eF
end
