/-! Lists grow -/
section
variable {d : Nat} {h : AH} {Q : Option V → AH → Prop} {e0 L e n : Nat} {f : Nat → Nat}
/-- a full list grows -/
theorem l_grow (S : STK h e0) (A : AL h e0 L e n f) (full : n = ln h e) (hn : n < 2 ^ 20) (r1 : 1 ≤ rc h) (r2 : 2 * n + 10 ≤ rs h)
    (H : ∀ h' e', AL h' e0 L e' n f → n < ln h' e' → tg h' e' = 109 → e' = tp h → tp h' = tp h + 1 → rc h + ln h e ≤ rc h' + ln h' e' → rs h + 4 * ln h e ≤ rs h' + 4 * ln h' e' → FX (EL L e) h h' → Q (some (vr (some e'))) h') : wp (d + 4) K_Jx4a65c_grow_d5877 0 [] [(0, vr (some L))] h Q := by
  obtain ⟨a1, a2, a3, a4, a5, a6, a7, a8, a9⟩ := A
  have arr : tg h e = 151 ∨ fI h 9901 e = 152 ∨ fI h 9901 e = 153 ∨ tg h e = 101 ∨ tg h e = 102 ∨ tg h e = 103 ∨ tg h e = 104 ∨ tg h e = 109 := by
    rcases a8 with q | q
    · exact Or.inr (Or.inr (Or.inr (Or.inr (Or.inr (Or.inr (Or.inr q.1))))))
    · exact Or.inr (Or.inr (Or.inl (by rw [q.1]; exact S.2.1)))
  rw [bk_Jx4a65c_grow_d5877_0, a5, nI_1]
  refine ⟨a1, a1, ?_⟩
  rw [bk_Jx4a65c_grow_92f84_0, a3, nn_some]
  refine ⟨a1, arr, ?_⟩
  rw [← full, show Int32.ofNat n = nI n from rfl, lt0]
  simp (disch := omega) only [nI_clamp, nI_leI, nI_ltI, nI_eq, nI_add, pk_mul, vp_in_nI, nI_1, true_and, and_true, true_implies, implies_true, not_true_eq_false, not_false_eq_true, false_implies, psh, nn_some, forall_const]
  -- what follows once the new array is there
  have fin : ∀ (h1 h2 : AH) c, h1 = newA h 9 c → FX (fun g x => False) h1 h2 ∨ (∃ i, h2 = cpyP h1 e 0 (tp h) 0 i ∧ n ≤ i) → rs h2 = rs h1 → rc h2 = rc h1 → tp h2 = tp h1 → n < c → c ≤ 2 * n + 10 → 10 ≤ c → 4 * n ≤ 3 * c → (n = 0 ∨ ∀ i, i < n → aP h2 (tp h) i = some (f i)) → Q (some (vr (some (tp h)))) (setFP h2 30101 L (some (tp h))) := by
    intro h1 h2 c e1 e2 s1 s2 s3 c1 c2 c3 c4 cp
    have x1 : FX (EL L e) h h1 := by rw [e1]; exact FX.A
    have g1 : tg h1 (tp h) = 109 := by rw [e1]; show (if tp h = tp h then 100 + 9 else _) = _; rw [if_pos rfl]
    have g2 : ln h1 (tp h) = c := by rw [e1]; show (if tp h = tp h then c else _) = _; rw [if_pos rfl]
    have g3 : tp h1 = tp h + 1 := by rw [e1]; rfl
    have g4 : rc h1 = rc h - 1 := by rw [e1]; rfl
    have g5 : rs h1 = rs h - c := by rw [e1]; rfl
    have x2 : FX (fun g x => g = 90003 ∧ x = tp h) h1 h2 := by
      rcases e2 with q | ⟨i, q, -⟩
      · exact q.mono (fun _ _ z => z.elim)
      · rw [q]; exact FX.C ⟨rfl, rfl⟩
    have x3 : FX (EL L e) h1 (setFP h2 30101 L (some (tp h))) ∨ True := Or.inr trivial
    have x4 : FX (fun g x => EL L e g x ∨ (g = 90003 ∧ x = tp h)) h (setFP h2 30101 L (some (tp h))) := by
      refine FX.tr (x1.mono (fun _ _ z => Or.inl z)) (FX.tr (x2.mono (fun _ _ z => Or.inr z)) (FX.FP (Or.inl (Or.inl ⟨rfl, Or.inr (Or.inr rfl)⟩))))
    have x5 : FX (EL L e) h (setFP h2 30101 L (some (tp h))) := x4.less (fun g x hx z => by
        rcases z with z | ⟨z, z2⟩
        · exact z
        · rcases hx with hx | hx
          · omega
          · rw [z] at hx; exact absurd hx (by decide)) (fun x hx z => by
        rcases z with z | ⟨z, -⟩
        · exact z
        · exact absurd z (by decide)) (fun x hx z => by
        rcases z with z | ⟨-, z⟩
        · exact z
        · omega)
    have lh : tp (setFP h2 30101 L (some (tp h))) = tp h2 := rfl
    have rh : rc (setFP h2 30101 L (some (tp h))) = rc h2 := rfl
    have sh : rs (setFP h2 30101 L (some (tp h))) = rs h2 := rfl
    have l2 : ln (setFP h2 30101 L (some (tp h))) (tp h) = c := by
      show ln h2 (tp h) = c
      rw [x2.ln (by omega)]; exact g2
    have t2 : tg (setFP h2 30101 L (some (tp h))) (tp h) = 109 := by
      show tg h2 (tp h) = 109
      rw [x2.tg (by omega)]; exact g1
    refine H _ (tp h) ⟨?_, ?_, ?_, ?_, ?_, ?_, ?_, ?_, fun i hi => ?_⟩ (by rw [l2]; exact c1) t2 rfl (by rw [lh, s3, g3]) (by rw [l2, rh, s2, g4]; omega) (by rw [l2, sh, s1, g5]; omega) x5
    · rw [x5.tg a2]; exact a1
    · rw [lh, s3, g3]; omega
    · show (if 30101 = 30101 ∧ L = L then some (tp h) else _) = _
      rw [if_pos ⟨rfl, rfl⟩]
    · rw [lh, s3, g3]; omega
    · show fI h2 102 L = _
      have : fI (setFP h2 30101 L (some (tp h))) 102 L = fI h2 102 L := rfl
      rw [← this]
      have q := (x2.fI (f := 102) (x := L) (by omega) (fun z => absurd z.1 (by decide)))
      rw [this, q]
      have q2 : fI h1 102 L = fI h 102 L := by rw [e1]; rfl
      rw [q2]; exact a5
    · rw [l2]; omega
    · rw [l2]; omega
    · rw [l2]; exact Or.inl ⟨t2, c3⟩
    · obtain ⟨b1, b2, b3⟩ := a9 i hi
      rcases cp with q | q
      · omega
      · refine ⟨q i hi, ?_, by rw [lh, s3, g3]; omega⟩
        rw [x5.tg b3]; exact b2
  refine ⟨fun c => ?_, fun c => ?_⟩
  · -- a list that holds something
    have t9 : tg h e = 109 ∧ 10 ≤ ln h e := by
      rcases a8 with q | q
      · exact q
      · omega
    rw [bk_Jx4a65c_grow_92f84_10, pk_sub (by omega), show n + 1 - n = 1 by omega]
    have es : nI n >>> (1 &&& 31 : Int32) = nI (n / 2) := pk_shrN (by omega) _ 1 (by decide)
    rw [es, bk_J8_newLength_cabcc_0]
    have emax : (if nI 1 < nI (n / 2) then nI (n / 2) else nI 1) = nI (n / 2) := by
      exact if_pos (by rw [nI_ltI (by omega) (by omega)]; omega)
    rw [emax, nI_add, bk_J8_newLength_cabcc_9]
    have le0 : ¬ nI (n + n / 2) ≤ 0 := nI_nle (by omega) (by omega)
    have big : ¬ (2147483639 : Int32) < nI (n + n / 2) := by
      rw [show (2147483639 : Int32) = nI 2147483639 from rfl, nI_ltI (by omega) (by omega)]
      omega
    refine ⟨fun q => absurd q le0, fun _ => ⟨fun q => absurd q big, fun _ => ?_⟩⟩
    rw [bk_J8_newLength_cabcc_12]
    simp only [psh, bk_Jx4a65c_grow_92f84_18]
    rw [a3]
    refine ⟨a1, ?_⟩
    rw [bk_J7_copyOf_1904c_0, nn_some]
    refine ⟨t9.1, ?_⟩
    rw [bk_J7_copyOf_6403c_0]
    refine ⟨fun q => absurd rfl q, fun _ => ?_⟩
    rw [bk_J7_copyOf_6403c_3]
    simp (disch := omega) only [nI_clamp, nI_leI, nI_ltI, nI_eq, nI_add, pk_mul, vp_in_nI, nI_1, true_and, and_true, true_implies, implies_true, not_true_eq_false, not_false_eq_true, false_implies, psh, nn_some, forall_const]
    refine ⟨nI_pos' (by omega), by omega, by omega, ?_⟩
    rw [bk_J7_copyOf_6403c_5, bk_J7_copyOf_6403c_11, nn_some, nn_some, nn_some]
    have te : tg (newA h 9 (n + n / 2)) e = 109 := by
      have : FX (fun g x => False) h (newA h 9 (n + n / 2)) := FX.A
      rw [this.tg a4]; exact t9.1
    have tt : tg (newA h 9 (n + n / 2)) (tp h) = 109 := by show (if tp h = tp h then 100 + 9 else _) = _; rw [if_pos rfl]
    have le : ln (newA h 9 (n + n / 2)) e = n := by
      have : FX (fun g x => False) h (newA h 9 (n + n / 2)) := FX.A
      rw [this.ln a4]; exact full.symm
    have lt : ln (newA h 9 (n + n / 2)) (tp h) = n + n / 2 := by show (if tp h = tp h then n + n / 2 else _) = _; rw [if_pos rfl]
    rw [le, lt, show Int32.ofNat n = nI n from rfl]
    have emin : (if nI (n + n / 2) < nI n then nI (n + n / 2) else nI n) = nI n := by
      exact if_neg (by rw [nI_ltI (by omega) (by omega)]; omega)
    rw [emin, nI_clamp (by omega), show (0 : Int32).toNatClampNeg = 0 from rfl]
    refine ⟨Or.inr (Or.inr (Or.inr (Or.inr (Or.inr (Or.inr (Or.inr te)))))), te, tt, ⟨nI_pos' (by omega), by decide, by decide, by omega, by omega⟩, ⟨rfl, fun j y hj ey => ?_⟩, ?_⟩
    · have xA : FX (fun g x => False) h (newA h 9 (n + n / 2)) := FX.A
      rw [Nat.zero_add, xA.aP a4 (fun z => z)] at ey
      obtain ⟨b1, b2, b3⟩ := a9 j hj
      rw [b1] at ey
      cases ey
      rw [xA.tg b3]; exact b2
    · simp only [psh, bk_J7_copyOf_1904c_5, bk_Jx4a65c_grow_92f84_24]
      rw [nn_some]
      have xA : FX (fun g x => False) h (newA h 9 (n + n / 2)) := FX.A
      refine ⟨?_, ?_⟩
      · show tg (newA h 9 (n + n / 2)) L = 2
        rw [xA.tg a2]; exact a1
      · simp only [psh, bk_Jx4a65c_grow_d5877_6]
        refine fin (newA h 9 (n + n / 2)) _ (n + n / 2) rfl (Or.inr ⟨n, rfl, Nat.le_refl _⟩) rfl rfl rfl (by omega) (by omega) (by omega) (by omega) (Or.inr (fun i hi => ?_))
        show (if tp h = tp h ∧ 0 ≤ i ∧ i < 0 + n then aP (newA h 9 (n + n / 2)) e (0 + (i - 0)) else _) = _
        rw [if_pos ⟨rfl, by omega, by omega⟩, show 0 + (i - 0) = i by omega, xA.aP a4 (fun z => z)]
        exact (a9 i hi).1
  · -- an empty list
    have n0 : n = 0 := by omega
    have ee : e = e0 := by
      rcases a8 with q | q
      · omega
      · exact q.1
    rw [bk_Jx4a65c_grow_92f84_6, a3, S.1, ee]
    refine ⟨a1, fun _ => ?_, fun q => absurd rfl q⟩
    rw [bk_Jx4a65c_grow_92f84_27]
    have emax : (if (10 : Int32) < nI (n + 1) then nI (n + 1) else 10) = nI 10 := by
      rw [show (10 : Int32) = nI 10 from rfl]
      exact if_neg (by rw [nI_ltI (by omega) (by omega)]; omega)
    rw [emax, nI_clamp (by omega)]
    refine ⟨by decide, by omega, by omega, ?_⟩
    rw [bk_Jx4a65c_grow_92f84_32, nn_some]
    have xA : FX (fun g x => False) h (newA h 9 10) := FX.A
    refine ⟨by rw [xA.tg a2]; exact a1, ?_⟩
    simp only [psh, bk_Jx4a65c_grow_d5877_6]
    exact fin (newA h 9 10) (newA h 9 10) 10 rfl (Or.inl FX.rf) rfl rfl rfl (by omega) (by omega) (by omega) (by omega) (Or.inl n0)
/-- a thing is added at the end of a list -/
theorem l_add (S : STK h e0) (A : AL h e0 L e n f) (hn : n < 2 ^ 20) (r1 : 1 ≤ rc h) (r2 : 2 * n + 10 ≤ rs h) {y : Nat} (hy : lTg (tg h y)) (hy2 : y < tp h)
    (H : ∀ h', ALp h h' e0 L e n (up1 f n y) → Q (some (vi 1)) h') : wp (d + 6) K_Jx4a65c_add_9ea2d 0 [] [(0, vr (some L)), (1, vr (some y))] h Q := by
  have A0 := A
  obtain ⟨a1, a2, a3, a4, a5, a6, a7, a8, a9⟩ := A
  have arr : tg h e = 151 ∨ fI h 9901 e = 152 ∨ fI h 9901 e = 153 ∨ tg h e = 101 ∨ tg h e = 102 ∨ tg h e = 103 ∨ tg h e = 104 ∨ tg h e = 109 := by
    rcases a8 with q | q
    · exact Or.inr (Or.inr (Or.inr (Or.inr (Or.inr (Or.inr (Or.inr q.1))))))
    · exact Or.inr (Or.inr (Or.inl (by rw [q.1]; exact S.2.1)))
  have x0 : FX (EL L e) h (setFI h 100 L (fI h 100 L + 1)) := FX.FI (Or.inl ⟨rfl, Or.inl rfl⟩)
  rw [bk_Jx4a65c_add_9ea2d_0]
  refine ⟨a1, a1, a1, a1, a1, ?_⟩
  rw [show fP (setFI h 100 L (fI h 100 L + 1)) 30101 L = some e from a3, show fI (setFI h 100 L (fI h 100 L + 1)) 102 L = nI n by rw [(FX.FI (E := fun g x => g = 100) rfl).fI a2 (by decide)]; exact a5]
  have A1 : AL (setFI h 100 L (fI h 100 L + 1)) e0 L e n f := A0.fx (E := fun g x => g = 100) (FX.FI rfl) (by decide) (by decide) (Or.inr (by decide))
  have S1 : STK (setFI h 100 L (fI h 100 L + 1)) e0 := S.fx (E := fun g x => g = 100) (FX.FI rfl) (fun _ => by decide) (fun _ => by decide) (fun _ => by decide)
  have q1 : tp (setFI h 100 L (fI h 100 L + 1)) = tp h := rfl
  have q2 : rc (setFI h 100 L (fI h 100 L + 1)) = rc h := rfl
  have q3 : rs (setFI h 100 L (fI h 100 L + 1)) = rs h := rfl
  have q4 : tg (setFI h 100 L (fI h 100 L + 1)) = tg h := rfl
  have q5 : ln (setFI h 100 L (fI h 100 L + 1)) = ln h := rfl
  rw [bk_Jx4a65c_add_72be8_0, nn_some]
  refine ⟨by rw [q4]; rcases arr with z | z | z | z | z | z | z | z; exact Or.inl z; exact Or.inr (Or.inl z); exact Or.inr (Or.inr (Or.inl z)); exact Or.inr (Or.inr (Or.inr (Or.inl z))); exact Or.inr (Or.inr (Or.inr (Or.inr (Or.inl z)))); exact Or.inr (Or.inr (Or.inr (Or.inr (Or.inr (Or.inl z))))); exact Or.inr (Or.inr (Or.inr (Or.inr (Or.inr (Or.inr (Or.inl z)))))); exact Or.inr (Or.inr (Or.inr (Or.inr (Or.inr (Or.inr (Or.inr z)))))), ?_⟩
  generalize setFI h 100 L (fI h 100 L + 1) = h1 at *
  -- the thing is put into an array that has room
  have put : ∀ (h2 : AH) e', AL h2 e0 L e' n f → n < ln h2 e' → tg h2 e' = 109 → FX (EL L e) h h2 → (e' = e ∧ tg h e = 109 ∨ e' = tp h) → rc h + ln h e ≤ rc h2 + ln h2 e' → rs h + 4 * ln h e ≤ rs h2 + 4 * ln h2 e' → tp h2 ≤ tp h + 1 → wp (d + 5) K_Jx4a65c_add_72be8 7 [] [(0, vr (some L)), (1, vr (some y)), (2, vr (some e')), (3, vi (nI n))] h2 (fun v h1 => wp (d + 6) K_Jx4a65c_add_9ea2d 13 (psh v []) [(0, vr (some L)), (1, vr (some y))] h1 Q) := by
    intro h2 e' A2 lt2 t2 X2 E2 R2 S2 T2
    obtain ⟨b1, b2, b3, b4, b5, b6, b7, b8, b9⟩ := A2
    have yt : tg h2 y = tg h y := X2.tg hy2
    have y2 : y < tp h2 := Nat.lt_of_lt_of_le hy2 X2.1
    rw [bk_Jx4a65c_add_72be8_7, nn_some, nn_some]
    refine ⟨t2, by rw [yt]; exact hy, pk_in n (ln h2 e') lt2, b1, ?_⟩
    rw [nI_clamp (by omega), nI_1]
    simp only [psh, bk_Jx4a65c_add_9ea2d_13]
    refine ⟨Or.inr trivial, H _ ⟨e', ⟨b1, b2, b3, b4, ?_, by show n + 1 ≤ ln h2 e'; omega, by show ln h2 e' ≤ _; omega, ?_, fun i hi => ?_⟩, ?_, E2, R2, S2, T2⟩⟩
    · show (if 102 = 102 ∧ L = L then nI (n + 1) else _) = _
      rw [if_pos ⟨rfl, rfl⟩]
    · rcases b8 with q | q
      · exact Or.inl q
      · exfalso
        have := X2.ln S.2.2.2.1
        rw [S.2.2.1] at this
        rw [q.1] at lt2
        omega
    · show (if e' = e' ∧ i = n then some y else aP h2 e' i) = some (up1 f n y i) ∧ lTg (tg h2 (up1 f n y i)) ∧ up1 f n y i < tp h2
      by_cases c : i = n
      · rw [if_pos ⟨rfl, c⟩]
        unfold up1
        rw [if_pos c, yt]
        exact ⟨rfl, hy, y2⟩
      · rw [if_neg (fun z => c z.2)]
        unfold up1
        rw [if_neg c]
        exact b9 i (by omega)
    · rcases E2 with ⟨E2, -⟩ | E2
      · subst E2
        exact X2.tr ((FX.AP (E := EL L e') (Or.inr ⟨rfl, rfl⟩)).tr (FX.FI (Or.inl ⟨rfl, Or.inr (Or.inl rfl)⟩)))
      · have x4 : FX (fun g x => EL L e g x ∨ (g = 90003 ∧ x = tp h)) h (setFI (setAP h2 e' n (some y)) 102 L (nI (n + 1))) :=
          (X2.mono (fun _ _ z => Or.inl z)).tr ((FX.AP (Or.inr ⟨rfl, E2⟩)).tr (FX.FI (Or.inl (Or.inl ⟨rfl, Or.inr (Or.inl rfl)⟩))))
        exact x4.less (fun g x hx z => by
          rcases z with z | ⟨z, z2⟩
          · exact z
          · rcases hx with hx | hx
            · omega
            · rw [z] at hx; exact absurd hx (by decide)) (fun x hx z => by
          rcases z with z | ⟨z, -⟩
          · exact z
          · exact absurd z (by decide)) (fun x hx z => by
          rcases z with z | ⟨-, z⟩
          · exact z
          · omega)
  have lx : nI n = Int32.ofNat (ln h1 e) ↔ n = ln h1 e := by
    rw [show Int32.ofNat (ln h1 e) = nI (ln h1 e) from rfl]
    constructor
    · intro q
      have := congrArg tn q
      rwa [tn_nI (by omega), tn_nI (by rw [q5]; omega)] at this
    · intro q; rw [← q]
  refine ⟨fun z => ?_, fun z => ?_⟩
  · have z : ¬ n = ln h1 e := fun q => z (lx.mpr q)
    rw [q5] at z
    refine put h1 e A1 (by rw [q5]; omega) ?_ x0 ?_ (by rw [q2, q5]; omega) (by rw [q3, q5]; omega) (by omega)
    · rcases a8 with q | q
      · rw [q4]; exact q.1
      · exfalso
        have := S.2.2.1
        rw [q.1] at z a6
        omega
    · rcases a8 with q | q
      · exact Or.inl ⟨rfl, q.1⟩
      · exfalso
        have := S.2.2.1
        rw [q.1] at z a6
        omega
  · have z : n = ln h1 e := lx.mp (Classical.not_not.mp z)
    rw [bk_Jx4a65c_add_72be8_4]
    refine ⟨by rw [q4]; exact a1, ?_⟩
    refine l_grow S1 A1 z hn (by rw [q2]; exact r1) (by rw [q3]; exact r2) (fun h2 e' A2 lt2 t2 te tp2 rc2 rs2 X2 => ?_)
    simp only [psh, bk_Jx4a65c_add_72be8_6]
    exact put h2 e' A2 lt2 t2 (x0.tr X2) (Or.inr (by rw [te, q1])) (by rw [q2, q5] at rc2; exact rc2) (by rw [q3, q5] at rs2; exact rs2) (by rw [tp2, q1]; exact Nat.le_refl _)
end
