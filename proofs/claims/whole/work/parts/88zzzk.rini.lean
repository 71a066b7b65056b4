/-! The reference's constructor -/
def RA (k : Nat) : Nat × Nat × Nat × Nat := refA.getD k (0, 0, 0, 0)
theorem RA_at : ∀ q, q ∈ refA → 1 ≤ q.2.1 ∧ q.2.1 ≤ 56 ∧ q = RA (q.2.1 - 1) := by decide +kernel
theorem RA_inj : ∀ i, i < 56 → ∀ j, j < 56 → (RA i).1 = (RA j).1 → i = j := by decide +kernel
theorem RA_14 : ∀ i, i < 56 → (RA i).1 / 100 % 100 = 14 := by decide +kernel
/-- k arrays are made, k - 1 are put -/
def INI (h0 h : AH) (a k s : Nat) : Prop := (tg h a = 15 ∧ tp h = a + 1 + k ∧ rc h + k = rc h0 ∧ rs h + s = rs h0) ∧ (∀ q, q ∈ refA → q.2.1 ≤ k → tg h (a + q.2.1) = q.2.2.1 ∧ ln h (a + q.2.1) = q.2.2.2 ∧ ∀ i, aI h (a + q.2.1) i = 0 ∧ aJ h (a + q.2.1) i = 0) ∧ (∀ q, q ∈ refA → q.2.1 < k → fP h q.1 a = some (a + q.2.1)) ∧ (∀ f, f / 100 % 100 = 14 → fI h f a = 0 ∧ fJ h f a = 0) ∧ FX (fun g y => y = a ∧ g / 100 % 100 = 14) h0 h
theorem INI.step {h0 h : AH} {a k s f t n : Nat} (I : INI h0 h a (k + 1) s) (hk : k + 1 < 56) (e1 : (RA k).1 = f) (e2 : (RA (k + 1)).2.2 = (100 + t, n)) (c : k + 1 < rc h0) (r : s + n ≤ rs h0) : INI h0 (newA (setFP h f a (some (a + (k + 1)))) t n) a (k + 1 + 1) (s + n) := by
  obtain ⟨⟨i1, i2, i3, i4⟩, i5, i6, i7, i8⟩ := I
  have tp1 : tp (setFP h f a (some (a + (k + 1)))) = a + 1 + (k + 1) := i2
  have rc1 : rc (setFP h f a (some (a + (k + 1)))) = rc h := rfl
  have rs1 : rs (setFP h f a (some (a + (k + 1)))) = rs h := rfl
  have f14 : f / 100 % 100 = 14 := by rw [← e1]; exact RA_14 k (by omega)
  refine ⟨⟨?_, ?_, ?_, ?_⟩, fun q hq l => ?_, fun q hq l => ?_, fun g hg => ?_, ?_⟩
  · rw [tg_newA, if_neg (by omega)]; exact i1
  · rw [tp_newA]; omega
  · rw [rc_newA]; omega
  · rw [rs_newA]; omega
  · obtain ⟨b1, b2, b3⟩ := RA_at q hq
    by_cases y : q.2.1 ≤ k + 1
    · obtain ⟨j1, j2, j3⟩ := i5 q hq y
      refine ⟨?_, ?_, fun i => ⟨?_, ?_⟩⟩
      · rw [tg_newA, if_neg (by omega)]; exact j1
      · rw [ln_newA, if_neg (by omega)]; exact j2
      · rw [aI_newA, if_neg (by omega)]; exact (j3 i).1
      · rw [aJ_newA, if_neg (by omega)]; exact (j3 i).2
    · have e3 : q.2.1 = k + 1 + 1 := by omega
      have e4 : q.2.2 = (100 + t, n) := by rw [b3, e3]; exact e2
      rw [e3, e4]
      refine ⟨?_, ?_, fun i => ⟨?_, ?_⟩⟩
      · rw [tg_newA, if_pos (by omega)]
      · rw [ln_newA, if_pos (by omega)]
      · rw [aI_newA, if_pos (by omega)]
      · rw [aJ_newA, if_pos (by omega)]
  · obtain ⟨b1, b2, b3⟩ := RA_at q hq
    rw [fP_newA, fP_setFP]
    by_cases y : q.2.1 = k + 1
    · rw [if_pos ⟨by rw [b3, y]; exact e1, rfl⟩, y]
    · rw [if_neg (fun z => by
        have z1 := z.1
        rw [b3, ← e1] at z1
        have := RA_inj _ (by omega) _ (by omega) z1
        omega)]
      exact i6 q hq (by omega)
  · rw [fI_newA, fJ_newA]
    exact i7 g hg
  · exact i8.tr ((FX.FP (f := f) (a := a) (v := some (a + (k + 1))) ⟨rfl, f14⟩).tr FX.A)
/-- the last is put -/
theorem INI.last {h0 h : AH} {a s : Nat} (I : INI h0 h a 56 s) : RS (setFP h 31474 a (some (a + 56))) a ∧ (∀ k i, 1 ≤ k → k ≤ 56 → aI (setFP h 31474 a (some (a + 56))) (a + k) i = 0 ∧ aJ (setFP h 31474 a (some (a + 56))) (a + k) i = 0) ∧ (∀ f, f / 100 % 100 = 14 → fI (setFP h 31474 a (some (a + 56))) f a = 0 ∧ fJ (setFP h 31474 a (some (a + 56))) f a = 0) ∧ FX (fun g y => y = a ∧ g / 100 % 100 = 14) h0 (setFP h 31474 a (some (a + 56))) ∧ tp (setFP h 31474 a (some (a + 56))) = a + 57 ∧ rc (setFP h 31474 a (some (a + 56))) + 56 = rc h0 ∧ rs (setFP h 31474 a (some (a + 56))) + s = rs h0 := by
  obtain ⟨⟨i1, i2, i3, i4⟩, i5, i6, i7, i8⟩ := I
  have mem : ∀ k, k < 56 → RA k ∈ refA ∧ (RA k).2.1 = k + 1 := by decide +kernel
  refine ⟨⟨i1, fun q hq => ?_⟩, fun k i h1 h2 => ?_, i7, i8.tr (FX.FP ⟨rfl, by decide⟩), i2, i3, i4⟩
  · obtain ⟨b1, b2, b3⟩ := RA_at q hq
    obtain ⟨j1, j2, j3⟩ := i5 q hq b2
    refine ⟨?_, j1, j2⟩
    rw [fP_setFP]
    by_cases y : q.2.1 = 56
    · rw [if_pos ⟨by rw [b3, y]; rfl, rfl⟩, y]
    · rw [if_neg (fun z => by
        have z1 : q.1 = (RA 55).1 := z.1
        rw [b3] at z1
        have := RA_inj _ (by omega) _ (by omega) z1
        omega)]
      exact i6 q hq (by omega)
  · obtain ⟨m1, m2⟩ := mem (k - 1) (by omega)
    have := (i5 _ m1 (by omega)).2.2 i
    rw [m2, show k - 1 + 1 = k by omega] at this
    exact this
/-- the first array -/
theorem ri_0 {d : Nat} {h0 : AH} {Q : Option V → AH → Prop} {a : Nat} (ta : tg h0 a = 15) (htp : tp h0 = a + 1) (z14 : ∀ f, f / 100 % 100 = 14 → fI h0 f a = 0 ∧ fJ h0 f a = 0) (r1 : 57 ≤ rc h0) (r2 : 45000 ≤ rs h0) (H : ∀ h, INI h0 h a 1 2000 → wp d K_X12_init 5 [vr (some (a + 1)), vr (some a)] [(0, vr (some a))] h Q) : wp d K_X12_init 0 [] [(0, vr (some a))] h0 Q := by
  rw [bk_X12_init_0, show Int32.toNatClampNeg 2000 = 2000 from rfl]
  refine ⟨by decide, by omega, by omega, ?_⟩
  have I : INI h0 (newA h0 1 2000) a 1 2000 := by
    refine ⟨⟨by rw [tg_newA, if_neg (by omega)]; exact ta, by rw [tp_newA]; omega, by rw [rc_newA]; omega, by rw [rs_newA]; omega⟩, fun q hq l => ?_, fun q hq l => ?_, fun f hf => by rw [fI_newA, fJ_newA]; exact z14 f hf, FX.A⟩
    · obtain ⟨b1, b2, b3⟩ := RA_at q hq
      have e3 : q.2.1 = 1 := by omega
      have e4 : q.2.2 = (101, 2000) := by rw [b3, e3]; rfl
      rw [e3, e4]
      exact ⟨by rw [tg_newA, if_pos (by omega)], by rw [ln_newA, if_pos (by omega)], fun i => ⟨by rw [aI_newA, if_pos (by omega)], by rw [aJ_newA, if_pos (by omega)]⟩⟩
    · obtain ⟨b1, -, -⟩ := RA_at q hq
      omega
  rw [htp]
  exact H _ I
/-- the next array -/
theorem ri_n {d : Nat} {h0 h : AH} {Q : Option V → AH → Prop} {a k s f t n i : Nat} (I : INI h0 h a (k + 1) s) (hk : k + 1 < 56) (e1 : (RA k).1 = f) (e2 : (RA (k + 1)).2.2 = (100 + t, n)) (c : k + 1 < rc h0) (r : s + n ≤ rs h0) (H : ∀ h, INI h0 h a (k + 2) (s + n) → wp d K_X12_init i [vr (some (a + (k + 2))), vr (some a)] [(0, vr (some a))] h Q) : tg h a = 15 ∧ 0 < rc (setFP h f a (some (a + (k + 1)))) ∧ n ≤ rs (setFP h f a (some (a + (k + 1)))) ∧ wp d K_X12_init i [vr (some (tp (setFP h f a (some (a + (k + 1)))))), vr (some a)] [(0, vr (some a))] (newA (setFP h f a (some (a + (k + 1)))) t n) Q := by
  obtain ⟨⟨i1, i2, i3, i4⟩, -⟩ := id I
  refine ⟨i1, by show 0 < rc h; omega, by show n ≤ rs h; omega, ?_⟩
  rw [show tp (setFP h f a (some (a + (k + 1)))) = a + (k + 2) by show tp h = _; omega]
  exact H _ (I.step hk e1 e2 c r)
theorem ri_1 {d : Nat} {h0 h : AH} {Q : Option V → AH → Prop} {a : Nat} (r1 : 57 ≤ rc h0) (r2 : 45000 ≤ rs h0) (I : INI h0 h a 1 2000) (H : ∀ h, INI h0 h a 2 2002 → wp d K_X12_init 9 [vr (some (a + 2)), vr (some a)] [(0, vr (some a))] h Q) : wp d K_X12_init 5 [vr (some (a + 1)), vr (some a)] [(0, vr (some a))] h Q := by
  rw [bk_X12_init_5, nn_some, show Int32.toNatClampNeg 2 = 2 from rfl]
  have z := ri_n (d := d) (Q := Q) (k := 0) (f := 31400) (t := 1) (n := 2) (i := 9) I (by decide) rfl rfl (by omega) (by omega) H
  exact ⟨z.1, by decide, z.2.1, z.2.2.1, z.2.2.2⟩
theorem ri_2 {d : Nat} {h0 h : AH} {Q : Option V → AH → Prop} {a : Nat} (r1 : 57 ≤ rc h0) (r2 : 45000 ≤ rs h0) (I : INI h0 h a 2 2002) (H : ∀ h, INI h0 h a 3 2034 → wp d K_X12_init 13 [vr (some (a + 3)), vr (some a)] [(0, vr (some a))] h Q) : wp d K_X12_init 9 [vr (some (a + 2)), vr (some a)] [(0, vr (some a))] h Q := by
  rw [bk_X12_init_9, nn_some, show Int32.toNatClampNeg 32 = 32 from rfl]
  have z := ri_n (d := d) (Q := Q) (k := 1) (f := 31403) (t := 2) (n := 32) (i := 13) I (by decide) rfl rfl (by omega) (by omega) H
  exact ⟨z.1, by decide, z.2.1, z.2.2.1, z.2.2.2⟩
theorem ri_3 {d : Nat} {h0 h : AH} {Q : Option V → AH → Prop} {a : Nat} (r1 : 57 ≤ rc h0) (r2 : 45000 ≤ rs h0) (I : INI h0 h a 3 2034) (H : ∀ h, INI h0 h a 4 2066 → wp d K_X12_init 17 [vr (some (a + 4)), vr (some a)] [(0, vr (some a))] h Q) : wp d K_X12_init 13 [vr (some (a + 3)), vr (some a)] [(0, vr (some a))] h Q := by
  rw [bk_X12_init_13, nn_some, show Int32.toNatClampNeg 32 = 32 from rfl]
  have z := ri_n (d := d) (Q := Q) (k := 2) (f := 31404) (t := 1) (n := 32) (i := 17) I (by decide) rfl rfl (by omega) (by omega) H
  exact ⟨z.1, by decide, z.2.1, z.2.2.1, z.2.2.2⟩
theorem ri_4 {d : Nat} {h0 h : AH} {Q : Option V → AH → Prop} {a : Nat} (r1 : 57 ≤ rc h0) (r2 : 45000 ≤ rs h0) (I : INI h0 h a 4 2066) (H : ∀ h, INI h0 h a 5 2098 → wp d K_X12_init 21 [vr (some (a + 5)), vr (some a)] [(0, vr (some a))] h Q) : wp d K_X12_init 17 [vr (some (a + 4)), vr (some a)] [(0, vr (some a))] h Q := by
  rw [bk_X12_init_17, nn_some, show Int32.toNatClampNeg 32 = 32 from rfl]
  have z := ri_n (d := d) (Q := Q) (k := 3) (f := 31405) (t := 1) (n := 32) (i := 21) I (by decide) rfl rfl (by omega) (by omega) H
  exact ⟨z.1, by decide, z.2.1, z.2.2.1, z.2.2.2⟩
theorem ri_5 {d : Nat} {h0 h : AH} {Q : Option V → AH → Prop} {a : Nat} (r1 : 57 ≤ rc h0) (r2 : 45000 ≤ rs h0) (I : INI h0 h a 5 2098) (H : ∀ h, INI h0 h a 6 2130 → wp d K_X12_init 25 [vr (some (a + 6)), vr (some a)] [(0, vr (some a))] h Q) : wp d K_X12_init 21 [vr (some (a + 5)), vr (some a)] [(0, vr (some a))] h Q := by
  rw [bk_X12_init_21, nn_some, show Int32.toNatClampNeg 32 = 32 from rfl]
  have z := ri_n (d := d) (Q := Q) (k := 4) (f := 31406) (t := 2) (n := 32) (i := 25) I (by decide) rfl rfl (by omega) (by omega) H
  exact ⟨z.1, by decide, z.2.1, z.2.2.1, z.2.2.2⟩
theorem ri_6 {d : Nat} {h0 h : AH} {Q : Option V → AH → Prop} {a : Nat} (r1 : 57 ≤ rc h0) (r2 : 45000 ≤ rs h0) (I : INI h0 h a 6 2130) (H : ∀ h, INI h0 h a 7 2162 → wp d K_X12_init 29 [vr (some (a + 7)), vr (some a)] [(0, vr (some a))] h Q) : wp d K_X12_init 25 [vr (some (a + 6)), vr (some a)] [(0, vr (some a))] h Q := by
  rw [bk_X12_init_25, nn_some, show Int32.toNatClampNeg 32 = 32 from rfl]
  have z := ri_n (d := d) (Q := Q) (k := 5) (f := 31407) (t := 1) (n := 32) (i := 29) I (by decide) rfl rfl (by omega) (by omega) H
  exact ⟨z.1, by decide, z.2.1, z.2.2.1, z.2.2.2⟩
theorem ri_7 {d : Nat} {h0 h : AH} {Q : Option V → AH → Prop} {a : Nat} (r1 : 57 ≤ rc h0) (r2 : 45000 ≤ rs h0) (I : INI h0 h a 7 2162) (H : ∀ h, INI h0 h a 8 2164 → wp d K_X12_init 33 [vr (some (a + 8)), vr (some a)] [(0, vr (some a))] h Q) : wp d K_X12_init 29 [vr (some (a + 7)), vr (some a)] [(0, vr (some a))] h Q := by
  rw [bk_X12_init_29, nn_some, show Int32.toNatClampNeg 2 = 2 from rfl]
  have z := ri_n (d := d) (Q := Q) (k := 6) (f := 31408) (t := 1) (n := 2) (i := 33) I (by decide) rfl rfl (by omega) (by omega) H
  exact ⟨z.1, by decide, z.2.1, z.2.2.1, z.2.2.2⟩
theorem ri_8 {d : Nat} {h0 h : AH} {Q : Option V → AH → Prop} {a : Nat} (r1 : 57 ≤ rc h0) (r2 : 45000 ≤ rs h0) (I : INI h0 h a 8 2164) (H : ∀ h, INI h0 h a 9 2188 → wp d K_X12_init 37 [vr (some (a + 9)), vr (some a)] [(0, vr (some a))] h Q) : wp d K_X12_init 33 [vr (some (a + 8)), vr (some a)] [(0, vr (some a))] h Q := by
  rw [bk_X12_init_33, nn_some, show Int32.toNatClampNeg 24 = 24 from rfl]
  have z := ri_n (d := d) (Q := Q) (k := 7) (f := 31409) (t := 2) (n := 24) (i := 37) I (by decide) rfl rfl (by omega) (by omega) H
  exact ⟨z.1, by decide, z.2.1, z.2.2.1, z.2.2.2⟩
theorem ri_9 {d : Nat} {h0 h : AH} {Q : Option V → AH → Prop} {a : Nat} (r1 : 57 ≤ rc h0) (r2 : 45000 ≤ rs h0) (I : INI h0 h a 9 2188) (H : ∀ h, INI h0 h a 10 2212 → wp d K_X12_init 41 [vr (some (a + 10)), vr (some a)] [(0, vr (some a))] h Q) : wp d K_X12_init 37 [vr (some (a + 9)), vr (some a)] [(0, vr (some a))] h Q := by
  rw [bk_X12_init_37, nn_some, show Int32.toNatClampNeg 24 = 24 from rfl]
  have z := ri_n (d := d) (Q := Q) (k := 8) (f := 31410) (t := 1) (n := 24) (i := 41) I (by decide) rfl rfl (by omega) (by omega) H
  exact ⟨z.1, by decide, z.2.1, z.2.2.1, z.2.2.2⟩
theorem ri_10 {d : Nat} {h0 h : AH} {Q : Option V → AH → Prop} {a : Nat} (r1 : 57 ≤ rc h0) (r2 : 45000 ≤ rs h0) (I : INI h0 h a 10 2212) (H : ∀ h, INI h0 h a 11 2236 → wp d K_X12_init 45 [vr (some (a + 11)), vr (some a)] [(0, vr (some a))] h Q) : wp d K_X12_init 41 [vr (some (a + 10)), vr (some a)] [(0, vr (some a))] h Q := by
  rw [bk_X12_init_41, nn_some, show Int32.toNatClampNeg 24 = 24 from rfl]
  have z := ri_n (d := d) (Q := Q) (k := 9) (f := 31411) (t := 2) (n := 24) (i := 45) I (by decide) rfl rfl (by omega) (by omega) H
  exact ⟨z.1, by decide, z.2.1, z.2.2.1, z.2.2.2⟩
theorem ri_11 {d : Nat} {h0 h : AH} {Q : Option V → AH → Prop} {a : Nat} (r1 : 57 ≤ rc h0) (r2 : 45000 ≤ rs h0) (I : INI h0 h a 11 2236) (H : ∀ h, INI h0 h a 12 2260 → wp d K_X12_init 49 [vr (some (a + 12)), vr (some a)] [(0, vr (some a))] h Q) : wp d K_X12_init 45 [vr (some (a + 11)), vr (some a)] [(0, vr (some a))] h Q := by
  rw [bk_X12_init_45, nn_some, show Int32.toNatClampNeg 24 = 24 from rfl]
  have z := ri_n (d := d) (Q := Q) (k := 10) (f := 31412) (t := 1) (n := 24) (i := 49) I (by decide) rfl rfl (by omega) (by omega) H
  exact ⟨z.1, by decide, z.2.1, z.2.2.1, z.2.2.2⟩
theorem ri_12 {d : Nat} {h0 h : AH} {Q : Option V → AH → Prop} {a : Nat} (r1 : 57 ≤ rc h0) (r2 : 45000 ≤ rs h0) (I : INI h0 h a 12 2260) (H : ∀ h, INI h0 h a 13 2284 → wp d K_X12_init 53 [vr (some (a + 13)), vr (some a)] [(0, vr (some a))] h Q) : wp d K_X12_init 49 [vr (some (a + 12)), vr (some a)] [(0, vr (some a))] h Q := by
  rw [bk_X12_init_49, nn_some, show Int32.toNatClampNeg 24 = 24 from rfl]
  have z := ri_n (d := d) (Q := Q) (k := 11) (f := 31413) (t := 4) (n := 24) (i := 53) I (by decide) rfl rfl (by omega) (by omega) H
  exact ⟨z.1, by decide, z.2.1, z.2.2.1, z.2.2.2⟩
theorem ri_13 {d : Nat} {h0 h : AH} {Q : Option V → AH → Prop} {a : Nat} (r1 : 57 ≤ rc h0) (r2 : 45000 ≤ rs h0) (I : INI h0 h a 13 2284) (H : ∀ h, INI h0 h a 14 2308 → wp d K_X12_init 57 [vr (some (a + 14)), vr (some a)] [(0, vr (some a))] h Q) : wp d K_X12_init 53 [vr (some (a + 13)), vr (some a)] [(0, vr (some a))] h Q := by
  rw [bk_X12_init_53, nn_some, show Int32.toNatClampNeg 24 = 24 from rfl]
  have z := ri_n (d := d) (Q := Q) (k := 12) (f := 31414) (t := 1) (n := 24) (i := 57) I (by decide) rfl rfl (by omega) (by omega) H
  exact ⟨z.1, by decide, z.2.1, z.2.2.1, z.2.2.2⟩
theorem ri_14 {d : Nat} {h0 h : AH} {Q : Option V → AH → Prop} {a : Nat} (r1 : 57 ≤ rc h0) (r2 : 45000 ≤ rs h0) (I : INI h0 h a 14 2308) (H : ∀ h, INI h0 h a 15 2404 → wp d K_X12_init 61 [vr (some (a + 15)), vr (some a)] [(0, vr (some a))] h Q) : wp d K_X12_init 57 [vr (some (a + 14)), vr (some a)] [(0, vr (some a))] h Q := by
  rw [bk_X12_init_57, nn_some, show Int32.toNatClampNeg 96 = 96 from rfl]
  have z := ri_n (d := d) (Q := Q) (k := 13) (f := 31415) (t := 2) (n := 96) (i := 61) I (by decide) rfl rfl (by omega) (by omega) H
  exact ⟨z.1, by decide, z.2.1, z.2.2.1, z.2.2.2⟩
theorem ri_15 {d : Nat} {h0 h : AH} {Q : Option V → AH → Prop} {a : Nat} (r1 : 57 ≤ rc h0) (r2 : 45000 ≤ rs h0) (I : INI h0 h a 15 2404) (H : ∀ h, INI h0 h a 16 2500 → wp d K_X12_init 65 [vr (some (a + 16)), vr (some a)] [(0, vr (some a))] h Q) : wp d K_X12_init 61 [vr (some (a + 15)), vr (some a)] [(0, vr (some a))] h Q := by
  rw [bk_X12_init_61, nn_some, show Int32.toNatClampNeg 96 = 96 from rfl]
  have z := ri_n (d := d) (Q := Q) (k := 14) (f := 31416) (t := 1) (n := 96) (i := 65) I (by decide) rfl rfl (by omega) (by omega) H
  exact ⟨z.1, by decide, z.2.1, z.2.2.1, z.2.2.2⟩
theorem ri_16 {d : Nat} {h0 h : AH} {Q : Option V → AH → Prop} {a : Nat} (r1 : 57 ≤ rc h0) (r2 : 45000 ≤ rs h0) (I : INI h0 h a 16 2500) (H : ∀ h, INI h0 h a 17 2524 → wp d K_X12_init 69 [vr (some (a + 17)), vr (some a)] [(0, vr (some a))] h Q) : wp d K_X12_init 65 [vr (some (a + 16)), vr (some a)] [(0, vr (some a))] h Q := by
  rw [bk_X12_init_65, nn_some, show Int32.toNatClampNeg 24 = 24 from rfl]
  have z := ri_n (d := d) (Q := Q) (k := 15) (f := 31417) (t := 1) (n := 24) (i := 69) I (by decide) rfl rfl (by omega) (by omega) H
  exact ⟨z.1, by decide, z.2.1, z.2.2.1, z.2.2.2⟩
theorem ri_17 {d : Nat} {h0 h : AH} {Q : Option V → AH → Prop} {a : Nat} (r1 : 57 ≤ rc h0) (r2 : 45000 ≤ rs h0) (I : INI h0 h a 17 2524) (H : ∀ h, INI h0 h a 18 2526 → wp d K_X12_init 73 [vr (some (a + 18)), vr (some a)] [(0, vr (some a))] h Q) : wp d K_X12_init 69 [vr (some (a + 17)), vr (some a)] [(0, vr (some a))] h Q := by
  rw [bk_X12_init_69, nn_some, show Int32.toNatClampNeg 2 = 2 from rfl]
  have z := ri_n (d := d) (Q := Q) (k := 16) (f := 31418) (t := 1) (n := 2) (i := 73) I (by decide) rfl rfl (by omega) (by omega) H
  exact ⟨z.1, by decide, z.2.1, z.2.2.1, z.2.2.2⟩
theorem ri_18 {d : Nat} {h0 h : AH} {Q : Option V → AH → Prop} {a : Nat} (r1 : 57 ≤ rc h0) (r2 : 45000 ≤ rs h0) (I : INI h0 h a 18 2526) (H : ∀ h, INI h0 h a 19 2766 → wp d K_X12_init 77 [vr (some (a + 19)), vr (some a)] [(0, vr (some a))] h Q) : wp d K_X12_init 73 [vr (some (a + 18)), vr (some a)] [(0, vr (some a))] h Q := by
  rw [bk_X12_init_73, nn_some, show Int32.toNatClampNeg 240 = 240 from rfl]
  have z := ri_n (d := d) (Q := Q) (k := 17) (f := 31419) (t := 1) (n := 240) (i := 77) I (by decide) rfl rfl (by omega) (by omega) H
  exact ⟨z.1, by decide, z.2.1, z.2.2.1, z.2.2.2⟩
theorem ri_19 {d : Nat} {h0 h : AH} {Q : Option V → AH → Prop} {a : Nat} (r1 : 57 ≤ rc h0) (r2 : 45000 ≤ rs h0) (I : INI h0 h a 19 2766) (H : ∀ h, INI h0 h a 20 3006 → wp d K_X12_init 81 [vr (some (a + 20)), vr (some a)] [(0, vr (some a))] h Q) : wp d K_X12_init 77 [vr (some (a + 19)), vr (some a)] [(0, vr (some a))] h Q := by
  rw [bk_X12_init_77, nn_some, show Int32.toNatClampNeg 240 = 240 from rfl]
  have z := ri_n (d := d) (Q := Q) (k := 18) (f := 31420) (t := 1) (n := 240) (i := 81) I (by decide) rfl rfl (by omega) (by omega) H
  exact ⟨z.1, by decide, z.2.1, z.2.2.1, z.2.2.2⟩
theorem ri_20 {d : Nat} {h0 h : AH} {Q : Option V → AH → Prop} {a : Nat} (r1 : 57 ≤ rc h0) (r2 : 45000 ≤ rs h0) (I : INI h0 h a 20 3006) (H : ∀ h, INI h0 h a 21 3246 → wp d K_X12_init 85 [vr (some (a + 21)), vr (some a)] [(0, vr (some a))] h Q) : wp d K_X12_init 81 [vr (some (a + 20)), vr (some a)] [(0, vr (some a))] h Q := by
  rw [bk_X12_init_81, nn_some, show Int32.toNatClampNeg 240 = 240 from rfl]
  have z := ri_n (d := d) (Q := Q) (k := 19) (f := 31421) (t := 1) (n := 240) (i := 85) I (by decide) rfl rfl (by omega) (by omega) H
  exact ⟨z.1, by decide, z.2.1, z.2.2.1, z.2.2.2⟩
theorem ri_21 {d : Nat} {h0 h : AH} {Q : Option V → AH → Prop} {a : Nat} (r1 : 57 ≤ rc h0) (r2 : 45000 ≤ rs h0) (I : INI h0 h a 21 3246) (H : ∀ h, INI h0 h a 22 3486 → wp d K_X12_init 89 [vr (some (a + 22)), vr (some a)] [(0, vr (some a))] h Q) : wp d K_X12_init 85 [vr (some (a + 21)), vr (some a)] [(0, vr (some a))] h Q := by
  rw [bk_X12_init_85, nn_some, show Int32.toNatClampNeg 240 = 240 from rfl]
  have z := ri_n (d := d) (Q := Q) (k := 20) (f := 31422) (t := 1) (n := 240) (i := 89) I (by decide) rfl rfl (by omega) (by omega) H
  exact ⟨z.1, by decide, z.2.1, z.2.2.1, z.2.2.2⟩
theorem ri_22 {d : Nat} {h0 h : AH} {Q : Option V → AH → Prop} {a : Nat} (r1 : 57 ≤ rc h0) (r2 : 45000 ≤ rs h0) (I : INI h0 h a 22 3486) (H : ∀ h, INI h0 h a 23 3726 → wp d K_X12_init 93 [vr (some (a + 23)), vr (some a)] [(0, vr (some a))] h Q) : wp d K_X12_init 89 [vr (some (a + 22)), vr (some a)] [(0, vr (some a))] h Q := by
  rw [bk_X12_init_89, nn_some, show Int32.toNatClampNeg 240 = 240 from rfl]
  have z := ri_n (d := d) (Q := Q) (k := 21) (f := 31423) (t := 1) (n := 240) (i := 93) I (by decide) rfl rfl (by omega) (by omega) H
  exact ⟨z.1, by decide, z.2.1, z.2.2.1, z.2.2.2⟩
theorem ri_23 {d : Nat} {h0 h : AH} {Q : Option V → AH → Prop} {a : Nat} (r1 : 57 ≤ rc h0) (r2 : 45000 ≤ rs h0) (I : INI h0 h a 23 3726) (H : ∀ h, INI h0 h a 24 3966 → wp d K_X12_init 97 [vr (some (a + 24)), vr (some a)] [(0, vr (some a))] h Q) : wp d K_X12_init 93 [vr (some (a + 23)), vr (some a)] [(0, vr (some a))] h Q := by
  rw [bk_X12_init_93, nn_some, show Int32.toNatClampNeg 240 = 240 from rfl]
  have z := ri_n (d := d) (Q := Q) (k := 22) (f := 31424) (t := 2) (n := 240) (i := 97) I (by decide) rfl rfl (by omega) (by omega) H
  exact ⟨z.1, by decide, z.2.1, z.2.2.1, z.2.2.2⟩
theorem ri_24 {d : Nat} {h0 h : AH} {Q : Option V → AH → Prop} {a : Nat} (r1 : 57 ≤ rc h0) (r2 : 45000 ≤ rs h0) (I : INI h0 h a 24 3966) (H : ∀ h, INI h0 h a 25 4206 → wp d K_X12_init 101 [vr (some (a + 25)), vr (some a)] [(0, vr (some a))] h Q) : wp d K_X12_init 97 [vr (some (a + 24)), vr (some a)] [(0, vr (some a))] h Q := by
  rw [bk_X12_init_97, nn_some, show Int32.toNatClampNeg 240 = 240 from rfl]
  have z := ri_n (d := d) (Q := Q) (k := 23) (f := 31425) (t := 1) (n := 240) (i := 101) I (by decide) rfl rfl (by omega) (by omega) H
  exact ⟨z.1, by decide, z.2.1, z.2.2.1, z.2.2.2⟩
theorem ri_25 {d : Nat} {h0 h : AH} {Q : Option V → AH → Prop} {a : Nat} (r1 : 57 ≤ rc h0) (r2 : 45000 ≤ rs h0) (I : INI h0 h a 25 4206) (H : ∀ h, INI h0 h a 26 4446 → wp d K_X12_init 105 [vr (some (a + 26)), vr (some a)] [(0, vr (some a))] h Q) : wp d K_X12_init 101 [vr (some (a + 25)), vr (some a)] [(0, vr (some a))] h Q := by
  rw [bk_X12_init_101, nn_some, show Int32.toNatClampNeg 240 = 240 from rfl]
  have z := ri_n (d := d) (Q := Q) (k := 24) (f := 31426) (t := 1) (n := 240) (i := 105) I (by decide) rfl rfl (by omega) (by omega) H
  exact ⟨z.1, by decide, z.2.1, z.2.2.1, z.2.2.2⟩
theorem ri_26 {d : Nat} {h0 h : AH} {Q : Option V → AH → Prop} {a : Nat} (r1 : 57 ≤ rc h0) (r2 : 45000 ≤ rs h0) (I : INI h0 h a 26 4446) (H : ∀ h, INI h0 h a 27 4686 → wp d K_X12_init 109 [vr (some (a + 27)), vr (some a)] [(0, vr (some a))] h Q) : wp d K_X12_init 105 [vr (some (a + 26)), vr (some a)] [(0, vr (some a))] h Q := by
  rw [bk_X12_init_105, nn_some, show Int32.toNatClampNeg 240 = 240 from rfl]
  have z := ri_n (d := d) (Q := Q) (k := 25) (f := 31427) (t := 1) (n := 240) (i := 109) I (by decide) rfl rfl (by omega) (by omega) H
  exact ⟨z.1, by decide, z.2.1, z.2.2.1, z.2.2.2⟩
theorem ri_27 {d : Nat} {h0 h : AH} {Q : Option V → AH → Prop} {a : Nat} (r1 : 57 ≤ rc h0) (r2 : 45000 ≤ rs h0) (I : INI h0 h a 27 4686) (H : ∀ h, INI h0 h a 28 4926 → wp d K_X12_init 113 [vr (some (a + 28)), vr (some a)] [(0, vr (some a))] h Q) : wp d K_X12_init 109 [vr (some (a + 27)), vr (some a)] [(0, vr (some a))] h Q := by
  rw [bk_X12_init_109, nn_some, show Int32.toNatClampNeg 240 = 240 from rfl]
  have z := ri_n (d := d) (Q := Q) (k := 26) (f := 31428) (t := 1) (n := 240) (i := 113) I (by decide) rfl rfl (by omega) (by omega) H
  exact ⟨z.1, by decide, z.2.1, z.2.2.1, z.2.2.2⟩
theorem ri_28 {d : Nat} {h0 h : AH} {Q : Option V → AH → Prop} {a : Nat} (r1 : 57 ≤ rc h0) (r2 : 45000 ≤ rs h0) (I : INI h0 h a 28 4926) (H : ∀ h, INI h0 h a 29 5166 → wp d K_X12_init 117 [vr (some (a + 29)), vr (some a)] [(0, vr (some a))] h Q) : wp d K_X12_init 113 [vr (some (a + 28)), vr (some a)] [(0, vr (some a))] h Q := by
  rw [bk_X12_init_113, nn_some, show Int32.toNatClampNeg 240 = 240 from rfl]
  have z := ri_n (d := d) (Q := Q) (k := 27) (f := 31429) (t := 1) (n := 240) (i := 117) I (by decide) rfl rfl (by omega) (by omega) H
  exact ⟨z.1, by decide, z.2.1, z.2.2.1, z.2.2.2⟩
theorem ri_29 {d : Nat} {h0 h : AH} {Q : Option V → AH → Prop} {a : Nat} (r1 : 57 ≤ rc h0) (r2 : 45000 ≤ rs h0) (I : INI h0 h a 29 5166) (H : ∀ h, INI h0 h a 30 6126 → wp d K_X12_init 121 [vr (some (a + 30)), vr (some a)] [(0, vr (some a))] h Q) : wp d K_X12_init 117 [vr (some (a + 29)), vr (some a)] [(0, vr (some a))] h Q := by
  rw [bk_X12_init_117, nn_some, show Int32.toNatClampNeg 960 = 960 from rfl]
  have z := ri_n (d := d) (Q := Q) (k := 28) (f := 31430) (t := 2) (n := 960) (i := 121) I (by decide) rfl rfl (by omega) (by omega) H
  exact ⟨z.1, by decide, z.2.1, z.2.2.1, z.2.2.2⟩
theorem ri_30 {d : Nat} {h0 h : AH} {Q : Option V → AH → Prop} {a : Nat} (r1 : 57 ≤ rc h0) (r2 : 45000 ≤ rs h0) (I : INI h0 h a 30 6126) (H : ∀ h, INI h0 h a 31 7086 → wp d K_X12_init 125 [vr (some (a + 31)), vr (some a)] [(0, vr (some a))] h Q) : wp d K_X12_init 121 [vr (some (a + 30)), vr (some a)] [(0, vr (some a))] h Q := by
  rw [bk_X12_init_121, nn_some, show Int32.toNatClampNeg 960 = 960 from rfl]
  have z := ri_n (d := d) (Q := Q) (k := 29) (f := 31431) (t := 1) (n := 960) (i := 125) I (by decide) rfl rfl (by omega) (by omega) H
  exact ⟨z.1, by decide, z.2.1, z.2.2.1, z.2.2.2⟩
theorem ri_31 {d : Nat} {h0 h : AH} {Q : Option V → AH → Prop} {a : Nat} (r1 : 57 ≤ rc h0) (r2 : 45000 ≤ rs h0) (I : INI h0 h a 31 7086) (H : ∀ h, INI h0 h a 32 7326 → wp d K_X12_init 129 [vr (some (a + 32)), vr (some a)] [(0, vr (some a))] h Q) : wp d K_X12_init 125 [vr (some (a + 31)), vr (some a)] [(0, vr (some a))] h Q := by
  rw [bk_X12_init_125, nn_some, show Int32.toNatClampNeg 240 = 240 from rfl]
  have z := ri_n (d := d) (Q := Q) (k := 30) (f := 31432) (t := 1) (n := 240) (i := 129) I (by decide) rfl rfl (by omega) (by omega) H
  exact ⟨z.1, by decide, z.2.1, z.2.2.1, z.2.2.2⟩
theorem ri_32 {d : Nat} {h0 h : AH} {Q : Option V → AH → Prop} {a : Nat} (r1 : 57 ≤ rc h0) (r2 : 45000 ≤ rs h0) (I : INI h0 h a 32 7326) (H : ∀ h, INI h0 h a 33 8286 → wp d K_X12_init 133 [vr (some (a + 33)), vr (some a)] [(0, vr (some a))] h Q) : wp d K_X12_init 129 [vr (some (a + 32)), vr (some a)] [(0, vr (some a))] h Q := by
  rw [bk_X12_init_129, nn_some, show Int32.toNatClampNeg 960 = 960 from rfl]
  have z := ri_n (d := d) (Q := Q) (k := 31) (f := 31433) (t := 1) (n := 960) (i := 133) I (by decide) rfl rfl (by omega) (by omega) H
  exact ⟨z.1, by decide, z.2.1, z.2.2.1, z.2.2.2⟩
theorem ri_33 {d : Nat} {h0 h : AH} {Q : Option V → AH → Prop} {a : Nat} (r1 : 57 ≤ rc h0) (r2 : 45000 ≤ rs h0) (I : INI h0 h a 33 8286) (H : ∀ h, INI h0 h a 34 9246 → wp d K_X12_init 137 [vr (some (a + 34)), vr (some a)] [(0, vr (some a))] h Q) : wp d K_X12_init 133 [vr (some (a + 33)), vr (some a)] [(0, vr (some a))] h Q := by
  rw [bk_X12_init_133, nn_some, show Int32.toNatClampNeg 960 = 960 from rfl]
  have z := ri_n (d := d) (Q := Q) (k := 32) (f := 31434) (t := 2) (n := 960) (i := 137) I (by decide) rfl rfl (by omega) (by omega) H
  exact ⟨z.1, by decide, z.2.1, z.2.2.1, z.2.2.2⟩
theorem ri_34 {d : Nat} {h0 h : AH} {Q : Option V → AH → Prop} {a : Nat} (r1 : 57 ≤ rc h0) (r2 : 45000 ≤ rs h0) (I : INI h0 h a 34 9246) (H : ∀ h, INI h0 h a 35 10206 → wp d K_X12_init 141 [vr (some (a + 35)), vr (some a)] [(0, vr (some a))] h Q) : wp d K_X12_init 137 [vr (some (a + 34)), vr (some a)] [(0, vr (some a))] h Q := by
  rw [bk_X12_init_137, nn_some, show Int32.toNatClampNeg 960 = 960 from rfl]
  have z := ri_n (d := d) (Q := Q) (k := 33) (f := 31435) (t := 1) (n := 960) (i := 141) I (by decide) rfl rfl (by omega) (by omega) H
  exact ⟨z.1, by decide, z.2.1, z.2.2.1, z.2.2.2⟩
theorem ri_35 {d : Nat} {h0 h : AH} {Q : Option V → AH → Prop} {a : Nat} (r1 : 57 ≤ rc h0) (r2 : 45000 ≤ rs h0) (I : INI h0 h a 35 10206) (H : ∀ h, INI h0 h a 36 11166 → wp d K_X12_init 145 [vr (some (a + 36)), vr (some a)] [(0, vr (some a))] h Q) : wp d K_X12_init 141 [vr (some (a + 35)), vr (some a)] [(0, vr (some a))] h Q := by
  rw [bk_X12_init_141, nn_some, show Int32.toNatClampNeg 960 = 960 from rfl]
  have z := ri_n (d := d) (Q := Q) (k := 34) (f := 31436) (t := 1) (n := 960) (i := 145) I (by decide) rfl rfl (by omega) (by omega) H
  exact ⟨z.1, by decide, z.2.1, z.2.2.1, z.2.2.2⟩
theorem ri_36 {d : Nat} {h0 h : AH} {Q : Option V → AH → Prop} {a : Nat} (r1 : 57 ≤ rc h0) (r2 : 45000 ≤ rs h0) (I : INI h0 h a 36 11166) (H : ∀ h, INI h0 h a 37 15006 → wp d K_X12_init 149 [vr (some (a + 37)), vr (some a)] [(0, vr (some a))] h Q) : wp d K_X12_init 145 [vr (some (a + 36)), vr (some a)] [(0, vr (some a))] h Q := by
  rw [bk_X12_init_145, nn_some, show Int32.toNatClampNeg 3840 = 3840 from rfl]
  have z := ri_n (d := d) (Q := Q) (k := 35) (f := 31437) (t := 2) (n := 3840) (i := 149) I (by decide) rfl rfl (by omega) (by omega) H
  exact ⟨z.1, by decide, z.2.1, z.2.2.1, z.2.2.2⟩
theorem ri_37 {d : Nat} {h0 h : AH} {Q : Option V → AH → Prop} {a : Nat} (r1 : 57 ≤ rc h0) (r2 : 45000 ≤ rs h0) (I : INI h0 h a 37 15006) (H : ∀ h, INI h0 h a 38 18846 → wp d K_X12_init 153 [vr (some (a + 38)), vr (some a)] [(0, vr (some a))] h Q) : wp d K_X12_init 149 [vr (some (a + 37)), vr (some a)] [(0, vr (some a))] h Q := by
  rw [bk_X12_init_149, nn_some, show Int32.toNatClampNeg 3840 = 3840 from rfl]
  have z := ri_n (d := d) (Q := Q) (k := 36) (f := 31438) (t := 1) (n := 3840) (i := 153) I (by decide) rfl rfl (by omega) (by omega) H
  exact ⟨z.1, by decide, z.2.1, z.2.2.1, z.2.2.2⟩
theorem ri_38 {d : Nat} {h0 h : AH} {Q : Option V → AH → Prop} {a : Nat} (r1 : 57 ≤ rc h0) (r2 : 45000 ≤ rs h0) (I : INI h0 h a 38 18846) (H : ∀ h, INI h0 h a 39 18848 → wp d K_X12_init 157 [vr (some (a + 39)), vr (some a)] [(0, vr (some a))] h Q) : wp d K_X12_init 153 [vr (some (a + 38)), vr (some a)] [(0, vr (some a))] h Q := by
  rw [bk_X12_init_153, nn_some, show Int32.toNatClampNeg 2 = 2 from rfl]
  have z := ri_n (d := d) (Q := Q) (k := 37) (f := 31439) (t := 1) (n := 2) (i := 157) I (by decide) rfl rfl (by omega) (by omega) H
  exact ⟨z.1, by decide, z.2.1, z.2.2.1, z.2.2.2⟩
theorem ri_39 {d : Nat} {h0 h : AH} {Q : Option V → AH → Prop} {a : Nat} (r1 : 57 ≤ rc h0) (r2 : 45000 ≤ rs h0) (I : INI h0 h a 39 18848) (H : ∀ h, INI h0 h a 40 20896 → wp d K_X12_init 161 [vr (some (a + 40)), vr (some a)] [(0, vr (some a))] h Q) : wp d K_X12_init 157 [vr (some (a + 39)), vr (some a)] [(0, vr (some a))] h Q := by
  rw [bk_X12_init_157, nn_some, show Int32.toNatClampNeg 2048 = 2048 from rfl]
  have z := ri_n (d := d) (Q := Q) (k := 38) (f := 31440) (t := 1) (n := 2048) (i := 161) I (by decide) rfl rfl (by omega) (by omega) H
  exact ⟨z.1, by decide, z.2.1, z.2.2.1, z.2.2.2⟩
theorem ri_40 {d : Nat} {h0 h : AH} {Q : Option V → AH → Prop} {a : Nat} (r1 : 57 ≤ rc h0) (r2 : 45000 ≤ rs h0) (I : INI h0 h a 40 20896) (H : ∀ h, INI h0 h a 41 22944 → wp d K_X12_init 165 [vr (some (a + 41)), vr (some a)] [(0, vr (some a))] h Q) : wp d K_X12_init 161 [vr (some (a + 40)), vr (some a)] [(0, vr (some a))] h Q := by
  rw [bk_X12_init_161, nn_some, show Int32.toNatClampNeg 2048 = 2048 from rfl]
  have z := ri_n (d := d) (Q := Q) (k := 39) (f := 31441) (t := 1) (n := 2048) (i := 165) I (by decide) rfl rfl (by omega) (by omega) H
  exact ⟨z.1, by decide, z.2.1, z.2.2.1, z.2.2.2⟩
theorem ri_41 {d : Nat} {h0 h : AH} {Q : Option V → AH → Prop} {a : Nat} (r1 : 57 ≤ rc h0) (r2 : 45000 ≤ rs h0) (I : INI h0 h a 41 22944) (H : ∀ h, INI h0 h a 42 24992 → wp d K_X12_init 169 [vr (some (a + 42)), vr (some a)] [(0, vr (some a))] h Q) : wp d K_X12_init 165 [vr (some (a + 41)), vr (some a)] [(0, vr (some a))] h Q := by
  rw [bk_X12_init_165, nn_some, show Int32.toNatClampNeg 2048 = 2048 from rfl]
  have z := ri_n (d := d) (Q := Q) (k := 40) (f := 31442) (t := 1) (n := 2048) (i := 169) I (by decide) rfl rfl (by omega) (by omega) H
  exact ⟨z.1, by decide, z.2.1, z.2.2.1, z.2.2.2⟩
theorem ri_42 {d : Nat} {h0 h : AH} {Q : Option V → AH → Prop} {a : Nat} (r1 : 57 ≤ rc h0) (r2 : 45000 ≤ rs h0) (I : INI h0 h a 42 24992) (H : ∀ h, INI h0 h a 43 27040 → wp d K_X12_init 173 [vr (some (a + 43)), vr (some a)] [(0, vr (some a))] h Q) : wp d K_X12_init 169 [vr (some (a + 42)), vr (some a)] [(0, vr (some a))] h Q := by
  rw [bk_X12_init_169, nn_some, show Int32.toNatClampNeg 2048 = 2048 from rfl]
  have z := ri_n (d := d) (Q := Q) (k := 41) (f := 31443) (t := 1) (n := 2048) (i := 173) I (by decide) rfl rfl (by omega) (by omega) H
  exact ⟨z.1, by decide, z.2.1, z.2.2.1, z.2.2.2⟩
theorem ri_43 {d : Nat} {h0 h : AH} {Q : Option V → AH → Prop} {a : Nat} (r1 : 57 ≤ rc h0) (r2 : 45000 ≤ rs h0) (I : INI h0 h a 43 27040) (H : ∀ h, INI h0 h a 44 29088 → wp d K_X12_init 177 [vr (some (a + 44)), vr (some a)] [(0, vr (some a))] h Q) : wp d K_X12_init 173 [vr (some (a + 43)), vr (some a)] [(0, vr (some a))] h Q := by
  rw [bk_X12_init_173, nn_some, show Int32.toNatClampNeg 2048 = 2048 from rfl]
  have z := ri_n (d := d) (Q := Q) (k := 42) (f := 31444) (t := 1) (n := 2048) (i := 177) I (by decide) rfl rfl (by omega) (by omega) H
  exact ⟨z.1, by decide, z.2.1, z.2.2.1, z.2.2.2⟩
theorem ri_44 {d : Nat} {h0 h : AH} {Q : Option V → AH → Prop} {a : Nat} (r1 : 57 ≤ rc h0) (r2 : 45000 ≤ rs h0) (I : INI h0 h a 44 29088) (H : ∀ h, INI h0 h a 45 31136 → wp d K_X12_init 181 [vr (some (a + 45)), vr (some a)] [(0, vr (some a))] h Q) : wp d K_X12_init 177 [vr (some (a + 44)), vr (some a)] [(0, vr (some a))] h Q := by
  rw [bk_X12_init_177, nn_some, show Int32.toNatClampNeg 2048 = 2048 from rfl]
  have z := ri_n (d := d) (Q := Q) (k := 43) (f := 31445) (t := 1) (n := 2048) (i := 181) I (by decide) rfl rfl (by omega) (by omega) H
  exact ⟨z.1, by decide, z.2.1, z.2.2.1, z.2.2.2⟩
theorem ri_45 {d : Nat} {h0 h : AH} {Q : Option V → AH → Prop} {a : Nat} (r1 : 57 ≤ rc h0) (r2 : 45000 ≤ rs h0) (I : INI h0 h a 45 31136) (H : ∀ h, INI h0 h a 46 31145 → wp d K_X12_init 185 [vr (some (a + 46)), vr (some a)] [(0, vr (some a))] h Q) : wp d K_X12_init 181 [vr (some (a + 45)), vr (some a)] [(0, vr (some a))] h Q := by
  rw [bk_X12_init_181, nn_some, show Int32.toNatClampNeg 9 = 9 from rfl]
  have z := ri_n (d := d) (Q := Q) (k := 44) (f := 31446) (t := 1) (n := 9) (i := 185) I (by decide) rfl rfl (by omega) (by omega) H
  exact ⟨z.1, by decide, z.2.1, z.2.2.1, z.2.2.2⟩
theorem ri_46 {d : Nat} {h0 h : AH} {Q : Option V → AH → Prop} {a : Nat} (r1 : 57 ≤ rc h0) (r2 : 45000 ≤ rs h0) (I : INI h0 h a 46 31145) (H : ∀ h, INI h0 h a 47 31385 → wp d K_X12_init 189 [vr (some (a + 47)), vr (some a)] [(0, vr (some a))] h Q) : wp d K_X12_init 185 [vr (some (a + 46)), vr (some a)] [(0, vr (some a))] h Q := by
  rw [bk_X12_init_185, nn_some, show Int32.toNatClampNeg 240 = 240 from rfl]
  have z := ri_n (d := d) (Q := Q) (k := 45) (f := 31456) (t := 1) (n := 240) (i := 189) I (by decide) rfl rfl (by omega) (by omega) H
  exact ⟨z.1, by decide, z.2.1, z.2.2.1, z.2.2.2⟩
theorem ri_47 {d : Nat} {h0 h : AH} {Q : Option V → AH → Prop} {a : Nat} (r1 : 57 ≤ rc h0) (r2 : 45000 ≤ rs h0) (I : INI h0 h a 47 31385) (H : ∀ h, INI h0 h a 48 31625 → wp d K_X12_init 193 [vr (some (a + 48)), vr (some a)] [(0, vr (some a))] h Q) : wp d K_X12_init 189 [vr (some (a + 47)), vr (some a)] [(0, vr (some a))] h Q := by
  rw [bk_X12_init_189, nn_some, show Int32.toNatClampNeg 240 = 240 from rfl]
  have z := ri_n (d := d) (Q := Q) (k := 46) (f := 31458) (t := 4) (n := 240) (i := 193) I (by decide) rfl rfl (by omega) (by omega) H
  exact ⟨z.1, by decide, z.2.1, z.2.2.1, z.2.2.2⟩
theorem ri_48 {d : Nat} {h0 h : AH} {Q : Option V → AH → Prop} {a : Nat} (r1 : 57 ≤ rc h0) (r2 : 45000 ≤ rs h0) (I : INI h0 h a 48 31625) (H : ∀ h, INI h0 h a 49 35625 → wp d K_X12_init 197 [vr (some (a + 49)), vr (some a)] [(0, vr (some a))] h Q) : wp d K_X12_init 193 [vr (some (a + 48)), vr (some a)] [(0, vr (some a))] h Q := by
  rw [bk_X12_init_193, nn_some, show Int32.toNatClampNeg 4000 = 4000 from rfl]
  have z := ri_n (d := d) (Q := Q) (k := 47) (f := 31459) (t := 1) (n := 4000) (i := 197) I (by decide) rfl rfl (by omega) (by omega) H
  exact ⟨z.1, by decide, z.2.1, z.2.2.1, z.2.2.2⟩
theorem ri_49 {d : Nat} {h0 h : AH} {Q : Option V → AH → Prop} {a : Nat} (r1 : 57 ≤ rc h0) (r2 : 45000 ≤ rs h0) (I : INI h0 h a 49 35625) (H : ∀ h, INI h0 h a 50 39625 → wp d K_X12_init 201 [vr (some (a + 50)), vr (some a)] [(0, vr (some a))] h Q) : wp d K_X12_init 197 [vr (some (a + 49)), vr (some a)] [(0, vr (some a))] h Q := by
  rw [bk_X12_init_197, nn_some, show Int32.toNatClampNeg 4000 = 4000 from rfl]
  have z := ri_n (d := d) (Q := Q) (k := 48) (f := 31461) (t := 1) (n := 4000) (i := 201) I (by decide) rfl rfl (by omega) (by omega) H
  exact ⟨z.1, by decide, z.2.1, z.2.2.1, z.2.2.2⟩
theorem ri_50 {d : Nat} {h0 h : AH} {Q : Option V → AH → Prop} {a : Nat} (r1 : 57 ≤ rc h0) (r2 : 45000 ≤ rs h0) (I : INI h0 h a 50 39625) (H : ∀ h, INI h0 h a 51 43625 → wp d K_X12_init 205 [vr (some (a + 51)), vr (some a)] [(0, vr (some a))] h Q) : wp d K_X12_init 201 [vr (some (a + 50)), vr (some a)] [(0, vr (some a))] h Q := by
  rw [bk_X12_init_201, nn_some, show Int32.toNatClampNeg 4000 = 4000 from rfl]
  have z := ri_n (d := d) (Q := Q) (k := 49) (f := 31462) (t := 1) (n := 4000) (i := 205) I (by decide) rfl rfl (by omega) (by omega) H
  exact ⟨z.1, by decide, z.2.1, z.2.2.1, z.2.2.2⟩
theorem ri_51 {d : Nat} {h0 h : AH} {Q : Option V → AH → Prop} {a : Nat} (r1 : 57 ≤ rc h0) (r2 : 45000 ≤ rs h0) (I : INI h0 h a 51 43625) (H : ∀ h, INI h0 h a 52 43641 → wp d K_X12_init 209 [vr (some (a + 52)), vr (some a)] [(0, vr (some a))] h Q) : wp d K_X12_init 205 [vr (some (a + 51)), vr (some a)] [(0, vr (some a))] h Q := by
  rw [bk_X12_init_205, nn_some, show Int32.toNatClampNeg 16 = 16 from rfl]
  have z := ri_n (d := d) (Q := Q) (k := 50) (f := 31463) (t := 1) (n := 16) (i := 209) I (by decide) rfl rfl (by omega) (by omega) H
  exact ⟨z.1, by decide, z.2.1, z.2.2.1, z.2.2.2⟩
theorem ri_52 {d : Nat} {h0 h : AH} {Q : Option V → AH → Prop} {a : Nat} (r1 : 57 ≤ rc h0) (r2 : 45000 ≤ rs h0) (I : INI h0 h a 52 43641) (H : ∀ h, INI h0 h a 53 43657 → wp d K_X12_init 213 [vr (some (a + 53)), vr (some a)] [(0, vr (some a))] h Q) : wp d K_X12_init 209 [vr (some (a + 52)), vr (some a)] [(0, vr (some a))] h Q := by
  rw [bk_X12_init_209, nn_some, show Int32.toNatClampNeg 16 = 16 from rfl]
  have z := ri_n (d := d) (Q := Q) (k := 51) (f := 31470) (t := 1) (n := 16) (i := 213) I (by decide) rfl rfl (by omega) (by omega) H
  exact ⟨z.1, by decide, z.2.1, z.2.2.1, z.2.2.2⟩
theorem ri_53 {d : Nat} {h0 h : AH} {Q : Option V → AH → Prop} {a : Nat} (r1 : 57 ≤ rc h0) (r2 : 45000 ≤ rs h0) (I : INI h0 h a 53 43657) (H : ∀ h, INI h0 h a 54 43673 → wp d K_X12_init 217 [vr (some (a + 54)), vr (some a)] [(0, vr (some a))] h Q) : wp d K_X12_init 213 [vr (some (a + 53)), vr (some a)] [(0, vr (some a))] h Q := by
  rw [bk_X12_init_213, nn_some, show Int32.toNatClampNeg 16 = 16 from rfl]
  have z := ri_n (d := d) (Q := Q) (k := 52) (f := 31471) (t := 1) (n := 16) (i := 217) I (by decide) rfl rfl (by omega) (by omega) H
  exact ⟨z.1, by decide, z.2.1, z.2.2.1, z.2.2.2⟩
theorem ri_54 {d : Nat} {h0 h : AH} {Q : Option V → AH → Prop} {a : Nat} (r1 : 57 ≤ rc h0) (r2 : 45000 ≤ rs h0) (I : INI h0 h a 54 43673) (H : ∀ h, INI h0 h a 55 43689 → wp d K_X12_init 221 [vr (some (a + 55)), vr (some a)] [(0, vr (some a))] h Q) : wp d K_X12_init 217 [vr (some (a + 54)), vr (some a)] [(0, vr (some a))] h Q := by
  rw [bk_X12_init_217, nn_some, show Int32.toNatClampNeg 16 = 16 from rfl]
  have z := ri_n (d := d) (Q := Q) (k := 53) (f := 31472) (t := 1) (n := 16) (i := 221) I (by decide) rfl rfl (by omega) (by omega) H
  exact ⟨z.1, by decide, z.2.1, z.2.2.1, z.2.2.2⟩
theorem ri_55 {d : Nat} {h0 h : AH} {Q : Option V → AH → Prop} {a : Nat} (r1 : 57 ≤ rc h0) (r2 : 45000 ≤ rs h0) (I : INI h0 h a 55 43689) (H : ∀ h, INI h0 h a 56 44649 → wp d K_X12_init 225 [vr (some (a + 56)), vr (some a)] [(0, vr (some a))] h Q) : wp d K_X12_init 221 [vr (some (a + 55)), vr (some a)] [(0, vr (some a))] h Q := by
  rw [bk_X12_init_221, nn_some, show Int32.toNatClampNeg 960 = 960 from rfl]
  have z := ri_n (d := d) (Q := Q) (k := 54) (f := 31473) (t := 1) (n := 960) (i := 225) I (by decide) rfl rfl (by omega) (by omega) H
  exact ⟨z.1, by decide, z.2.1, z.2.2.1, z.2.2.2⟩
theorem r_init {d : Nat} {h0 : AH} {Q : Option V → AH → Prop} {a : Nat} (ta : tg h0 a = 15) (htp : tp h0 = a + 1) (z14 : ∀ f, f / 100 % 100 = 14 → fI h0 f a = 0 ∧ fJ h0 f a = 0) (r1 : 57 ≤ rc h0) (r2 : 45000 ≤ rs h0) (H : ∀ h, RS h a → (∀ k i, 1 ≤ k → k ≤ 56 → aI h (a + k) i = 0 ∧ aJ h (a + k) i = 0) → (∀ f, f / 100 % 100 = 14 → fI h f a = 0 ∧ fJ h f a = 0) → FX (fun g y => y = a ∧ g / 100 % 100 = 14) h0 h → tp h = a + 57 → rc h + 56 = rc h0 → rs h + 44649 = rs h0 → wp d K_X12_clear 0 [] [(0, vr (some a)), (1, vi 0)] h (fun v h1 => wp (d + 1) K_X12_init 229 (psh v []) [(0, vr (some a))] h1 Q)) : wp (d + 1) K_X12_init 0 [] [(0, vr (some a))] h0 Q := by
  refine ri_0 ta htp z14 r1 r2 (fun h I => ?_)
  refine ri_1 r1 r2 I (fun h I => ?_)
  refine ri_2 r1 r2 I (fun h I => ?_)
  refine ri_3 r1 r2 I (fun h I => ?_)
  refine ri_4 r1 r2 I (fun h I => ?_)
  refine ri_5 r1 r2 I (fun h I => ?_)
  refine ri_6 r1 r2 I (fun h I => ?_)
  refine ri_7 r1 r2 I (fun h I => ?_)
  refine ri_8 r1 r2 I (fun h I => ?_)
  refine ri_9 r1 r2 I (fun h I => ?_)
  refine ri_10 r1 r2 I (fun h I => ?_)
  refine ri_11 r1 r2 I (fun h I => ?_)
  refine ri_12 r1 r2 I (fun h I => ?_)
  refine ri_13 r1 r2 I (fun h I => ?_)
  refine ri_14 r1 r2 I (fun h I => ?_)
  refine ri_15 r1 r2 I (fun h I => ?_)
  refine ri_16 r1 r2 I (fun h I => ?_)
  refine ri_17 r1 r2 I (fun h I => ?_)
  refine ri_18 r1 r2 I (fun h I => ?_)
  refine ri_19 r1 r2 I (fun h I => ?_)
  refine ri_20 r1 r2 I (fun h I => ?_)
  refine ri_21 r1 r2 I (fun h I => ?_)
  refine ri_22 r1 r2 I (fun h I => ?_)
  refine ri_23 r1 r2 I (fun h I => ?_)
  refine ri_24 r1 r2 I (fun h I => ?_)
  refine ri_25 r1 r2 I (fun h I => ?_)
  refine ri_26 r1 r2 I (fun h I => ?_)
  refine ri_27 r1 r2 I (fun h I => ?_)
  refine ri_28 r1 r2 I (fun h I => ?_)
  refine ri_29 r1 r2 I (fun h I => ?_)
  refine ri_30 r1 r2 I (fun h I => ?_)
  refine ri_31 r1 r2 I (fun h I => ?_)
  refine ri_32 r1 r2 I (fun h I => ?_)
  refine ri_33 r1 r2 I (fun h I => ?_)
  refine ri_34 r1 r2 I (fun h I => ?_)
  refine ri_35 r1 r2 I (fun h I => ?_)
  refine ri_36 r1 r2 I (fun h I => ?_)
  refine ri_37 r1 r2 I (fun h I => ?_)
  refine ri_38 r1 r2 I (fun h I => ?_)
  refine ri_39 r1 r2 I (fun h I => ?_)
  refine ri_40 r1 r2 I (fun h I => ?_)
  refine ri_41 r1 r2 I (fun h I => ?_)
  refine ri_42 r1 r2 I (fun h I => ?_)
  refine ri_43 r1 r2 I (fun h I => ?_)
  refine ri_44 r1 r2 I (fun h I => ?_)
  refine ri_45 r1 r2 I (fun h I => ?_)
  refine ri_46 r1 r2 I (fun h I => ?_)
  refine ri_47 r1 r2 I (fun h I => ?_)
  refine ri_48 r1 r2 I (fun h I => ?_)
  refine ri_49 r1 r2 I (fun h I => ?_)
  refine ri_50 r1 r2 I (fun h I => ?_)
  refine ri_51 r1 r2 I (fun h I => ?_)
  refine ri_52 r1 r2 I (fun h I => ?_)
  refine ri_53 r1 r2 I (fun h I => ?_)
  refine ri_54 r1 r2 I (fun h I => ?_)
  refine ri_55 r1 r2 I (fun h I => ?_)
  rw [bk_X12_init_225, nn_some]
  obtain ⟨q1, q2, q3, q4, q5, q6, q7⟩ := I.last
  exact ⟨I.1.1, I.1.1, H _ q1 q2 q3 q4 q5 q6 q7⟩
