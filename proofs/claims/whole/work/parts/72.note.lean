/-! A thing is put into the midst of a list; mistakes of the class -/
def insF (f : Nat → Nat) (i y : Nat) : Nat → Nat := fun j => if j < i then f j else if j = i then y else f (j - 1)
theorem toBV_nI (a : Nat) : (nI a).toBitVec = BitVec.ofNat 32 a := rfl
theorem nI_or (a b : Nat) : nI a ||| nI b = nI (a ||| b) := by
  apply Int32.toBitVec_inj.mp
  rw [Int32.toBitVec_or, toBV_nI, toBV_nI, toBV_nI]
  apply BitVec.eq_of_toNat_eq
  rw [BitVec.toNat_or, BitVec.toNat_ofNat, BitVec.toNat_ofNat, BitVec.toNat_ofNat, Nat.or_mod_two_pow]
theorem or_add {a b m : Nat} (hb : b < 2 ^ m) : a * 2 ^ m ||| b = a * 2 ^ m + b := by
  rw [Nat.mul_comm, Nat.two_pow_add_eq_or_of_lt hb]
theorem key_bits {p c k : Nat} (hp : p < 4096) (hc : c < 16) (hk : k < 32) : ((nI p <<< (9 &&& 31 : Int32)) ||| (nI c <<< (5 &&& 31 : Int32))) ||| (kI k + 1) = nI (keyN p c k) := by
  have e1 : nI p <<< (9 &&& 31 : Int32) = nI (p * 2 ^ 9) := pk_shlN _ 9 (by decide) (by omega)
  have e2 : nI c <<< (5 &&& 31 : Int32) = nI (c * 2 ^ 5) := pk_shlN _ 5 (by decide) (by omega)
  have e3 : kI k + 1 = nI k := by
    unfold kI
    rw [Int32.sub_add_cancel]
  rw [e1, e2, e3, nI_or, nI_or, or_add (by omega)]
  have e4 : p * 2 ^ 9 + c * 2 ^ 5 = (p * 16 + c) * 2 ^ 5 := by omega
  rw [e4, or_add (by omega)]
  unfold keyN
  congr 1
  omega
/-- the mistakes in list L are ks -/
def ML (h : AH) (e0 L e : Nat) (ks : List Nat) : Prop := ∃ f, AL h e0 L e ks.length f ∧ ∀ i (hi : i < ks.length), tg h (f i) = 1 ∧ fI h 0 (f i) = nI ks[i]
section
variable {d : Nat} {h : AH} {Q : Option V → AH → Prop} {e0 L e n : Nat} {f : Nat → Nat}
theorem l_addAt (S : STK h e0) (A : AL h e0 L e n f) (hn : n < 2 ^ 20) (r1 : 1 ≤ rc h) (r2 : 2 * n + 10 ≤ rs h) {y i : Nat} (hi : i ≤ n) (hy : lTg (tg h y)) (hy2 : y < tp h)
    (H : ∀ h', ALp h h' e0 L e n (insF f i y) → Q none h') : wp (d + 6) K_Jx4a65c_add_7a177 0 [] [(0, vr (some L)), (1, vi (nI i)), (2, vr (some y))] h Q := by
  have A0 := A
  obtain ⟨a1, a2, a3, a4, a5, a6, a7, a8, a9⟩ := A
  have arr : tg h e = 151 ∨ fI h 9901 e = 152 ∨ fI h 9901 e = 153 ∨ tg h e = 101 ∨ tg h e = 102 ∨ tg h e = 103 ∨ tg h e = 104 ∨ tg h e = 109 := by
    rcases a8 with q | q
    · exact Or.inr (Or.inr (Or.inr (Or.inr (Or.inr (Or.inr (Or.inr q.1))))))
    · exact Or.inr (Or.inr (Or.inl (by rw [q.1]; exact S.2.1)))
  rw [bk_Jx4a65c_add_7a177_0]
  refine ⟨a1, ?_⟩
  rw [bk_Jx4a65c_rangeCheckForAdd_d00df_0, a5, bk_Jx4a65c_rangeCheckForAdd_d00df_4, bk_Jx4a65c_rangeCheckForAdd_d00df_13]
  refine ⟨a1, fun q => ?_, fun _ => ⟨fun _ => ?_, fun q => absurd (nI_pos' (by omega)) q⟩⟩
  · rw [nI_ltI (by omega) (by omega)] at q; omega
  simp only [psh]
  rw [bk_Jx4a65c_add_7a177_3]
  have x0 : FX (EL L e) h (setFI h 100 L (fI h 100 L + 1)) := FX.FI (Or.inl ⟨rfl, Or.inl rfl⟩)
  rw [show fP (setFI h 100 L (fI h 100 L + 1)) 30101 L = some e from a3, show fI (setFI h 100 L (fI h 100 L + 1)) 102 L = nI n by rw [(FX.FI (E := fun g x => g = 100) rfl).fI a2 (by decide)]; exact a5, nn_some]
  have A1 : AL (setFI h 100 L (fI h 100 L + 1)) e0 L e n f := A0.fx (E := fun g x => g = 100) (FX.FI rfl) (by decide) (by decide) (Or.inr (by decide))
  have S1 : STK (setFI h 100 L (fI h 100 L + 1)) e0 := S.fx (E := fun g x => g = 100) (FX.FI rfl) (fun _ => by decide) (fun _ => by decide) (fun _ => by decide)
  have q1 : tp (setFI h 100 L (fI h 100 L + 1)) = tp h := rfl
  have q2 : rc (setFI h 100 L (fI h 100 L + 1)) = rc h := rfl
  have q3 : rs (setFI h 100 L (fI h 100 L + 1)) = rs h := rfl
  have q4 : tg (setFI h 100 L (fI h 100 L + 1)) = tg h := rfl
  have q5 : ln (setFI h 100 L (fI h 100 L + 1)) = ln h := rfl
  have q6 : ∀ x, fI (setFI h 100 L (fI h 100 L + 1)) 9901 x = fI h 9901 x := fun x => rfl
  refine ⟨a1, a1, a1, a1, by rw [q4, q6]; exact arr, ?_⟩
  generalize setFI h 100 L (fI h 100 L + 1) = h1 at *
  have put : ∀ (h2 : AH) e', AL h2 e0 L e' n f → n < ln h2 e' → tg h2 e' = 109 → FX (EL L e) h h2 → (e' = e ∧ tg h e = 109 ∨ e' = tp h) → rc h + ln h e ≤ rc h2 + ln h2 e' → rs h + 4 * ln h e ≤ rs h2 + 4 * ln h2 e' → tp h2 ≤ tp h + 1 → wp (d + 6) K_Jx4a65c_add_7a177 22 [] [(0, vr (some L)), (1, vi (nI i)), (2, vr (some y)), (3, vi (nI n)), (4, vr (some e'))] h2 Q := by
    intro h2 e' A2 lt2 t2 X2 E2 R2 S2 T2
    obtain ⟨b1, b2, b3, b4, b5, b6, b7, b8, b9⟩ := A2
    have yt : tg h2 y = tg h y := X2.tg hy2
    have y2 : y < tp h2 := Nat.lt_of_lt_of_le hy2 X2.1
    rw [bk_Jx4a65c_add_7a177_22, nn_some, nn_some, nn_some, nn_some, pk_sub hi, nI_1, nI_clamp (by omega), nI_clamp (by omega), nI_clamp (by omega), nI_1]
    refine ⟨t2, t2, ⟨nI_pos' (by omega), nI_pos' (by omega), nI_pos' (by omega), by omega, by omega⟩, ⟨rfl, fun j y hj ey => ?_⟩, t2, by show lTg (tg h2 y); rw [yt]; exact hy, pk_in i (ln h2 e') (by omega) rfl (by omega), b1, ?_⟩
    · obtain ⟨c1, c2, -⟩ := b9 (i + j) (by omega)
      rw [c1] at ey
      cases ey
      exact c2
    · refine H _ ⟨e', ⟨b1, b2, b3, b4, ?_, by show n + 1 ≤ ln h2 e'; omega, by show ln h2 e' ≤ _; omega, ?_, fun j hj => ?_⟩, ?_, E2, R2, S2, T2⟩
      · show (if 102 = 102 ∧ L = L then nI (n + 1) else _) = _
        rw [if_pos ⟨rfl, rfl⟩]
      · rcases b8 with q | q
        · exact Or.inl q
        · exfalso
          have := X2.ln S.2.2.2.1
          rw [S.2.2.1] at this
          rw [q.1] at lt2
          omega
      · show (if e' = e' ∧ j = i then some y else if e' = e' ∧ i + 1 ≤ j ∧ j < i + 1 + (n - i) then aP h2 e' (i + (j - (i + 1))) else aP h2 e' j) = some (insF f i y j) ∧ lTg (tg h2 (insF f i y j)) ∧ insF f i y j < tp h2
        unfold insF
        by_cases c : j < i
        · rw [if_neg (by omega), if_neg (by omega), if_pos c]
          exact b9 j (by omega)
        · rw [if_neg c]
          by_cases c2 : j = i
          · rw [if_pos ⟨rfl, c2⟩, if_pos c2, yt]
            exact ⟨rfl, hy, y2⟩
          · rw [if_neg (fun z => c2 z.2), if_neg c2, if_pos ⟨rfl, by omega, by omega⟩, show i + (j - (i + 1)) = j - 1 by omega]
            exact b9 (j - 1) (by omega)
      · rcases E2 with ⟨E2, -⟩ | E2
        · subst E2
          exact X2.tr ((FX.C (E := EL L e') (Or.inr ⟨rfl, rfl⟩)).tr ((FX.AP (Or.inr ⟨rfl, rfl⟩)).tr (FX.FI (Or.inl ⟨rfl, Or.inr (Or.inl rfl)⟩))))
        · have x4 : FX (fun g x => EL L e g x ∨ (g = 90003 ∧ x = tp h)) h (setFI (setAP (cpyP h2 e' i e' (i + 1) (n - i)) e' i (some y)) 102 L (nI (n + 1))) :=
            (X2.mono (fun _ _ z => Or.inl z)).tr ((FX.C (Or.inr ⟨rfl, E2⟩)).tr ((FX.AP (Or.inr ⟨rfl, E2⟩)).tr (FX.FI (Or.inl (Or.inl ⟨rfl, Or.inr (Or.inl rfl)⟩)))))
          exact x4.less (fun g x hx z => by
            rcases z with z | ⟨z, z2⟩
            · exact z
            · rcases hx with hx | hx
              · omega
              · rw [z] at hx; exact absurd hx (by decide)) (fun x hx z => by
            rcases z with z | ⟨z, -⟩
            · exact z
            · exact absurd z (by decide)) (fun x hx z => by
            rcases z with z | ⟨-, z⟩
            · exact z
            · omega)
  have lx : nI n = Int32.ofNat (ln h1 e) ↔ n = ln h1 e := by
    rw [show Int32.ofNat (ln h1 e) = nI (ln h1 e) from rfl]
    constructor
    · intro q
      have := congrArg tn q
      rwa [tn_nI (by omega), tn_nI (by rw [q5]; omega)] at this
    · intro q; rw [← q]
  refine ⟨fun z => ?_, fun z => ?_⟩
  · have z : ¬ n = ln h1 e := fun q => z (lx.mpr q)
    rw [q5] at z
    refine put h1 e A1 (by rw [q5]; omega) ?_ x0 ?_ (by rw [q2, q5]; omega) (by rw [q3, q5]; omega) (by omega)
    · rcases a8 with q | q
      · rw [q4]; exact q.1
      · exfalso
        have := S.2.2.1
        rw [q.1] at z a6
        omega
    · rcases a8 with q | q
      · exact Or.inl ⟨rfl, q.1⟩
      · exfalso
        have := S.2.2.1
        rw [q.1] at z a6
        omega
  · have z : n = ln h1 e := lx.mp (Classical.not_not.mp z)
    rw [bk_Jx4a65c_add_7a177_19]
    refine ⟨by rw [q4]; exact a1, ?_⟩
    refine l_grow S1 A1 z hn (by rw [q2]; exact r1) (by rw [q3]; exact r2) (fun h2 e' A2 lt2 t2 te tp2 rc2 rs2 X2 => ?_)
    simp only [psh, bk_Jx4a65c_add_7a177_21]
    exact put h2 e' A2 lt2 t2 (x0.tr X2) (Or.inr (by rw [te, q1])) (by rw [q2, q5] at rc2; exact rc2) (by rw [q3, q5] at rs2; exact rs2) (by rw [tp2, q1]; exact Nat.le_refl _)
theorem i_intValue {a : Nat} (ht : tg h a = 1) : wp d K_J6_intValue_8abf5 0 [] [(0, vr (some a))] h Q = Q (some (vi (fI h 0 a))) h := by
  rw [bk_J6_intValue_8abf5_0]
  exact propext (and_iff_right ht)
/-- an int that is not kept becomes a thing of its own -/
theorem i_valueOf (S : STK h e0) {k : Nat} (hk : 127 < k) (hk2 : k < 2 ^ 31) (r1 : 1 ≤ rc h) (r2 : 1 ≤ rs h) (H : ∀ h', h' = setFI (newO h 0 1) 0 (tp h) (nI k) → Q (some (vr (some (tp h)))) h') : wp (d + 4) K_J6_valueOf_2dffe 0 [] [(0, vi (nI k))] h Q := by
  have e12 : wp (d + 4) K_J6_valueOf_2dffe 12 [] [(0, vi (nI k))] h Q := by
    rw [bk_J6_valueOf_2dffe_12]
    refine ⟨by omega, r2, ?_⟩
    have t1 : tg (newO h 0 1) (tp h) = 1 := by show (if tp h = tp h then 0 + 1 else _) = _; rw [if_pos rfl]
    rw [bk_J6_valueOf_2dffe_13, nn_some]
    refine ⟨t1, ?_⟩
    rw [bk_J6_init_d00df_0]
    refine ⟨t1, ?_⟩
    rw [bk_Jxd2413_init_da8c8_0]
    simp only [psh]
    rw [bk_J6_init_d00df_2]
    refine ⟨t1, ?_⟩
    simp only [psh, bk_J6_valueOf_2dffe_16]
    exact H _ rfl
  rw [bk_J6_valueOf_2dffe_0, bk_J6_valueOf_2dffe_3, S.2.2.2.2.1]
  refine ⟨fun _ => e12, fun _ => ⟨fun _ => e12, fun q => ?_⟩⟩
  rw [show (127 : Int32) = nI 127 from rfl, nI_ltI (by omega) (by omega)] at q
  omega
end
