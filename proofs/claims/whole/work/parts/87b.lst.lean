/-! The class's reading: lists, mistakes, catches around -/
section
variable {d : Nat} {h : AH} {Q : Option V → AH → Prop} {e0 L e n : Nat} {f : Nat → Nat}
theorem l_add2 (S : STK h e0) (A : AL h e0 L e n f) (hn : n < 2 ^ 20) (r1 : 1 ≤ rc h) (r2 : 2 * n + 10 ≤ rs h) {y : Nat} (hy : lTg (tg h y)) (hy2 : y < tp h)
    (H : ∀ h', ALp h h' e0 L e n (up1 f n y) → (tp h' = tp h ∨ tg h' (tp h) = 109) → Q (some (vi 1)) h') : wp (d + 6) K_Jx4a65c_add_9ea2d 0 [] [(0, vr (some L)), (1, vr (some y))] h Q := by
  have A0 := A
  obtain ⟨a1, a2, a3, a4, a5, a6, a7, a8, a9⟩ := A
  have arr : tg h e = 151 ∨ fI h 9901 e = 152 ∨ fI h 9901 e = 153 ∨ tg h e = 101 ∨ tg h e = 102 ∨ tg h e = 103 ∨ tg h e = 104 ∨ tg h e = 109 := by
    rcases a8 with q | q
    · exact Or.inr (Or.inr (Or.inr (Or.inr (Or.inr (Or.inr (Or.inr q.1))))))
    · exact Or.inr (Or.inr (Or.inl (by rw [q.1]; exact S.2.1)))
  have x0 : FX (EL L e) h (setFI h 100 L (fI h 100 L + 1)) := FX.FI (Or.inl ⟨rfl, Or.inl rfl⟩)
  rw [bk_Jx4a65c_add_9ea2d_0]
  refine ⟨a1, a1, a1, a1, a1, ?_⟩
  rw [show fP (setFI h 100 L (fI h 100 L + 1)) 30101 L = some e from a3, show fI (setFI h 100 L (fI h 100 L + 1)) 102 L = nI n by rw [(FX.FI (E := fun g x => g = 100) rfl).fI a2 (by decide)]; exact a5]
  have A1 : AL (setFI h 100 L (fI h 100 L + 1)) e0 L e n f := A0.fx (E := fun g x => g = 100) (FX.FI rfl) (by decide) (by decide) (Or.inr (by decide))
  have S1 : STK (setFI h 100 L (fI h 100 L + 1)) e0 := S.fx (E := fun g x => g = 100) (FX.FI rfl) (fun _ => by decide) (fun _ => by decide) (fun _ => by decide)
  have q1 : tp (setFI h 100 L (fI h 100 L + 1)) = tp h := rfl
  have q2 : rc (setFI h 100 L (fI h 100 L + 1)) = rc h := rfl
  have q3 : rs (setFI h 100 L (fI h 100 L + 1)) = rs h := rfl
  have q4 : tg (setFI h 100 L (fI h 100 L + 1)) = tg h := rfl
  have q5 : ln (setFI h 100 L (fI h 100 L + 1)) = ln h := rfl
  rw [bk_Jx4a65c_add_72be8_0, nn_some]
  refine ⟨by rw [q4]; rcases arr with z | z | z | z | z | z | z | z; exact Or.inl z; exact Or.inr (Or.inl z); exact Or.inr (Or.inr (Or.inl z)); exact Or.inr (Or.inr (Or.inr (Or.inl z))); exact Or.inr (Or.inr (Or.inr (Or.inr (Or.inl z)))); exact Or.inr (Or.inr (Or.inr (Or.inr (Or.inr (Or.inl z))))); exact Or.inr (Or.inr (Or.inr (Or.inr (Or.inr (Or.inr (Or.inl z)))))); exact Or.inr (Or.inr (Or.inr (Or.inr (Or.inr (Or.inr (Or.inr z)))))), ?_⟩
  generalize setFI h 100 L (fI h 100 L + 1) = h1 at *
  -- the thing is put into an array that has room
  have put : ∀ (h2 : AH) e', AL h2 e0 L e' n f → n < ln h2 e' → tg h2 e' = 109 → FX (EL L e) h h2 → (e' = e ∧ tg h e = 109 ∨ e' = tp h) → rc h + ln h e ≤ rc h2 + ln h2 e' → rs h + 4 * ln h e ≤ rs h2 + 4 * ln h2 e' → tp h2 ≤ tp h + 1 → (tp h2 = tp h ∨ tg h2 (tp h) = 109) → wp (d + 5) K_Jx4a65c_add_72be8 7 [] [(0, vr (some L)), (1, vr (some y)), (2, vr (some e')), (3, vi (nI n))] h2 (fun v h1 => wp (d + 6) K_Jx4a65c_add_9ea2d 13 (psh v []) [(0, vr (some L)), (1, vr (some y))] h1 Q) := by
    intro h2 e' A2 lt2 t2 X2 E2 R2 S2 T2 T3
    obtain ⟨b1, b2, b3, b4, b5, b6, b7, b8, b9⟩ := A2
    have yt : tg h2 y = tg h y := X2.tg hy2
    have y2 : y < tp h2 := Nat.lt_of_lt_of_le hy2 X2.1
    rw [bk_Jx4a65c_add_72be8_7, nn_some, nn_some]
    refine ⟨t2, by rw [yt]; exact hy, pk_in n (ln h2 e') lt2, b1, ?_⟩
    rw [nI_clamp (by omega), nI_1]
    simp only [psh, bk_Jx4a65c_add_9ea2d_13]
    refine ⟨Or.inr trivial, H _ ⟨e', ⟨b1, b2, b3, b4, ?_, by show n + 1 ≤ ln h2 e'; omega, by show ln h2 e' ≤ _; omega, ?_, fun i hi => ?_⟩, ?_, E2, R2, S2, T2⟩ T3⟩
    · show (if 102 = 102 ∧ L = L then nI (n + 1) else _) = _
      rw [if_pos ⟨rfl, rfl⟩]
    · rcases b8 with q | q
      · exact Or.inl q
      · exfalso
        have := X2.ln S.2.2.2.1
        rw [S.2.2.1] at this
        rw [q.1] at lt2
        omega
    · show (if e' = e' ∧ i = n then some y else aP h2 e' i) = some (up1 f n y i) ∧ lTg (tg h2 (up1 f n y i)) ∧ up1 f n y i < tp h2
      by_cases c : i = n
      · rw [if_pos ⟨rfl, c⟩]
        unfold up1
        rw [if_pos c, yt]
        exact ⟨rfl, hy, y2⟩
      · rw [if_neg (fun z => c z.2)]
        unfold up1
        rw [if_neg c]
        exact b9 i (by omega)
    · rcases E2 with ⟨E2, -⟩ | E2
      · subst E2
        exact X2.tr ((FX.AP (E := EL L e') (Or.inr ⟨rfl, rfl⟩)).tr (FX.FI (Or.inl ⟨rfl, Or.inr (Or.inl rfl)⟩)))
      · have x4 : FX (fun g x => EL L e g x ∨ (g = 90003 ∧ x = tp h)) h (setFI (setAP h2 e' n (some y)) 102 L (nI (n + 1))) :=
          (X2.mono (fun _ _ z => Or.inl z)).tr ((FX.AP (Or.inr ⟨rfl, E2⟩)).tr (FX.FI (Or.inl (Or.inl ⟨rfl, Or.inr (Or.inl rfl)⟩))))
        exact x4.less (fun g x hx z => by
          rcases z with z | ⟨z, z2⟩
          · exact z
          · rcases hx with hx | hx
            · omega
            · rw [z] at hx; exact absurd hx (by decide)) (fun x hx z => by
          rcases z with z | ⟨z, -⟩
          · exact z
          · exact absurd z (by decide)) (fun x hx z => by
          rcases z with z | ⟨-, z⟩
          · exact z
          · omega)
  have lx : nI n = Int32.ofNat (ln h1 e) ↔ n = ln h1 e := by
    rw [show Int32.ofNat (ln h1 e) = nI (ln h1 e) from rfl]
    constructor
    · intro q
      have := congrArg tn q
      rwa [tn_nI (by omega), tn_nI (by rw [q5]; omega)] at this
    · intro q; rw [← q]
  refine ⟨fun z => ?_, fun z => ?_⟩
  · have z : ¬ n = ln h1 e := fun q => z (lx.mpr q)
    rw [q5] at z
    refine put h1 e A1 (by rw [q5]; omega) ?_ x0 ?_ (by rw [q2, q5]; omega) (by rw [q3, q5]; omega) (by omega) (Or.inl q1)
    · rcases a8 with q | q
      · rw [q4]; exact q.1
      · exfalso
        have := S.2.2.1
        rw [q.1] at z a6
        omega
    · rcases a8 with q | q
      · exact Or.inl ⟨rfl, q.1⟩
      · exfalso
        have := S.2.2.1
        rw [q.1] at z a6
        omega
  · have z : n = ln h1 e := lx.mp (Classical.not_not.mp z)
    rw [bk_Jx4a65c_add_72be8_4]
    refine ⟨by rw [q4]; exact a1, ?_⟩
    refine l_grow S1 A1 z hn (by rw [q2]; exact r1) (by rw [q3]; exact r2) (fun h2 e' A2 lt2 t2 te tp2 rc2 rs2 X2 => ?_)
    simp only [psh, bk_Jx4a65c_add_72be8_6]
    exact put h2 e' A2 lt2 t2 (x0.tr X2) (Or.inr (by rw [te, q1])) (by rw [q2, q5] at rc2; exact rc2) (by rw [q3, q5] at rs2; exact rs2) (by rw [tp2, q1]; exact Nat.le_refl _) (Or.inr (by rw [← q1, ← te]; exact t2))
end
def ELs (U e0 g x : Nat) : Prop := ((x = U + 6 ∨ x = U + 7 ∨ x = U + 8) ∧ (g = 100 ∨ g = 102 ∨ g = 30101)) ∨ (g = 90003 ∧ (U + 10 ≤ x ∨ x = e0))
/-- what reading a statement may change of what was there -/
def EPa (T U e0 : Nat) (sc : List Nat) (g x : Nat) : Prop := ET T g x ∨ ELs U e0 g x ∨ (x ∈ sc ∧ g = 10304) ∨ (x = U + 9 ∧ (g = 702 ∨ g = 703 ∨ g = 704 ∨ g = 10705 ∨ g = 30706))
/-- the unit's lists: methods, statements, mistakes; B credits are left -/
def LST (h : AH) (U e0 nm : Nat) (fW : Nat → Nat) (ns : Nat) (fS : Nat → Nat) (ks : List Nat) (B : Nat) : Prop := ∃ eW eS eM, AL h e0 (U + 6) eW nm fW ∧ AL h e0 (U + 7) eS ns fS ∧ ML h e0 (U + 8) eM ks ∧ ((∀ i, i < nm → tg h (fW i) = 13) ∧ ∀ i, i < ns → tg h (fS i) = 9) ∧ (leL ks ∧ ∀ k, k ∈ ks → k < 2 ^ 31) ∧
  ((eW = e0 ∨ (U + 10 ≤ eW ∧ ¬ eW = eS ∧ ¬ eW = eM)) ∧ (eS = e0 ∨ (U + 10 ≤ eS ∧ ¬ eS = eM)) ∧ (eM = e0 ∨ U + 10 ≤ eM) ∧ e0 < U) ∧
  (40000 + 6 * B ≤ rc h + (ln h eW + ln h eS + ln h eM) ∧ 200000 + 60 * B ≤ rs h + 4 * (ln h eW + ln h eS + ln h eM) ∧ ks.length + B ≤ 16000 ∧ nm ≤ 13 ∧ ns ≤ 121)
theorem AL.e0 {h : AH} {e0 L e n : Nat} {f : Nat → Nat} (S : STK h e0) (A : AL h e0 L e n f) : e = e0 → n = 0 := fun z => by
  have l := A.2.2.2.2.2.1
  rw [z, S.2.2.1] at l
  omega
theorem LST.room {h : AH} {U e0 nm ns B : Nat} {fW fS : Nat → Nat} {ks : List Nat} (l : LST h U e0 nm fW ns fS ks B) : 3000 ≤ rc h ∧ 60000 ≤ rs h ∧ ks.length ≤ 16000 ∧ nm ≤ 13 ∧ ns ≤ 121 := by
  obtain ⟨eW, eS, eM, a, b, ⟨f, c, -⟩, -, -, -, r1, r2, r3, r4, r5⟩ := l
  have h1 := a.2.2.2.2.2.2.1
  have h2 := b.2.2.2.2.2.2.1
  have h3 := c.2.2.2.2.2.2.1
  exact ⟨by omega, by omega, by omega, r4, r5⟩
theorem LST.less {h : AH} {U e0 nm ns B B' : Nat} {fW fS : Nat → Nat} {ks : List Nat} (l : LST h U e0 nm fW ns fS ks B) (hb : B' ≤ B) : LST h U e0 nm fW ns fS ks B' := by
  obtain ⟨eW, eS, eM, a, b, c, t, s, j, r1, r2, r3, r4⟩ := l
  exact ⟨eW, eS, eM, a, b, c, t, s, j, by omega, by omega, by omega, r4⟩
theorem LST.cg {h : AH} {U e0 nm ns B : Nat} {fW fS fW' fS' : Nat → Nat} {ks : List Nat} (l : LST h U e0 nm fW ns fS ks B) (e1 : ∀ i, i < nm → fW i = fW' i) (e2 : ∀ i, i < ns → fS i = fS' i) : LST h U e0 nm fW' ns fS' ks B := by
  obtain ⟨eW, eS, eM, a, b, c, ⟨t1, t2⟩, s⟩ := l
  have cg : ∀ {L e n : Nat} {f g : Nat → Nat}, AL h e0 L e n f → (∀ i, i < n → f i = g i) → AL h e0 L e n g := fun A e => by
    obtain ⟨a1, a2, a3, a4, a5, a6, a7, a8, a9⟩ := A
    exact ⟨a1, a2, a3, a4, a5, a6, a7, a8, fun i hi => by rw [← e i hi]; exact a9 i hi⟩
  exact ⟨eW, eS, eM, cg a e1, cg b e2, c, ⟨fun i hi => by rw [← e1 i hi]; exact t1 i hi, fun i hi => by rw [← e2 i hi]; exact t2 i hi⟩, s⟩
/-- nothing of the lists has changed, c cells and s places have gone -/
theorem LST.fx {E : Nat → Nat → Prop} {h h' : AH} {U e0 nm ns B : Nat} {fW fS : Nat → Nat} {ks : List Nat} (k : Nat) (l : LST h U e0 nm fW ns fS ks (B + k)) (x : FX E h h') (n1 : ∀ L, L = U + 6 ∨ L = U + 7 ∨ L = U + 8 → ¬ E 30101 L ∧ ¬ E 102 L) (n2 : ∀ e, ¬ E 90003 e) (n3 : ∀ y, ¬ E 0 y) (r1 : rc h ≤ rc h' + 6 * k) (r2 : rs h ≤ rs h' + 60 * k) : LST h' U e0 nm fW ns fS ks B := by
  obtain ⟨eW, eS, eM, a, b, c, ⟨t1, t2⟩, s, j, q1, q2, q3, q4⟩ := l
  have lW := x.ln a.2.2.2.1
  have lS := x.ln b.2.2.2.1
  obtain ⟨f, cA, cB⟩ := c
  have lM := x.ln cA.2.2.2.1
  refine ⟨eW, eS, eM, a.fx x (n1 _ (by omega)).1 (n1 _ (by omega)).2 (Or.inr (n2 _)), b.fx x (n1 _ (by omega)).1 (n1 _ (by omega)).2 (Or.inr (n2 _)), ML.fx ⟨f, cA, cB⟩ x (n1 _ (by omega)).1 (n1 _ (by omega)).2 (Or.inr (n2 _)) n3, ⟨fun i hi => ?_, fun i hi => ?_⟩, s, j, ?_, ?_, by omega, q4⟩
  · rw [x.tg (a.2.2.2.2.2.2.2.2 i hi).2.2]; exact t1 i hi
  · rw [x.tg (b.2.2.2.2.2.2.2.2 i hi).2.2]; exact t2 i hi
  · rw [lW, lS, lM]; omega
  · rw [lW, lS, lM]; omega
theorem LST.pw {h h' : AH} {T U e0 nm ns B : Nat} {fW fS : Nat → Nat} {ks : List Nat} (l : LST h U e0 nm fW ns fS ks B) (x : PW T U h h') : LST h' U e0 nm fW ns fS ks B :=
  LST.fx 0 l x.1 (fun L _ => ⟨EPW_no (by omega), EPW_no (by omega)⟩) (fun e => EPW_no (by omega)) (fun y => EPW_no (by omega)) (by rw [x.2.2.1]; omega) (by rw [x.2.2.2]; omega)
section
variable {d : Nat} {h : AH} {Q : Option V → AH → Prop} {T U e0 nm ns B : Nat} {fW fS : Nat → Nat} {ks : List Nat}
theorem EL_ls {L e g x : Nat} (hL : L = U + 6 ∨ L = U + 7 ∨ L = U + 8) (he : e = e0 ∨ U + 10 ≤ e) (z : EL L e g x) : ELs U e0 g x := by
  rcases z with ⟨z1, z2⟩ | ⟨z1, z2⟩
  · exact Or.inl ⟨by omega, z2⟩
  · exact Or.inr ⟨z1, by omega⟩
/-- a mistake is noted -/
theorem p_note (C : CXT h T U e0) (l : LST h U e0 nm fW ns fS ks (B + 1)) {p c k : Nat} (hp0 : 0 < p) (hp : p < 4096) (hc : c < 16) (hk : k < 32) (H : ∀ h' ks', LST h' U e0 nm fW ns fS ks' B → ks'.Perm ([keyN p c k] ++ ks) → FX (ELs U e0) h h' → tp h' ≤ tp h + 2 → Q none h') : wp (d + 7) K_X8_note 0 [] [(0, vr (some U)), (1, vi (nI c)), (2, vi (nI p)), (3, vi (kI k))] h Q := by
  have room := l.room
  obtain ⟨⟨c1, cv⟩, c2, c3, c4, c5, c6, c7, c8, c9, c10, c11⟩ := C
  obtain ⟨eW, eS, eM, a, b, m, ⟨t1, t2⟩, ⟨s1, s2⟩, ⟨j1, j2, j3, j4⟩, q1, q2, q3, q4, q5⟩ := l
  refine u_note c1 c4 (by omega) c8 m s1 (by omega) s2 (by omega) (by omega) hp0 hp hc hk (fun h' ks' P => ?_)
  obtain ⟨e', M', S', pm, X, ee, R1, R2, R3⟩ := P
  have aM := m
  obtain ⟨f, mA, -⟩ := aM
  have w3 : nm = 0 ∨ ¬ EL (U + 8) eM 90003 eW := by
    rcases j1 with z | z
    · exact Or.inl (AL.e0 c1 a z)
    · refine Or.inr (fun y => ?_)
      rcases y with ⟨-, y⟩ | ⟨-, y⟩ <;> omega
  have s3 : ns = 0 ∨ ¬ EL (U + 8) eM 90003 eS := by
    rcases j2 with z | z
    · exact Or.inl (AL.e0 c1 b z)
    · refine Or.inr (fun y => ?_)
      rcases y with ⟨-, y⟩ | ⟨-, y⟩ <;> omega
  have nf : ∀ g L, (L = U + 6 ∨ L = U + 7) → g = 30101 ∨ g = 102 → ¬ EL (U + 8) eM g L := fun g L hL hg y => by
    rcases y with ⟨y, -⟩ | ⟨y, -⟩ <;> omega
  have lW := X.ln a.2.2.2.1
  have lS := X.ln b.2.2.2.1
  have tpo : U + 10 ≤ tp h := by omega
  refine H h' ks' ⟨eW, eS, e', a.fx X (nf _ _ (by omega) (by omega)) (nf _ _ (by omega) (by omega)) w3, b.fx X (nf _ _ (by omega) (by omega)) (nf _ _ (by omega) (by omega)) s3, M', ⟨fun i hi => ?_, fun i hi => ?_⟩, ⟨S', fun k' hk' => ?_⟩, ⟨?_, ?_, ?_, j4⟩, ?_, ?_, ?_, q4, q5⟩ pm (X.mono (fun g x z => EL_ls (by omega) j3 z)) R3
  · rw [X.tg (a.2.2.2.2.2.2.2.2 i hi).2.2]; exact t1 i hi
  · rw [X.tg (b.2.2.2.2.2.2.2.2 i hi).2.2]; exact t2 i hi
  · rcases List.mem_cons.mp (pm.mem_iff.mp hk') with z | z
    · rw [z]; unfold keyN; omega
    · exact s2 _ z
  · rcases j1 with z | ⟨z1, z2, z3⟩
    · exact Or.inl z
    · refine Or.inr ⟨z1, z2, ?_⟩
      have := a.2.2.2.1
      rcases ee with ⟨y, -⟩ | y <;> omega
  · rcases j2 with z | ⟨z1, z2⟩
    · exact Or.inl z
    · refine Or.inr ⟨z1, ?_⟩
      have := b.2.2.2.1
      rcases ee with ⟨y, -⟩ | y <;> omega
  · rcases ee with ⟨y, y2⟩ | y
    · rw [y]; exact j3
    · exact Or.inr (by omega)
  · rw [lW, lS]; omega
  · rw [lW, lS]; omega
  · rw [pm.length_eq, List.length_cons]; omega
/-- a statement comes into its list -/
theorem p_addS (C : CXT h T U e0) (l : LST h U e0 nm fW ns fS ks B) (hn : ns ≤ 120) {y : Nat} (hy : tg h y = 9) (hy2 : y < tp h) (H : ∀ h', LST h' U e0 nm fW (ns + 1) (up1 fS ns y) ks B → FX (ELs U e0) h h' → (tp h' ≤ tp h + 1 ∧ (tp h' = tp h ∨ tg h' (tp h) = 109)) → Q (some (vi 1)) h') : wp (d + 6) K_Jx4a65c_add_9ea2d 0 [] [(0, vr (some (U + 7))), (1, vr (some y))] h Q := by
  have room := l.room
  obtain ⟨⟨c1, cv⟩, c2, c3, c4, c5, c6, c7, c8, c9, c10, c11⟩ := C
  obtain ⟨eW, eS, eM, a, b, m, ⟨t1, t2⟩, ⟨s1, s2⟩, ⟨j1, j2, j3, j4⟩, q1, q2, q3, q4, q5⟩ := l
  refine l_add2 c1 b (by omega) (by omega) (by omega) (Or.inr (Or.inl hy)) hy2 (fun h' P T3 => ?_)
  obtain ⟨e', A', X, ee, R1, R2, R3⟩ := P
  have m0 := m
  obtain ⟨f, mA, -⟩ := m0
  have w3 : nm = 0 ∨ ¬ EL (U + 7) eS 90003 eW := by
    rcases j1 with z | z
    · exact Or.inl (AL.e0 c1 a z)
    · refine Or.inr (fun y => ?_)
      rcases y with ⟨-, y⟩ | ⟨-, y⟩ <;> omega
  have m3 : ks.length = 0 ∨ ¬ EL (U + 7) eS 90003 eM := by
    rcases j3 with z | z
    · exact Or.inl (AL.e0 c1 mA z)
    · refine Or.inr (fun y => ?_)
      rcases y with ⟨-, y⟩ | ⟨-, y⟩ <;> omega
  have nf : ∀ g L, (L = U + 6 ∨ L = U + 8) → g = 30101 ∨ g = 102 → ¬ EL (U + 7) eS g L := fun g L hL hg y => by
    rcases y with ⟨y, -⟩ | ⟨y, -⟩ <;> omega
  have lW := X.ln a.2.2.2.1
  have lM := X.ln mA.2.2.2.1
  have tpo : U + 10 ≤ tp h := by omega
  have e03 : e0 < tp h := c1.2.2.2.1
  refine H h' ⟨eW, e', eM, a.fx X (nf _ _ (by omega) (by omega)) (nf _ _ (by omega) (by omega)) w3, A', m.fx X (nf _ _ (by omega) (by omega)) (nf _ _ (by omega) (by omega)) m3 (fun y z => by
    rcases z with ⟨-, z⟩ | ⟨z, -⟩ <;> omega), ⟨fun i hi => ?_, fun i hi => ?_⟩, ⟨s1, s2⟩, ⟨?_, ?_, j3, j4⟩, ?_, ?_, q3, q4, by omega⟩ (X.mono (fun g x z => EL_ls (by omega) (by omega) z)) ⟨R3, T3⟩
  · rw [X.tg (a.2.2.2.2.2.2.2.2 i hi).2.2]; exact t1 i hi
  · unfold up1
    by_cases z : i = ns
    · rw [if_pos z, X.tg hy2]; exact hy
    · rw [if_neg z, X.tg (b.2.2.2.2.2.2.2.2 i (by omega)).2.2]; exact t2 i (by omega)
  · rcases j1 with z | ⟨z1, z2, z3⟩
    · exact Or.inl z
    · refine Or.inr ⟨z1, ?_, z3⟩
      have := a.2.2.2.1
      rcases ee with ⟨y, -⟩ | y <;> omega
  · rcases ee with ⟨y, y2⟩ | y
    · rw [y]; exact j2
    · refine Or.inr ⟨by omega, ?_⟩
      have := mA.2.2.2.1
      omega
  · rw [lW, lM]; omega
  · rw [lW, lM]; omega
/-- a method comes into its list -/
theorem p_addW (C : CXT h T U e0) (l : LST h U e0 nm fW ns fS ks B) (hn : nm ≤ 12) {y : Nat} (hy : tg h y = 13) (hy2 : y < tp h) (H : ∀ h', LST h' U e0 (nm + 1) (up1 fW nm y) ns fS ks B → FX (ELs U e0) h h' → tp h' ≤ tp h + 1 → Q (some (vi 1)) h') : wp (d + 6) K_Jx4a65c_add_9ea2d 0 [] [(0, vr (some (U + 6))), (1, vr (some y))] h Q := by
  have room := l.room
  obtain ⟨⟨c1, cv⟩, c2, c3, c4, c5, c6, c7, c8, c9, c10, c11⟩ := C
  obtain ⟨eW, eS, eM, a, b, m, ⟨t1, t2⟩, ⟨s1, s2⟩, ⟨j1, j2, j3, j4⟩, q1, q2, q3, q4, q5⟩ := l
  refine l_add c1 a (by omega) (by omega) (by omega) (Or.inr (Or.inr hy)) hy2 (fun h' P => ?_)
  obtain ⟨e', A', X, ee, R1, R2, R3⟩ := P
  have m0 := m
  obtain ⟨f, mA, -⟩ := m0
  have w3 : ns = 0 ∨ ¬ EL (U + 6) eW 90003 eS := by
    rcases j2 with z | z
    · exact Or.inl (AL.e0 c1 b z)
    · refine Or.inr (fun y => ?_)
      rcases y with ⟨-, y⟩ | ⟨-, y⟩ <;> omega
  have m3 : ks.length = 0 ∨ ¬ EL (U + 6) eW 90003 eM := by
    rcases j3 with z | z
    · exact Or.inl (AL.e0 c1 mA z)
    · refine Or.inr (fun y => ?_)
      rcases y with ⟨-, y⟩ | ⟨-, y⟩ <;> omega
  have nf : ∀ g L, (L = U + 7 ∨ L = U + 8) → g = 30101 ∨ g = 102 → ¬ EL (U + 6) eW g L := fun g L hL hg y => by
    rcases y with ⟨y, -⟩ | ⟨y, -⟩ <;> omega
  have lS := X.ln b.2.2.2.1
  have lM := X.ln mA.2.2.2.1
  have tpo : U + 10 ≤ tp h := by omega
  refine H h' ⟨e', eS, eM, A', b.fx X (nf _ _ (by omega) (by omega)) (nf _ _ (by omega) (by omega)) w3, m.fx X (nf _ _ (by omega) (by omega)) (nf _ _ (by omega) (by omega)) m3 (fun y z => by
    rcases z with ⟨-, z⟩ | ⟨z, -⟩ <;> omega), ⟨fun i hi => ?_, fun i hi => ?_⟩, ⟨s1, s2⟩, ⟨?_, j2, j3, j4⟩, ?_, ?_, q3, by omega, q5⟩ (X.mono (fun g x z => EL_ls (by omega) (by omega) z)) R3
  · unfold up1
    by_cases z : i = nm
    · rw [if_pos z, X.tg hy2]; exact hy
    · rw [if_neg z, X.tg (a.2.2.2.2.2.2.2.2 i (by omega)).2.2]; exact t1 i (by omega)
  · rw [X.tg (b.2.2.2.2.2.2.2.2 i hi).2.2]; exact t2 i hi
  · have h1 := b.2.2.2.1
    have h2 := mA.2.2.2.1
    rcases ee with ⟨y, y2⟩ | y
    · rw [y]; exact j1
    · exact Or.inr ⟨by omega, by omega, by omega⟩
  · rw [lS, lM]; omega
  · rw [lS, lM]; omega
end
/-- the catches around: a chain from o -/
def CHN (h : AH) (U : Nat) : List Nat → Option Nat → Prop
  | [], o => o = none
  | a :: l, o => o = some a ∧ U + 10 ≤ a ∧ a + 1 < tp h ∧ tg h a = 4 ∧ fP h 30300 a = some (a + 1) ∧ tg h (a + 1) = 7 ∧ CHN h U l (fP h 30301 a)
theorem CHN.fx {E : Nat → Nat → Prop} {h h' : AH} {U : Nat} (x : FX E h h') (n1 : ∀ a, ¬ E 30300 a ∧ ¬ E 30301 a) : ∀ {l o}, CHN h U l o → CHN h' U l o := by
  intro l
  induction l with
  | nil => intro o c; exact c
  | cons a l ih =>
    intro o c
    obtain ⟨c1, c2, c3, c4, c5, c6, c7⟩ := c
    have l0 : a < tp h := by omega
    refine ⟨c1, c2, Nat.lt_of_lt_of_le c3 x.1, by rw [x.tg l0]; exact c4, by rw [x.fP l0 (n1 a).1]; exact c5, by rw [x.tg c3]; exact c6, ?_⟩
    rw [x.fP l0 (n1 a).2]; exact ih c7
theorem CHN.mem {h : AH} {U : Nat} : ∀ {l o}, CHN h U l o → ∀ a, a ∈ l → U + 10 ≤ a ∧ a + 1 < tp h ∧ tg h a = 4 ∧ fP h 30300 a = some (a + 1) ∧ tg h (a + 1) = 7 := by
  intro l
  induction l with
  | nil => intro o _ a m; cases m
  | cons b l ih =>
    intro o c a m
    obtain ⟨c1, c2, c3, c4, c5, c6, c7⟩ := c
    rcases List.mem_cons.mp m with z | z
    · rw [z]; exact ⟨c2, c3, c4, c5, c6⟩
    · exact ih c7 a z
theorem p_param {d : Nat} {h : AH} {Q : Option V → AH → Prop} {U : Nat} (h9 : tg h (U + 9) = 8) {sc : List Nat} {so : Option Nat} (hs : fP h 30706 (U + 9) = so) (C : CHN h U sc so) (x : Int64) : wp d K_X5_parameterNamed 0 [] [(0, vr (some (U + 9))), (1, vl x)] h Q = Q (some (vr (sc.find? (fun a => decide (fJ h 20303 a = x))))) h := by
  have L : ∀ l o, CHN h U l o → wp d K_X5_parameterNamed 3 [] [(0, vr (some (U + 9))), (1, vl x), (3, vr o)] h Q = Q (some (vr (l.find? (fun a => decide (fJ h 20303 a = x))))) h := by
    intro l
    induction l with
    | nil =>
      intro o c
      rw [show o = none from c, bk_X5_parameterNamed_3, bk_X5_parameterNamed_16]
      simp
    | cons a l ih =>
      intro o c
      obtain ⟨c1, c2, c3, c4, c5, c6, c7⟩ := c
      rw [c1, bk_X5_parameterNamed_3, bk_X5_parameterNamed_5, bk_X5_parameterNamed_12, bk_X5_parameterNamed_10, nn_some, nn_some, c4, ih _ c7, lg0]
      by_cases z : fJ h 20303 a = x
      · simp [z]
      · simp [z]
  rw [bk_X5_parameterNamed_0, hs, L sc so C]
  exact propext (and_iff_right h9)
theorem LST.nw {E : Nat → Nat → Prop} {h h' : AH} {U e0 nm ns B : Nat} {fW fS : Nat → Nat} {ks : List Nat} (k : Nat) (l : LST h U e0 nm fW ns fS ks (B + k)) (x : FX E h h') (N : NWE U E) (r1 : rc h ≤ rc h' + 6 * k) (r2 : rs h ≤ rs h' + 60 * k) : LST h' U e0 nm fW ns fS ks B :=
  LST.fx k l x (fun L _ => ⟨fun z => by have := N _ _ z; omega, fun z => by have := N _ _ z; omega⟩) (fun e z => by have := N _ _ z; omega) (fun y z => by have := N _ _ z; omega) r1 r2
theorem ES.ls {h h' : AH} {T U e0 m : Nat} {r : RV} {D l : Nat} {il : Bool} {so : Option Nat} (s : ES h T U e0 m r D l il so) (x : FX (ELs U e0) h h') : ES h' T U e0 m r D l il so :=
  s.fz x (fun g y z => by
    rcases z with ⟨z1, z2⟩ | ⟨z1, z2⟩
    · left; omega
    · right; exact z1)
