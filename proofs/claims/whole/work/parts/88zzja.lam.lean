/-! How much room noting takes -/
def lnO (h : AH) : Option Nat → Nat
  | none => 0
  | some e => ln h e
def LAM (h : AH) (U : Nat) : Nat := lnO h (fP h 30101 (U + 6)) + lnO h (fP h 30101 (U + 7)) + lnO h (fP h 30101 (U + 8))
section
variable {d : Nat} {h : AH} {Q : Option V → AH → Prop} {T U e0 nm ns B : Nat} {fW fS : Nat → Nat} {ks : List Nat}
theorem LST.lam (l : LST h U e0 nm fW ns fS ks B) : LAM h U ≤ 2 * (nm + ns + ks.length) + 30 ∧ 40000 + 6 * B ≤ rc h + LAM h U ∧ 200000 + 60 * B ≤ rs h + 4 * LAM h U := by
  obtain ⟨eW, eS, eM, a, b, ⟨f, c, -⟩, -, -, -, r1, r2, -⟩ := l
  have L0 : LAM h U = ln h eW + ln h eS + ln h eM := by unfold LAM; rw [a.2.2.1, b.2.2.1, c.2.2.1]; rfl
  have h1 := a.2.2.2.2.2.2.1
  have h2 := b.2.2.2.2.2.2.1
  have h3 := c.2.2.2.2.2.2.1
  rw [L0]
  omega
theorem LAM.fx {E : Nat → Nat → Prop} {h' : AH} (l : LST h U e0 nm fW ns fS ks B) (x : FX E h h') (n1 : ∀ L, L = U + 6 ∨ L = U + 7 ∨ L = U + 8 → ¬ E 30101 L) : LAM h' U = LAM h U := by
  obtain ⟨eW, eS, eM, a, b, ⟨f, c, -⟩, -⟩ := l
  unfold LAM
  rw [x.fP a.2.1 (n1 _ (by omega)), x.fP b.2.1 (n1 _ (by omega)), x.fP c.2.1 (n1 _ (by omega)), a.2.2.1, b.2.2.1, c.2.2.1]
  show ln h' eW + ln h' eS + ln h' eM = ln h eW + ln h eS + ln h eM
  rw [x.ln a.2.2.2.1, x.ln b.2.2.2.1, x.ln c.2.2.2.1]
theorem p_noteX (C : CXT h T U e0) (l : LST h U e0 nm fW ns fS ks (B + 1)) {p c k : Nat} (hp0 : 0 < p) (hp : p < 4096) (hc : c < 16) (hk : k < 32) (H : ∀ h' ks', LST h' U e0 nm fW ns fS ks' B → ks'.Perm ([keyN p c k] ++ ks) → FX (ELs U e0) h h' → rc h + LAM h U ≤ rc h' + LAM h' U + 1 → rs h + 4 * LAM h U ≤ rs h' + 4 * LAM h' U + 1 → Q none h') : wp (d + 7) K_X8_note 0 [] [(0, vr (some U)), (1, vi (nI c)), (2, vi (nI p)), (3, vi (kI k))] h Q := by
  have room := l.room
  obtain ⟨⟨c1, cv⟩, c2, c3, c4, c5, c6, c7, c8, c9, c10, c11⟩ := C
  obtain ⟨eW, eS, eM, a, b, m, ⟨t1, t2⟩, ⟨s1, s2⟩, ⟨j1, j2, j3, j4⟩, q1, q2, q3, q4, q5⟩ := l
  refine u_note c1 c4 (by omega) c8 m s1 (by omega) s2 (by omega) (by omega) hp0 hp hc hk (fun h' ks' P => ?_)
  obtain ⟨e', M', S', pm, X, ee, R1, R2, R3⟩ := P
  have aM := m
  obtain ⟨f, mA, -⟩ := aM
  have w3 : nm = 0 ∨ ¬ EL (U + 8) eM 90003 eW := by
    rcases j1 with z | z
    · exact Or.inl (AL.e0 c1 a z)
    · refine Or.inr (fun y => ?_)
      rcases y with ⟨-, y⟩ | ⟨-, y⟩ <;> omega
  have s3 : ns = 0 ∨ ¬ EL (U + 8) eM 90003 eS := by
    rcases j2 with z | z
    · exact Or.inl (AL.e0 c1 b z)
    · refine Or.inr (fun y => ?_)
      rcases y with ⟨-, y⟩ | ⟨-, y⟩ <;> omega
  have nf : ∀ g L, (L = U + 6 ∨ L = U + 7) → g = 30101 ∨ g = 102 → ¬ EL (U + 8) eM g L := fun g L hL hg y => by
    rcases y with ⟨y, -⟩ | ⟨y, -⟩ <;> omega
  have lW := X.ln a.2.2.2.1
  have lS := X.ln b.2.2.2.1
  have tpo : U + 10 ≤ tp h := by omega
  have L0 : LAM h U = ln h eW + ln h eS + ln h eM := by unfold LAM; rw [a.2.2.1, b.2.2.1, mA.2.2.1]; rfl
  have aX := a.fx X (nf _ _ (by omega) (by omega)) (nf _ _ (by omega) (by omega)) w3
  have bX := b.fx X (nf _ _ (by omega) (by omega)) (nf _ _ (by omega) (by omega)) s3
  have M0 := M'
  obtain ⟨f', mA', -⟩ := M0
  have L1 : LAM h' U = ln h' eW + ln h' eS + ln h' e' := by unfold LAM; rw [aX.2.2.1, bX.2.2.1, mA'.2.2.1]; rfl
  refine H h' ks' ⟨eW, eS, e', a.fx X (nf _ _ (by omega) (by omega)) (nf _ _ (by omega) (by omega)) w3, b.fx X (nf _ _ (by omega) (by omega)) (nf _ _ (by omega) (by omega)) s3, M', ⟨fun i hi => ?_, fun i hi => ?_⟩, ⟨S', fun k' hk' => ?_⟩, ⟨?_, ?_, ?_, j4⟩, ?_, ?_, ?_, q4, q5⟩ pm (X.mono (fun g x z => EL_ls (by omega) j3 z)) (by rw [L0, L1, lW, lS]; omega) (by rw [L0, L1, lW, lS]; omega)
  · rw [X.tg (a.2.2.2.2.2.2.2.2 i hi).2.2]; exact t1 i hi
  · rw [X.tg (b.2.2.2.2.2.2.2.2 i hi).2.2]; exact t2 i hi
  · rcases List.mem_cons.mp (pm.mem_iff.mp hk') with z | z
    · rw [z]; unfold keyN; omega
    · exact s2 _ z
  · rcases j1 with z | ⟨z1, z2, z3⟩
    · exact Or.inl z
    · refine Or.inr ⟨z1, z2, ?_⟩
      have := a.2.2.2.1
      rcases ee with ⟨y, -⟩ | y <;> omega
  · rcases j2 with z | ⟨z1, z2⟩
    · exact Or.inl z
    · refine Or.inr ⟨z1, ?_⟩
      have := b.2.2.2.1
      rcases ee with ⟨y, -⟩ | y <;> omega
  · rcases ee with ⟨y, y2⟩ | y
    · rw [y]; exact j3
    · exact Or.inr (by omega)
  · rw [lW, lS]; omega
  · rw [lW, lS]; omega
  · rw [pm.length_eq, List.length_cons]; omega
end
