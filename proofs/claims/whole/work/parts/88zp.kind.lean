/-! Outside of blocks: kinds -/
def bods (R : RV) (w nm : Nat) : List Nat := (List.range nm).flatMap (fun m => (oN (ai R 17 (w * 12 + m))).toList)
/-- the mistakes that are noted while method m's head is read -/
def mpW (R : RV) (m : Nat) : List Nat := lif (decide (¬ mN R (wN R) (nmN R) (al R 9 (wN R * 12 + m)) = some m)) (keyN (tn (ai R 10 (wN R * 12 + m))) 2 0) ++ flr (unkL (fun i => ai R 16 (4 * (wN R * 12 + m) + i)) (fun i => kN R (wN R) (nkN R) (al R 15 (4 * (wN R * 12 + m) + i)) (ai R 16 (4 * (wN R * 12 + m) + i)))) (tn (ai R 14 (wN R * 12 + m))) 0
/-- a method's object -/
def WYF (h : AH) (U : Nat) (R : RV) (G : Nat → Nat → Nat) (x a : Nat) : Prop := (U + 10 ≤ a ∧ tg h a = 13 ∧ fP h 31200 a = some (a + 1)) ∧ ND h (a + 1) (tn (ai R 14 x)) (fun i => conv (al R 15 (4 * x + i))) (fun i => ai R 16 (4 * x + i)) (fun i => kN R (wN R) (nkN R) (al R 15 (4 * x + i)) (ai R 16 (4 * x + i))) ∧ (∀ i, i < tn (ai R 14 x) → WV (al R 15 (4 * x + i)) ∧ plp (ai R 16 (4 * x + i))) ∧ (fJ h 21201 a = conv (al R 9 x) ∧ WV (al R 9 x)) ∧ (fI h 1202 a = ai R 10 x ∧ plp (ai R 10 x)) ∧ fI h 11203 a = b2i (decide (¬ al R 11 x = 0)) ∧ (¬ al R 11 x = 0 → fJ h 21204 a = conv (al R 11 x) ∧ WV (al R 11 x) ∧ fI h 1205 a = ai R 12 x ∧ plp (ai R 12 x)) ∧ fI h 1206 a = -1 ∧ (fI h 11207 a = ai R 13 x ∧ (ai R 13 x = 0 ∨ ai R 13 x = 1)) ∧ fP h 31208 a = (oN (ai R 17 x)).map (G 1) ∧ cnt (ai R 14 x) 4
theorem WYF.fx {E : Nat → Nat → Prop} {h h' : AH} {U x a : Nat} {R : RV} {G : Nat → Nat → Nat} (w : WYF h U R G x a) (f : FX E h h') (hl : a + 4 < tp h) (no : ∀ g z, a ≤ z → z ≤ a + 4 → g / 100 % 100 = 12 ∨ g / 100 % 100 = 6 ∨ g = 90001 → ¬ E g z) : WYF h' U R G x a := by
  obtain ⟨⟨a1, a2, a3⟩, b, c, ⟨d1, d2⟩, ⟨e1, e2⟩, g, i, j, ⟨k1, k2⟩, l, m⟩ := w
  have n : ∀ g, g / 100 % 100 = 12 → ¬ E g a := fun g hg => no g a (by omega) (by omega) (by omega)
  refine ⟨⟨a1, by rw [f.tg (by omega)]; exact a2, by rw [f.fP (by omega) (n _ (by decide))]; exact a3⟩, b.fx f (fun g hg => no _ _ (by omega) (by omega) (by omega)) (no _ _ (by omega) (by omega) (by omega)) (no _ _ (by omega) (by omega) (by omega)) (no _ _ (by omega) (by omega) (by omega)), c, ⟨?_, d2⟩, ⟨?_, e2⟩, ?_, fun z => ?_, ?_, ⟨?_, k2⟩, ?_, m⟩
  · rw [f.fJ (by omega) (n _ (by decide))]; exact d1
  · rw [f.fI (by omega) (n _ (by decide))]; exact e1
  · rw [f.fI (by omega) (n _ (by decide))]; exact g
  · rw [f.fJ (by omega) (n _ (by decide)), f.fI (by omega) (n _ (by decide))]; exact i z
  · rw [f.fI (by omega) (n _ (by decide))]; exact j
  · rw [f.fI (by omega) (n _ (by decide))]; exact k1
  · rw [f.fP (by omega) (n _ (by decide))]; exact l
/-- what is known outside of blocks, if the text is right -/
def TLD (h : AH) (U a0 : Nat) (R : RV) (G : Nat → Nat → Nat) (r : RV) (nk : Nat) (par : Nat → Nat) (wk : Nat → Int64) (pk : Nat → Int32) (nm : Nat) (fW fS : Nat → Nat) (ks : List Nat) : Prop :=
  (∀ k, k < nk → wk k = conv (al R 3 (wN r * 16 + k)) ∧ WV (al R 3 (wN r * 16 + k)) ∧ ai R 5 (wN r * 16 + k) < gi r 1449 ∧ par k = parN R (wN R) (nkN R) k ∧ pk k = ai R 4 (wN r * 16 + k)) ∧
  (∀ k, k < nsC r → fS k = G 0 (wN r * 120 + k)) ∧ AD h U a0 (tp h) R G (fun _ => False) (wN r * 120) (rsN r) (wN r * 1024) (nbN r) ∧
  (CI G (wN r * 120) (bods R (wN r) nm) (rsN r) ∧ ∀ b, b ∈ bods R (wN r) nm → (ai R 41 b = -1 ∧ wN r * 1024 ≤ b) ∧ b < nbN r) ∧
  (∀ m, m < nm → WYF h U R G (wN r * 12 + m) (fW m) ∧ (a0 ≤ fW m ∧ ∀ m', m' < m → fW m' < fW m) ∧ fW m + 4 < tp h) ∧
  CTK ks (flr (jkL R (wN R) (nkN R)) (nk - 4) 4 ++ (flr (mpW R) nm 0 ++ flr (mpS R) (nsC r) (wN r * 120))) [] ∧ sumN (wtS R) (nsC r) (wN r * 120) + 2 * nbC r ≤ qN r ∧ UPD R
/-- what may change since the reader was made -/
def EPT (T U e0 g x : Nat) : Prop := EPa T U e0 [] g x ∨ (x = U + 1 ∧ (g = 504 ∨ g = 505)) ∨ (g = 90001 ∧ U + 2 ≤ x ∧ x ≤ U + 5) ∨ (U + 10 ≤ x ∧ g / 100 % 100 < 20)
/-- the state outside of blocks -/
def TOS (hB : AH) (T U e0 : Nat) (R : RV) (a0 B0 : Nat) (h : AH) (r : RV) (nk : Nat) (par : Nat → Nat) (wk : Nat → Int64) (pk : Nat → Int32) (nm : Nat) (fW : Nat → Nat) (ns : Nat) (fS : Nat → Nat) (ks : List Nat) (B : Nat) (G : Nat → Nat → Nat) : Prop :=
  (RIL r ∧ gi r 1452 = -1 ∧ dN r = 0) ∧ ES h T U e0 0 r 0 0 false none ∧ KD h (U + 1) nk par wk pk ∧ LST h U e0 nm fW ns fS ks B ∧ (nk = nkN r ∧ nm = nmN r ∧ ns = nsC r) ∧ (B0 ≤ B + 3 * qN r ∧ 3 * tn (gi r 1448) + 100 ≤ B0) ∧ (U + 10 ≤ a0 ∧ a0 ≤ tp h) ∧ FX (EPT T U e0) hB h ∧ (ENR r R → TLD h U a0 R G r nk par wk pk nm fW fS ks)
theorem ES.m1 {h : AH} {T U e0 : Nat} {r : RV} {D l : Nat} {il : Bool} {so : Option Nat} (E : ES h T U e0 0 r D l il so) (er : gi r 1452 = -1) (hq : 1 ≤ qN r) : ES h T U e0 1 r D l il so := by
  obtain ⟨y1, y2, y3, ⟨p, y4, y5, y6⟩, y7⟩ := E
  have y8 := (y7 er).1.2.1
  have : qN r = p := by unfold qN; rw [← y8, y4, tn_nI (by omega)]
  exact ⟨y1, y2, y3, ⟨p, y4, by omega, y6⟩, y7⟩
theorem ES.m0 {h : AH} {T U e0 : Nat} {r : RV} {D l : Nat} {il : Bool} {so : Option Nat} (E : ES h T U e0 1 r D l il so) : ES h T U e0 0 r D l il so := by
  obtain ⟨y1, y2, y3, ⟨p, y4, y5, y6⟩, y7⟩ := E
  exact ⟨y1, y2, y3, ⟨p, y4, by omega, y6⟩, y7⟩
theorem PW.tp {T U e0 : Nat} {h h' : AH} (a : PW T U h h') : FX (EPT T U e0) h h' := a.1.mono (fun _ _ z => Or.inl (EPW_a z))
theorem ELs_tp {T U e0 : Nat} {h h' : AH} (a : FX (ELs U e0) h h') : FX (EPT T U e0) h h' := a.mono (fun _ _ z => Or.inl (Or.inr (Or.inl z)))
theorem rk_tew3 {a3 a4 a5 N2 : RV} {k w : Nat} {v : Int32} (te3 : TE a3 N2) (r3 : gi a3 1452 = -1) (g3 : gi N2 1452 = -1) (T3 : RT a3) (e4 : a4 = gT (decide (tkn a3 = 27)) a3) (e5 : a5 = gT (decide (tkn a4 = 24)) a4) : TEW a5 (if okN N2 = false then faiF N2 else if ¬ gi (namF N2) 1451 = 59 then faiF (rkC (namF N2) k) else tI (advF (rkC (namF N2) k)) 2 w v) := by
  have n3 := tk_name T3
  rw [← te3.okN] at n3
  by_cases z3 : okN N2 = false
  · rw [if_pos z3]
    have : ¬ tkn a3 = 27 := fun y => by rw [n3.mp y] at z3; cases z3
    rw [decide_eq_false this, gT_f r3] at e4
    have bad := (fai_w T3 r3).1
    rw [e4, gT_w bad] at e5
    rw [e5]; exact fai_tew te3 r3 g3 T3
  rw [if_neg z3]
  rw [decide_eq_true (n3.mpr (bf z3)), gT_t r3] at e4
  have T4 : RT a4 := by rw [e4]; exact RT_adv T3.1
  have r4 : gi a4 1452 = -1 := by rw [e4, gi_adv]; exact r3
  have te4 : TE a4 (namF N2) := by rw [e4]; exact (te3.adv).tr TE_nam
  have te4c : TE a4 (rkC (namF N2) k) := te4.tr (TE_tL.tr ((TE_tI (by decide)).tr (TE_tI (by decide))))
  have gC : gi (rkC (namF N2) k) 1452 = -1 := by rw [gi_rkC, gi_nam]; exact g3
  have s4 := tk_sign T4 (c := 59) (by decide)
  rw [show sgT 59 = 24 from rfl, ← te4.2.2.2.1] at s4
  generalize rkC (namF N2) k = N3 at *
  by_cases z4 : ¬ gi (namF N2) 1451 = 59
  · rw [if_pos z4]
    rw [decide_eq_false (fun y => z4 (s4.mp y)), gT_f r4] at e5
    rw [e5]; exact fai_tew te4c r4 gC T4
  rw [if_neg z4]
  have z4 := Classical.not_not.mp z4
  rw [decide_eq_true (s4.mpr z4), gT_t r4] at e5
  rw [e5]
  refine TEW.of ((te4c.adv).tr (TE_tI (by decide))) ?_
  rw [gi_tI, gi_adv, gC, gi_adv, r4]
theorem rk_tew2 {a2 a3 a4 a5 N1 : RV} {k w : Nat} {v : Int32} {x : Int64} (te2 : TE a2 N1) (r2 : gi a2 1452 = -1) (gB : gi N1 1452 = -1) (T2 : RT a2) (hx : x = gl a2 21450) (e3 : a3 = gT (decide (tkn a2 = 12)) a2) (e4 : a4 = gT (decide (tkn a3 = 27)) a3) (e5 : a5 = gT (decide (tkn a4 = 24)) a4) : TEW a5 (if ¬ x = 422608400247 then faiF N1 else if okN (advF N1) = false then faiF (advF N1) else if ¬ gi (namF (advF N1)) 1451 = 59 then faiF (rkC (namF (advF N1)) k) else tI (advF (rkC (namF (advF N1)) k)) 2 w v) := by
  have kw12 : lN (kwN 12) = 422608400247 := by decide +kernel
  have k2 := tk_kw T2 (k := 12) (by decide)
  rw [kw12, ← hx] at k2
  by_cases z2 : ¬ x = 422608400247
  · rw [if_pos z2]
    rw [decide_eq_false (fun y => z2 (k2.mp y)), gT_f r2] at e3
    have bad := (fai_w T2 r2).1
    rw [e3, gT_w bad] at e4
    rw [e4, gT_w bad] at e5
    rw [e5]; exact fai_tew te2 r2 gB T2
  rw [if_neg z2]
  have z2 := Classical.not_not.mp z2
  rw [decide_eq_true (k2.mpr z2), gT_t r2] at e3
  have T3 : RT a3 := by rw [e3]; exact RT_adv T2.1
  have r3 : gi a3 1452 = -1 := by rw [e3, gi_adv]; exact r2
  have te3 : TE a3 (advF N1) := by rw [e3]; exact te2.adv
  have g3 : gi (advF N1) 1452 = -1 := by rw [gi_adv]; exact gB
  exact rk_tew3 te3 r3 g3 T3 e4 e5
/-- the tokens of a kind -/
theorem rk_tew {r : RV} (A : RIL r) (hr : gi r 1452 = -1) (n16 : ¬ ai r 2 (wN r) = 16) {a2 a3 a4 a5 : RV} (e2 : a2 = gT (decide (tkn (advF r) = 27)) (advF r)) (e3 : a3 = gT (decide (tkn a2 = 12)) a2) (e4 : a4 = gT (decide (tkn a3 = 27)) a3) (e5 : a5 = gT (decide (tkn a4 = 24)) a4) : TEW a5 (rkF r) := by
  have T1 := RT_adv A.1.1
  have r1 : gi (advF r) 1452 = -1 := by rw [gi_adv]; exact hr
  unfold rkF
  rw [if_neg n16]
  have n1 := tk_name T1
  by_cases z1 : okN (advF r) = false
  · rw [if_pos z1]
    have : ¬ tkn (advF r) = 27 := fun y => by rw [n1.mp y] at z1; cases z1
    rw [decide_eq_false this, gT_f r1] at e2
    have bad := (fai_w T1 r1).1
    rw [e2, gT_w bad] at e3
    rw [e3, gT_w bad] at e4
    rw [e4, gT_w bad] at e5
    rw [e5]; exact TEW.rf
  rw [if_neg z1]
  rw [decide_eq_true (n1.mpr (bf z1)), gT_t r1] at e2
  have T2 : RT a2 := by rw [e2]; exact RT_adv T1.1
  have r2 : gi a2 1452 = -1 := by rw [e2, gi_adv]; exact r1
  have te2 : TE a2 (rkB (namF (advF r)) (rkI r)) := by rw [e2]; exact TE_nam.tr (TE_tL.tr (TE_tI (by decide)))
  have te2n : TE a2 (namF (advF r)) := by rw [e2]; exact TE_nam
  have gB : gi (rkB (namF (advF r)) (rkI r)) 1452 = -1 := by rw [gi_rkB, gi_nam]; exact r1
  exact rk_tew2 te2 r2 gB T2 te2n.2.2.2.2.1 e3 e4 e5
/-- the kind of a name that stands within the turn that tells the next kind -/
theorem kl_new {r' R : RV} (E : ENR r' R) (A : RIL r') {w nk p : Nat} (hw : w = wN r') (hn : nk + 1 = nkN r') (hp : p < qN r') (hk : ∀ k, k < nk → ai R 5 (w * 16 + k) < nI p) {p5 : Nat} (h5 : ai R 5 (w * 16 + nk) = nI p5) (l5 : p ≤ p5 ∧ p5 < 2 ^ 31) (x : Int64) : kN R w (nkN R) x (nI p) = ffst (fun k => decide (al R 3 (w * 16 + k) = x)) nk 0 := by
  obtain ⟨f1, f2, f3, f4, f5⟩ := fk_en E A
  have q := A.q
  unfold kN
  cases e : ffst (fun k => decide (al R 3 (w * 16 + k) = x)) nk 0 with
  | some j =>
    obtain ⟨g1, g2, g3, g4⟩ := ffst_some e
    refine ffst_is (by omega) (by omega) ?_ (fun i h1 h2 => ?_)
    · rw [decide_eq_true_eq] at g3 ⊢
      exact ⟨g3, hk j (by omega)⟩
    · have := g4 i h1 h2
      rw [decide_eq_false_iff_not] at this ⊢
      exact fun z => this z.1
  | none =>
    have g := ffst_none e
    refine ffst_isn (fun i h1 h2 => ?_)
    rw [decide_eq_false_iff_not]
    rintro ⟨z1, z2⟩
    by_cases y : i < nk
    · have := g i (by omega) (by omega)
      rw [decide_eq_false_iff_not] at this
      exact this z1
    · by_cases y2 : i = nk
      · rw [y2, h5, nI_ltI l5.2 (by omega)] at z2
        omega
      · obtain ⟨p', e1, e2, e3⟩ := f5 i (by omega) (by omega)
        rw [hw, e1, nI_ltI e3 (by omega)] at z2
        omega
