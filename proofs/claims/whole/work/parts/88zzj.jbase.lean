/-! The class's judging: what is there, and what may change -/
def SRG (R : RV) (s : Nat) : Prop := wN R * 120 ≤ s ∧ s < rsN R
/-- all that judging may change -/
def EJA (U e0 : Nat) (R : RV) (G : Nat → Nat → Nat) (g y : Nat) : Prop := ELs U e0 g y ∨ ((g = 814 ∨ g = 10815 ∨ g = 202 ∨ g = 10203 ∨ g = 307 ∨ g = 308 ∨ g = 1206) ∧ U + 10 ≤ y) ∨ (g = 807 ∧ ∃ t, SRG R t ∧ ai R 19 t = 1 ∧ y = G 0 t) ∨ (g = 90001 ∧ ∃ t, SRG R t ∧ ai R 19 t = 9 ∧ y = G 6 t + 3)
theorem EJA_is {U e0 : Nat} {R : RV} {G : Nat → Nat → Nat} {g y : Nat} (z : EJA U e0 R G g y) : g = 100 ∨ g = 102 ∨ g = 30101 ∨ g = 90003 ∨ g = 814 ∨ g = 10815 ∨ g = 202 ∨ g = 10203 ∨ g = 307 ∨ g = 308 ∨ g = 1206 ∨ g = 807 ∨ g = 90001 := by
  rcases z with (⟨-, z⟩ | ⟨z, -⟩) | z | ⟨z, -⟩ | ⟨z, -⟩ <;> omega
theorem EJA_no {U e0 : Nat} {R : RV} {G : Nat → Nat → Nat} {g y : Nat} (n : ¬ (g = 100 ∨ g = 102 ∨ g = 30101 ∨ g = 90003 ∨ g = 814 ∨ g = 10815 ∨ g = 202 ∨ g = 10203 ∨ g = 307 ∨ g = 308 ∨ g = 1206 ∨ g = 807 ∨ g = 90001)) : ¬ EJA U e0 R G g y := fun z => n (EJA_is z)
theorem EJA_arr {U e0 : Nat} {R : RV} {G : Nat → Nat → Nat} {y : Nat} (z : EJA U e0 R G 90001 y) : ∃ t, SRG R t ∧ ai R 19 t = 9 ∧ y = G 6 t + 3 := by
  rcases z with (⟨-, z⟩ | ⟨z, -⟩) | z | ⟨z, -⟩ | ⟨-, z⟩
  · omega
  · omega
  · omega
  · omega
  · exact z
theorem EJA_mn {U e0 : Nat} {R : RV} {G : Nat → Nat → Nat} {y : Nat} (z : EJA U e0 R G 807 y) : ∃ t, SRG R t ∧ ai R 19 t = 1 ∧ y = G 0 t := by
  rcases z with (⟨-, z⟩ | ⟨z, -⟩) | z | ⟨-, z⟩ | ⟨z, -⟩
  · omega
  · omega
  · omega
  · exact z
  · omega
theorem nd_dj {h : AH} {N M n m : Nat} {wd wd' : Nat → Int64} {pc pc' : Nat → Int32} {mt mt' : Nat → Option Nat} (a : ND h N n wd pc mt) (b : ND h M m wd' pc' mt') (ne : ¬ N = M) : ¬ N + 1 = M + 3 ∧ ¬ N + 2 = M + 3 ∧ ¬ N + 3 = M + 3 := by
  refine ⟨fun e => ?_, fun e => ?_, fun e => ne (by omega)⟩
  · have h1 := a.2.2.1.2.1
    have h2 := b.2.2.2.2.1.2.1
    rw [e, h2] at h1; omega
  · have h1 := a.1
    have h2 := b.2.2.1.2.1
    rw [show N = M + 1 by omega, h2] at h1; omega
theorem CFF.fx2 {E : Nat → Nat → Prop} {h h' : AH} {U : Nat} {R : RV} {G : Nat → Nat → Nat} {c : Nat} (C : CFF h U R G c) (x : FX E h h') (h0 : G 2 c < tp h) (n0 : ∀ f, f / 100 % 100 = 3 → ¬ f = 307 → ¬ f = 308 → ¬ E f (G 2 c)) (n1 : ∀ f, f = 30600 ∨ f = 30601 ∨ f = 30602 ∨ f = 603 → ¬ E f (G 2 c + 1)) (n2 : ¬ E 90001 (G 2 c + 1 + 1) ∧ ¬ E 90001 (G 2 c + 1 + 2) ∧ ¬ E 90001 (G 2 c + 1 + 3)) : CFF h' U R G c := by
  obtain ⟨⟨a1, a2, a3, a4, a5, a6, a7⟩, b2, b3, b4⟩ := C
  refine ⟨⟨a1, by rw [x.tg h0]; exact a2, ?_, a4.fx x n1 n2.1 n2.2.1 n2.2.2, ?_, ?_, ?_⟩, ?_, ?_, ?_⟩
  · rw [x.fP h0 (n0 _ (by decide) (by decide) (by decide))]; exact a3
  · rw [x.fP h0 (n0 _ (by decide) (by decide) (by decide))]; exact a5
  · rw [x.fI h0 (n0 _ (by decide) (by decide) (by decide))]; exact a6
  · rw [x.fJ h0 (n0 _ (by decide) (by decide) (by decide))]; exact a7
  · rw [x.fP h0 (n0 _ (by decide) (by decide) (by decide))]; exact b2
  · rw [x.fP h0 (n0 _ (by decide) (by decide) (by decide))]; exact b3
  · rw [x.fI h0 (n0 _ (by decide) (by decide) (by decide))]; exact b4
/-- what stays of a statement -/
def SIM (h : AH) (U : Nat) (R : RV) (G : Nat → Nat → Nat) (s : Nat) : Prop := (tg h (G 0 s) = 9 ∧ G 0 s < tp h) ∧
  (fI h 800 (G 0 s) = ai R 19 s ∧ fI h 801 (G 0 s) = ai R 20 s ∧ fI h 802 (G 0 s) = ai R 22 s ∧ fI h 803 (G 0 s) = nI (lmB R (tn (ai R 21 s)))) ∧
  (ai R 19 s = 1 ∨ ai R 19 s = 2 ∨ ai R 19 s = 3 → fJ h 20805 (G 0 s) = conv (al R 24 s) ∧ WV (al R 24 s) ∧ fI h 806 (G 0 s) = ai R 25 s) ∧
  (¬ ai R 19 s = 1 → fI h 807 (G 0 s) = (if ai R 19 s = 2 ∧ prS R s = none then oI (kN R (wN R) (nkN R) (al R 24 s) (ai R 25 s)) else -1)) ∧
  fP h 30808 (G 0 s) = (if ai R 19 s = 2 ∨ ai R 19 s = 3 then (prS R s).map (G 2) else none) ∧
  fP h 30809 (G 0 s) = (oN (ai R 26 s)).map (G 1) ∧
  fP h 30810 (G 0 s) = (oN (if ai R 19 s = 9 then ai R 28 s else ai R 27 s)).map (G 1) ∧
  fP h 30811 (G 0 s) = (if ai R 19 s = 9 ∨ ai R 19 s = 10 then some (G 6 s) else none) ∧
  (ai R 19 s = 10 → ND h (G 6 s) (tn (ai R 29 s)) (fun i => conv (al R 30 (4 * s + i))) (fun i => ai R 31 (4 * s + i)) (fun i => kN R (wN R) (nkN R) (al R 30 (4 * s + i)) (ai R 31 (4 * s + i)))) ∧
  (ai R 19 s = 9 → ∀ i, i < tn (ai R 29 s) → WV (al R 30 (4 * s + i))) ∧
  fP h 30812 (G 0 s) = (if 0 < tn (ai R 32 s) then some (G 2 (4 * s)) else none) ∧
  fI h 10813 (G 0 s) = b2i (decide (ai R 19 s = 7) && decide (¬ tgS R s = none)) ∧ NXF h R G s ∧ ∀ i, i < tn (ai R 32 s) → CFF h U R G (4 * s + i) ∧ G 2 (4 * s + i) + 4 < tp h
def BIM (h : AH) (R : RV) (G : Nat → Nat → Nat) (b : Nat) : Prop := (tg h (G 1 b) = 3 ∧ G 1 b < tp h) ∧ fI h 200 (G 1 b) = ai R 43 b ∧ fP h 30201 (G 1 b) = (oN (ai R 44 b)).map (G 0)
/-- a method's object, but for the method above -/
def WYJ (h : AH) (R : RV) (G : Nat → Nat → Nat) (x a : Nat) : Prop := (tg h a = 13 ∧ a < tp h ∧ fP h 31200 a = some (a + 1)) ∧ ND h (a + 1) (tn (ai R 14 x)) (fun i => conv (al R 15 (4 * x + i))) (fun i => ai R 16 (4 * x + i)) (fun i => kN R (wN R) (nkN R) (al R 15 (4 * x + i)) (ai R 16 (4 * x + i))) ∧ (∀ i, i < tn (ai R 14 x) → WV (al R 15 (4 * x + i)) ∧ plp (ai R 16 (4 * x + i))) ∧ (fJ h 21201 a = conv (al R 9 x) ∧ WV (al R 9 x)) ∧ (fI h 1202 a = ai R 10 x ∧ plp (ai R 10 x)) ∧ fI h 11203 a = b2i (decide (¬ al R 11 x = 0)) ∧ (¬ al R 11 x = 0 → fJ h 21204 a = conv (al R 11 x) ∧ WV (al R 11 x) ∧ fI h 1205 a = ai R 12 x ∧ plp (ai R 12 x)) ∧ (fI h 11207 a = ai R 13 x ∧ (ai R 13 x = 0 ∨ ai R 13 x = 1)) ∧ fP h 31208 a = (oN (ai R 17 x)).map (G 1) ∧ cnt (ai R 14 x) 4
/-- what there is when judging begins -/
def JBS (h0 : AH) (U a0 J : Nat) (R : RV) (G : Nat → Nat → Nat) (nm : Nat) (fW : Nat → Nat) : Prop := TRE R G nm ∧ AD h0 U a0 (tp h0) R G (fun _ => False) (wN R * 120) (rsN R) (wN R * 1024) (nbN R) ∧ U + 10 ≤ a0 ∧ (∀ m, m < nm → WYF h0 U R G (wN R * 12 + m) (fW m) ∧ fW m + 4 < tp h0) ∧ (tg h0 J = 5 ∧ J < tp h0 ∧ fP h0 30400 J = some U ∧ fP h0 30401 J = some (U + 1)) ∧ nm = nmN R ∧ nm ≤ 12 ∧ ∀ m m', m < nm → m' < nm → fW m = fW m' → m = m'
section
variable {h0 h : AH} {U a0 e0 J : Nat} {R : RV} {G : Nat → Nat → Nat} {nm : Nat} {fW : Nat → Nat}
theorem JBS.g0 (B : JBS h0 U a0 J R G nm fW) {s t : Nat} (hs : SRG R s) (ht : SRG R t) (e : G 0 s = G 0 t) : s = t := by
  obtain ⟨-, ⟨-, -, -, a4, -⟩, -⟩ := B
  rcases Nat.lt_trichotomy s t with z | z | z
  · have := (a4 s t hs.1 z ht.2).1; omega
  · exact z
  · have := (a4 t s ht.1 z hs.2).1; omega
theorem JBS.g1 (B : JBS h0 U a0 J R G nm fW) {b c : Nat} (hb : wN R * 1024 ≤ b ∧ b < nbN R) (hc : wN R * 1024 ≤ c ∧ c < nbN R) (e : G 1 b = G 1 c) : b = c := by
  obtain ⟨-, ⟨-, -, -, -, a5⟩, -⟩ := B
  rcases Nat.lt_trichotomy b c with z | z | z
  · have := a5 b c hb.1 z hc.2; omega
  · exact z
  · have := a5 c b hc.1 z hb.2; omega
/-- the names of a try -/
theorem JBS.nt (B : JBS h0 U a0 J R G nm fW) {t : Nat} (ht : SRG R t) (h9 : ai R 19 t = 9) : ND h0 (G 6 t) (tn (ai R 29 t)) (fun i => conv (al R 30 (4 * t + i))) (fun i => ai R 31 (4 * t + i)) (fun _ => none) ∧ (tg h0 (G 6 t - 1) = 9 ∨ tg h0 (G 6 t - 1) = 109) ∧ (∀ i, i < tn (ai R 29 t) → WV (al R 30 (4 * t + i))) ∧ fP h0 30811 (G 0 t) = some (G 6 t) := by
  obtain ⟨-, ⟨-, a2, -⟩, -⟩ := B
  obtain ⟨S, -⟩ := a2 t ht.1 ht.2
  obtain ⟨-, -, -, -, -, -, -, i, -⟩ := S
  rw [if_pos (Or.inl h9)] at i
  exact ⟨i.2.1.cg (fun j _ => ⟨rfl, rfl, by rw [if_pos h9]⟩), i.2.2.2 h9, i.2.2.1, i.1⟩
/-- names of another owner -/
theorem JBS.dj (B : JBS h0 U a0 J R G nm fW) {N n : Nat} {wd : Nat → Int64} {pc : Nat → Int32} {mt : Nat → Option Nat} (D : ND h0 N n wd pc mt) (ne : ∀ t, SRG R t → ai R 19 t = 9 → ¬ N = G 6 t) : ¬ EJA U e0 R G 90001 (N + 1) ∧ ¬ EJA U e0 R G 90001 (N + 2) ∧ ¬ EJA U e0 R G 90001 (N + 3) := by
  refine ⟨fun z => ?_, fun z => ?_, fun z => ?_⟩
  · obtain ⟨t, t1, t2, t3⟩ := EJA_arr z
    exact (nd_dj D (B.nt t1 t2).1 (ne t t1 t2)).1 t3
  · obtain ⟨t, t1, t2, t3⟩ := EJA_arr z
    exact (nd_dj D (B.nt t1 t2).1 (ne t t1 t2)).2.1 t3
  · obtain ⟨t, t1, t2, t3⟩ := EJA_arr z
    exact (nd_dj D (B.nt t1 t2).1 (ne t t1 t2)).2.2 t3
theorem JBS.sim (B : JBS h0 U a0 J R G nm fW) (x : FX (EJA U e0 R G) h0 h) {s : Nat} (hs : SRG R s) : SIM h U R G s := by
  have B0 := B
  obtain ⟨T, ⟨a1, a2, a3, a4, a5⟩, hU, -⟩ := B
  obtain ⟨S, ⟨N, -⟩, -, W, l0, l6, c⟩ := a2 s hs.1 hs.2
  obtain ⟨⟨b1, b2⟩, ⟨c1, c2, c3, c4⟩, d, e, f, g, i, j, k, l, -⟩ := S
  have lt : G 0 s < tp h0 := by omega
  have no : ∀ g y, g = 800 ∨ g = 801 ∨ g = 802 ∨ g = 803 ∨ g = 20805 ∨ g = 806 ∨ g = 30808 ∨ g = 30809 ∨ g = 30810 ∨ g = 30811 ∨ g = 30812 ∨ g = 10813 ∨ g = 30804 → ¬ EJA U e0 R G g y := fun g y hg => EJA_no (by omega)
  refine ⟨⟨by rw [x.tg lt]; exact b2, by have := x.1; omega⟩, ⟨?_, ?_, ?_, ?_⟩, fun q => ?_, fun q => ?_, ?_, ?_, ?_, ?_, fun q => ?_, fun q => (B0.nt hs q).2.2.1, ?_, ?_, ?_, fun q hq => ?_⟩
  · rw [x.fI lt (no _ _ (by omega))]; exact c1
  · rw [x.fI lt (no _ _ (by omega))]; exact c2
  · rw [x.fI lt (no _ _ (by omega))]; exact c3
  · rw [x.fI lt (no _ _ (by omega))]; exact c4
  · rw [x.fJ lt (no _ _ (by omega)), x.fI lt (no _ _ (by omega))]; exact d q
  · rw [x.fI lt (fun z => ?_)]
    · exact e
    · obtain ⟨t, t1, t2, t3⟩ := EJA_mn z
      have := B0.g0 hs t1 t3
      rw [this] at q; exact q t2
  · rw [x.fP lt (no _ _ (by omega))]; exact f
  · rw [x.fP lt (no _ _ (by omega))]; exact g
  · rw [x.fP lt (no _ _ (by omega))]; exact i
  · rw [x.fP lt (no _ _ (by omega))]
    by_cases y : ai R 19 s = 9 ∨ ai R 19 s = 10
    · rw [if_pos y] at j ⊢; exact j.1
    · rw [if_neg y] at j ⊢; exact j
  · rw [if_pos (Or.inr q)] at j
    have n9 : ¬ ai R 19 s = 9 := by rw [q]; decide
    have D := j.2.1
    obtain ⟨d1, d2, d3⟩ := B0.dj (e0 := e0) D (fun t t1 t2 te => by
      rcases Nat.lt_trichotomy s t with z | z | z
      · exact (a4 s t hs.1 z t1.2).2 (Or.inr q) (Or.inl t2) te
      · rw [z] at n9; exact n9 t2
      · exact (a4 t s t1.1 z hs.2).2 (Or.inl t2) (Or.inr q) te.symm)
    exact (D.fx x (fun g hg => EJA_no (by omega)) d1 d2 d3).cg (fun i _ => ⟨rfl, rfl, by rw [if_neg n9]⟩)
  · rw [x.fP lt (no _ _ (by omega))]; exact k
  · rw [x.fI lt (no _ _ (by omega))]; exact l
  · have N := (N (fun z => z)).1
    unfold NXF at N ⊢
    rw [x.fP lt (no _ _ (by omega))]; exact N
  · obtain ⟨w1, w2, w3⟩ := c q hq
    have D := w1.1.2.2.2.1
    have t4 := w1.1.2.1
    obtain ⟨d1, d2, d3⟩ := B0.dj (e0 := e0) D (fun t t1 t2 te => by
      have q3 := (B0.nt t1 t2).2.1
      rw [← te, show G 2 (4 * s + q) + 1 - 1 = G 2 (4 * s + q) by omega, t4] at q3
      omega)
    exact ⟨w1.fx2 x (by omega) (fun f h1 h2 h3 => EJA_no (by omega)) (fun f hf => EJA_no (by omega)) ⟨d1, d2, d3⟩, by have := x.1; omega⟩
theorem JBS.bim (B : JBS h0 U a0 J R G nm fW) (x : FX (EJA U e0 R G) h0 h) {b : Nat} (hb : wN R * 1024 ≤ b ∧ b < nbN R) : BIM h R G b := by
  obtain ⟨T, ⟨a1, a2, a3, a4, a5⟩, hU, -⟩ := B
  obtain ⟨⟨⟨b1, b2⟩, b3, b4⟩, -, l, -⟩ := a3 b hb.1 hb.2
  have lt : G 1 b < tp h0 := by omega
  refine ⟨⟨by rw [x.tg lt]; exact b2, by have := x.1; omega⟩, ?_, ?_⟩
  · rw [x.fI lt (EJA_no (by omega))]; exact b3
  · rw [x.fP lt (EJA_no (by omega))]; exact b4
theorem JBS.way (B : JBS h0 U a0 J R G nm fW) (x : FX (EJA U e0 R G) h0 h) {m : Nat} (hm : m < nm) : WYJ h R G (wN R * 12 + m) (fW m) := by
  have B0 := B
  obtain ⟨T, A, hU, hW, -⟩ := B
  obtain ⟨W, l⟩ := hW m hm
  obtain ⟨⟨a1, a2, a3⟩, b, c, ⟨d1, d2⟩, ⟨e1, e2⟩, g, i, j, ⟨k1, k2⟩, p, q⟩ := W
  have lt : fW m < tp h0 := by omega
  have n : ∀ g, g = 31200 ∨ g = 21201 ∨ g = 1202 ∨ g = 11203 ∨ g = 21204 ∨ g = 1205 ∨ g = 11207 ∨ g = 31208 → ¬ EJA U e0 R G g (fW m) := fun g hg => EJA_no (by omega)
  obtain ⟨n1, n2, n3⟩ := B0.dj (e0 := e0) b (fun t t1 t2 te => by
    have q3 := (B0.nt t1 t2).2.1
    rw [← te, show fW m + 1 - 1 = fW m by omega, a2] at q3
    omega)
  refine ⟨⟨by rw [x.tg lt]; exact a2, by have := x.1; omega, by rw [x.fP lt (n _ (by omega))]; exact a3⟩, b.fx x (fun g hg => EJA_no (by omega)) n1 n2 n3, c, ⟨?_, d2⟩, ⟨?_, e2⟩, ?_, fun z => ?_, ⟨?_, k2⟩, ?_, q⟩
  · rw [x.fJ lt (n _ (by omega))]; exact d1
  · rw [x.fI lt (n _ (by omega))]; exact e1
  · rw [x.fI lt (n _ (by omega))]; exact g
  · rw [x.fJ lt (n _ (by omega)), x.fI lt (n _ (by omega))]; exact i z
  · rw [x.fI lt (n _ (by omega))]; exact k1
  · rw [x.fP lt (n _ (by omega))]; exact p
theorem JBS.jo (B : JBS h0 U a0 J R G nm fW) (x : FX (EJA U e0 R G) h0 h) : tg h J = 5 ∧ J < tp h ∧ fP h 30400 J = some U ∧ fP h 30401 J = some (U + 1) := by
  obtain ⟨-, -, -, -, ⟨b1, b2, b3, b4⟩, -⟩ := B
  refine ⟨by rw [x.tg b2]; exact b1, by have := x.1; omega, ?_, ?_⟩
  · rw [x.fP b2 (EJA_no (by omega))]; exact b3
  · rw [x.fP b2 (EJA_no (by omega))]; exact b4
end
