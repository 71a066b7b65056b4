/-! What the class holds of what was read, against the reference's end R; G: addresses and numbers
 (0 statements, 1 blocks, 2 catches, 3 a statement's end, 4 and 5 a block's first and end, 6 names) -/
def plp (v : Int32) : Prop := ∃ p, v = nI p ∧ 0 < p ∧ p ≤ 2000
/-- a set in statements lo .. hi - 1 means c -/
def stR (R : RV) (lo hi c : Nat) : Bool := fup (fun k b => b || (decide (ai R 19 k = 3) && decide (prS R k = some c))) (hi - lo) lo false
def SFF (h : AH) (U : Nat) (R : RV) (G : Nat → Nat → Nat) (s : Nat) : Prop := (U + 10 ≤ G 0 s ∧ tg h (G 0 s) = 9) ∧
  (fI h 800 (G 0 s) = ai R 19 s ∧ fI h 801 (G 0 s) = ai R 20 s ∧ fI h 802 (G 0 s) = ai R 22 s ∧ fI h 803 (G 0 s) = nI (lmB R (tn (ai R 21 s)))) ∧
  (ai R 19 s = 1 ∨ ai R 19 s = 2 ∨ ai R 19 s = 3 → fJ h 20805 (G 0 s) = conv (al R 24 s) ∧ WV (al R 24 s) ∧ fI h 806 (G 0 s) = ai R 25 s) ∧
  fI h 807 (G 0 s) = (if ai R 19 s = 2 ∧ prS R s = none then oI (kN R (wN R) (nkN R) (al R 24 s) (ai R 25 s)) else -1) ∧
  fP h 30808 (G 0 s) = (if ai R 19 s = 2 ∨ ai R 19 s = 3 then (prS R s).map (G 2) else none) ∧
  fP h 30809 (G 0 s) = (oN (ai R 26 s)).map (G 1) ∧
  fP h 30810 (G 0 s) = (oN (if ai R 19 s = 9 then ai R 28 s else ai R 27 s)).map (G 1) ∧
  (if ai R 19 s = 9 ∨ ai R 19 s = 10 then fP h 30811 (G 0 s) = some (G 6 s) ∧ ND h (G 6 s) (tn (ai R 29 s)) (fun i => conv (al R 30 (4 * s + i))) (fun i => ai R 31 (4 * s + i)) (fun i => if ai R 19 s = 9 then none else kN R (wN R) (nkN R) (al R 30 (4 * s + i)) (ai R 31 (4 * s + i))) ∧ ((∀ i, i < tn (ai R 29 s) → WV (al R 30 (4 * s + i))) ∧ (ai R 19 s = 9 → tg h (G 6 s - 1) = 9 ∨ tg h (G 6 s - 1) = 109)) else fP h 30811 (G 0 s) = none) ∧
  fP h 30812 (G 0 s) = (if 0 < tn (ai R 32 s) then some (G 2 (4 * s)) else none) ∧
  fI h 10813 (G 0 s) = b2i (decide (ai R 19 s = 7) && decide (¬ tgS R s = none)) ∧ fI h 814 (G 0 s) = 0
/-- a catch's parts that are there ahead of its block -/
def CFH (h : AH) (U : Nat) (R : RV) (G : Nat → Nat → Nat) (c : Nat) : Prop := U + 10 ≤ G 2 c ∧ tg h (G 2 c) = 4 ∧ fP h 30300 (G 2 c) = some (G 2 c + 1) ∧
  ND h (G 2 c + 1) (tn (ai R 36 c)) (fun j => conv (al R 37 (4 * c + j))) (fun j => ai R 38 (4 * c + j)) (cgK R (wN R) (nkN R) c) ∧
  fP h 30301 (G 2 c) = ((cch R (tn (ai R 21 (c / 4)))).head?).map (G 2) ∧ fI h 302 (G 2 c) = nI (lmB R (tn (ai R 21 (c / 4)))) ∧ (fJ h 20303 (G 2 c) = conv (al R 34 c) ∧ WV (al R 34 c))
def CFF (h : AH) (U : Nat) (R : RV) (G : Nat → Nat → Nat) (c : Nat) : Prop := CFH h U R G c ∧ fP h 30305 (G 2 c) = (oN (ai R 33 c)).map (G 1) ∧
  fP h 30306 (G 2 c) = (if c % 4 + 1 < tn (ai R 32 (c / 4)) then some (G 2 (c + 1)) else none) ∧ fI h 10304 (G 2 c) = b2i (stR R (G 4 (tn (ai R 33 c))) (G 5 (tn (ai R 33 c))) c)
def BFF (h : AH) (U : Nat) (R : RV) (G : Nat → Nat → Nat) (b : Nat) : Prop := (U + 10 ≤ G 1 b ∧ tg h (G 1 b) = 3) ∧ fI h 200 (G 1 b) = ai R 43 b ∧ fP h 30201 (G 1 b) = (oN (ai R 44 b)).map (G 0)
def NXF (h : AH) (R : RV) (G : Nat → Nat → Nat) (s : Nat) : Prop := fP h 30804 (G 0 s) = (oN (ai R 23 s)).map (G 0)
/-- the blocks of a statement, in order -/
def kids (R : RV) (s : Nat) : List Nat := (oN (ai R 26 s)).toList ++ ((oN (ai R 27 s)).toList ++ ((List.range (tn (ai R 32 s))).map (fun i => tn (ai R 33 (4 * s + i))) ++ (oN (ai R 28 s)).toList))
def CI (G : Nat → Nat → Nat) : Nat → List Nat → Nat → Prop
  | lo, [], hi => lo = hi
  | lo, b :: l, hi => G 4 b = lo ∧ lo ≤ G 5 b ∧ CI G (G 5 b) l hi
/-- v is a block of s, or none -/
def BK (R : RV) (s : Nat) (v role num : Int32) : Prop := v = -1 ∨ ∃ b, v = nI b ∧ wN R * 1024 ≤ b ∧ b < nbN R ∧ ai R 40 b = role ∧ ai R 41 b = nI s ∧ ai R 42 b = num
def rol (k : Nat) : Int32 := if k = 1 then 1 else if k = 4 then 2 else if k = 9 then 5 else if k = 10 then 8 else if k = 11 then 9 else 4
def SHP (R : RV) (s : Nat) : Prop := ∃ k, ai R 19 s = nI k ∧ k ≤ 11 ∧ BK R s (ai R 26 s) (rol k) 0 ∧ BK R s (ai R 27 s) 3 0 ∧ BK R s (ai R 28 s) 7 0 ∧ (∀ i, i < tn (ai R 32 s) → BK R s (ai R 33 (4 * s + i)) 6 (nI i) ∧ ¬ ai R 33 (4 * s + i) = -1) ∧
  (¬ k = 4 → ai R 27 s = -1) ∧ (¬ k = 9 → ai R 28 s = -1 ∧ ai R 32 s = nI 0) ∧ (k = 4 ∨ k = 5 ∨ k = 6 ∨ k = 9 ∨ k = 10 ∨ k = 11 → ¬ ai R 26 s = -1) ∧ (k = 0 ∨ k = 2 ∨ k = 3 ∨ k = 7 ∨ k = 8 → ai R 26 s = -1) ∧ (¬ k = 9 → ¬ k = 10 → ai R 29 s = nI 0)
def PLS (R : RV) (s : Nat) : Prop := plp (ai R 20 s) ∧ (ai R 19 s = 1 ∨ ai R 19 s = 2 ∨ ai R 19 s = 3 → plp (ai R 25 s)) ∧ (∀ i, i < tn (ai R 29 s) → plp (ai R 31 (4 * s + i))) ∧ ∀ i, i < tn (ai R 32 s) → cnt (ai R 36 (4 * s + i)) 4 ∧ plp (ai R 35 (4 * s + i)) ∧ ∀ j, j < tn (ai R 36 (4 * s + i)) → plp (ai R 38 (4 * (4 * s + i) + j))
def WFS (R : RV) (G : Nat → Nat → Nat) (s : Nat) : Prop := cnt (ai R 29 s) 4 ∧ cnt (ai R 32 s) 4 ∧ s < G 3 s ∧ CI G (s + 1) (kids R s) (G 3 s) ∧ SHP R s ∧ PLS R s
def WFB (R : RV) (G : Nat → Nat → Nat) (b : Nat) : Prop := plp (ai R 43 b) ∧ G 4 b ≤ G 5 b ∧ (G 4 b = G 5 b → ai R 44 b = -1 ∧ ai R 45 b = -1) ∧ (G 4 b < G 5 b → ai R 44 b = nI (G 4 b) ∧ ai R 21 (G 4 b) = nI b ∧ ∃ e, ai R 45 b = nI e ∧ G 4 b ≤ e ∧ e < G 5 b ∧ G 3 e = G 5 b ∧ ai R 21 e = nI b) ∧
  ∀ s, G 4 b ≤ s → s < G 5 b → ai R 21 s = nI b → G 3 s ≤ G 5 b ∧ ai R 23 s = (if G 3 s = G 5 b then -1 else nI (G 3 s)) ∧ (G 3 s < G 5 b → ai R 21 (G 3 s) = nI b)
/-- names are there -/
def hasN (R : RV) (s : Nat) : Prop := ai R 19 s = 9 ∨ ai R 19 s = 10
/-- statements s0 .. s1 - 1 and blocks b0 .. b1 - 1 are read, at addresses a .. z - 1; pe: whose next is wanting -/
def AD (h : AH) (U a z : Nat) (R : RV) (G : Nat → Nat → Nat) (pe : Nat → Prop) (s0 s1 b0 b1 : Nat) : Prop := z ≤ tp h ∧
  (∀ s, s0 ≤ s → s < s1 → SFF h U R G s ∧ ((¬ pe s → NXF h R G s ∧ ∀ t, oN (ai R 23 s) = some t → t < s1) ∧ (pe s → fP h 30804 (G 0 s) = none)) ∧ ((∀ b, b ∈ kids R s → b0 ≤ b ∧ b < b1) ∧ (∀ c, prS R s = some c → c / 4 < s) ∧ ∀ c, (cch R (tn (ai R 21 s))).head? = some c → c / 4 < s) ∧ WFS R G s ∧ (a ≤ G 0 s ∧ G 0 s < z) ∧ (hasN R s → a ≤ G 6 s ∧ G 6 s + 3 < z) ∧ ∀ i, i < tn (ai R 32 s) → CFF h U R G (4 * s + i) ∧ a ≤ G 2 (4 * s + i) ∧ G 2 (4 * s + i) + 4 < z) ∧
  (∀ b, b0 ≤ b → b < b1 → BFF h U R G b ∧ WFB R G b ∧ (a ≤ G 1 b ∧ G 1 b < z) ∧ (s0 ≤ G 4 b ∧ G 5 b ≤ s1) ∧ ∀ t, oN (ai R 44 b) = some t → t < s1) ∧
  (∀ s t, s0 ≤ s → s < t → t < s1 → G 0 s < G 0 t ∧ (hasN R s → hasN R t → ¬ G 6 s = G 6 t)) ∧ ∀ b c, b0 ≤ b → b < c → c < b1 → G 1 b < G 1 c
section
variable {h h' : AH} {U a z : Nat} {R : RV} {G G' : Nat → Nat → Nat}
theorem SFF.fx {E : Nat → Nat → Prop} {s : Nat} (S : SFF h U R G s) (x : FX E h h') (h0 : G 0 s < tp h) (n0 : ∀ f, f / 100 % 100 = 8 → ¬ f = 30804 → ¬ E f (G 0 s)) (n6 : hasN R s → ∀ f y, G 6 s ≤ y → y ≤ G 6 s + 3 → f / 100 % 100 = 6 ∨ f = 90001 → ¬ E f y) : SFF h' U R G s := by
  obtain ⟨⟨a1, a2⟩, ⟨b1, b2, b3, b4⟩, c, d, e, f, g, i, j, k⟩ := S
  refine ⟨⟨a1, by rw [x.tg h0]; exact a2⟩, ⟨?_, ?_, ?_, ?_⟩, fun q => ?_, ?_, ?_, ?_, ?_, ?_, ?_, ?_⟩
  · rw [x.fI h0 (n0 _ (by decide) (by decide))]; exact b1
  · rw [x.fI h0 (n0 _ (by decide) (by decide))]; exact b2
  · rw [x.fI h0 (n0 _ (by decide) (by decide))]; exact b3
  · rw [x.fI h0 (n0 _ (by decide) (by decide))]; exact b4
  · rw [x.fJ h0 (n0 _ (by decide) (by decide)), x.fI h0 (n0 _ (by decide) (by decide))]; exact c q
  · rw [x.fI h0 (n0 _ (by decide) (by decide))]; exact d
  · rw [x.fP h0 (n0 _ (by decide) (by decide))]; exact e
  · rw [x.fP h0 (n0 _ (by decide) (by decide))]; exact f
  · rw [x.fP h0 (n0 _ (by decide) (by decide))]; exact g
  · rw [x.fP h0 (n0 _ (by decide) (by decide))]
    by_cases y : ai R 19 s = 9 ∨ ai R 19 s = 10
    · rw [if_pos y] at i ⊢
      have n6 := n6 y
      exact ⟨i.1, i.2.1.fx x (fun q _ => n6 _ _ (by omega) (by omega) (by omega)) (n6 _ _ (by omega) (by omega) (by omega)) (n6 _ _ (by omega) (by omega) (by omega)) (n6 _ _ (by omega) (by omega) (by omega)), i.2.2.1, fun z => by rw [x.tg (by have := i.2.1.2.1; omega)]; exact i.2.2.2 z⟩
    · rw [if_neg y] at i ⊢; exact i
  · rw [x.fP h0 (n0 _ (by decide) (by decide))]; exact j
  · rw [x.fI h0 (n0 _ (by decide) (by decide)), x.fI h0 (n0 _ (by decide) (by decide))]; exact k
theorem CFH.fx {E : Nat → Nat → Prop} {c : Nat} (C : CFH h U R G c) (x : FX E h h') (h0 : G 2 c < tp h) (n0 : ∀ f y, G 2 c ≤ y → y ≤ G 2 c + 4 → f / 100 % 100 = 3 ∨ f / 100 % 100 = 6 ∨ f = 90001 → ¬ f = 10304 → ¬ f = 30305 → ¬ f = 30306 → ¬ E f y) : CFH h' U R G c := by
  obtain ⟨a1, a2, a3, a4, a5, a6, a7⟩ := C
  refine ⟨a1, by rw [x.tg h0]; exact a2, ?_, a4.fx x (fun q _ => n0 _ _ (by omega) (by omega) (by omega) (by omega) (by omega) (by omega)) (n0 _ _ (by omega) (by omega) (by omega) (by omega) (by omega) (by omega)) (n0 _ _ (by omega) (by omega) (by omega) (by omega) (by omega) (by omega)) (n0 _ _ (by omega) (by omega) (by omega) (by omega) (by omega) (by omega)), ?_, ?_, ?_⟩
  · rw [x.fP h0 (n0 _ _ (by omega) (by omega) (by omega) (by omega) (by omega) (by omega))]; exact a3
  · rw [x.fP h0 (n0 _ _ (by omega) (by omega) (by omega) (by omega) (by omega) (by omega))]; exact a5
  · rw [x.fI h0 (n0 _ _ (by omega) (by omega) (by omega) (by omega) (by omega) (by omega))]; exact a6
  · rw [x.fJ h0 (n0 _ _ (by omega) (by omega) (by omega) (by omega) (by omega) (by omega))]; exact a7
theorem CFF.fx {E : Nat → Nat → Prop} {c : Nat} (C : CFF h U R G c) (x : FX E h h') (h0 : G 2 c < tp h) (n0 : ∀ f y, G 2 c ≤ y → y ≤ G 2 c + 4 → f / 100 % 100 = 3 ∨ f / 100 % 100 = 6 ∨ f = 90001 → ¬ E f y) : CFF h' U R G c := by
  obtain ⟨a1, a2, a3, a4⟩ := C
  refine ⟨a1.fx x h0 (fun f y h1 h2 h3 _ _ _ => n0 f y h1 h2 h3), ?_, ?_, ?_⟩
  · rw [x.fP h0 (n0 _ _ (by omega) (by omega) (by omega))]; exact a2
  · rw [x.fP h0 (n0 _ _ (by omega) (by omega) (by omega))]; exact a3
  · rw [x.fI h0 (n0 _ _ (by omega) (by omega) (by omega))]; exact a4
theorem BFF.fx {E : Nat → Nat → Prop} {b : Nat} (B : BFF h U R G b) (x : FX E h h') (h0 : G 1 b < tp h) (n0 : ∀ f, f / 100 % 100 = 2 → ¬ E f (G 1 b)) : BFF h' U R G b := by
  obtain ⟨⟨a1, a2⟩, a3, a4⟩ := B
  refine ⟨⟨a1, by rw [x.tg h0]; exact a2⟩, ?_, ?_⟩
  · rw [x.fI h0 (n0 _ (by decide))]; exact a3
  · rw [x.fP h0 (n0 _ (by decide))]; exact a4
/-- nothing of these objects has changed -/
theorem AD.fo {E : Nat → Nat → Prop} {pe : Nat → Prop} {s0 s1 b0 b1 : Nat} (A : AD h U a z R G pe s0 s1 b0 b1) (x : FX E h h') (n0 : ∀ s f, s0 ≤ s → s < s1 → f / 100 % 100 = 8 → ¬ E f (G 0 s)) (n6 : ∀ s f y, s0 ≤ s → s < s1 → hasN R s → G 6 s ≤ y → y ≤ G 6 s + 3 → f / 100 % 100 = 6 ∨ f = 90001 → ¬ E f y) (n2 : ∀ s i f y, s0 ≤ s → s < s1 → i < tn (ai R 32 s) → G 2 (4 * s + i) ≤ y → y ≤ G 2 (4 * s + i) + 4 → f / 100 % 100 = 3 ∨ f / 100 % 100 = 6 ∨ f = 90001 → ¬ E f y) (n1 : ∀ b f, b0 ≤ b → b < b1 → f / 100 % 100 = 2 → ¬ E f (G 1 b)) : AD h' U a z R G pe s0 s1 b0 b1 := by
  obtain ⟨a1, a2, a3, a4, a5⟩ := A
  refine ⟨Nat.le_trans a1 x.1, fun s h1 h2 => ?_, fun b h1 h2 => ?_, a4, a5⟩
  · obtain ⟨q1, ⟨q2, q3⟩, qx, q4, q5, q6, q7⟩ := a2 s h1 h2
    have l0 : G 0 s < tp h := by omega
    have n4 : ¬ E 30804 (G 0 s) := n0 s _ h1 h2 (by decide)
    refine ⟨q1.fx x l0 (fun f hf hf2 => n0 s f h1 h2 hf) (fun hn f y h3 h4 h5 => n6 s f y h1 h2 hn h3 h4 h5), ⟨fun p => ?_, fun p => ?_⟩, qx, q4, q5, q6, fun i hi => ?_⟩
    · obtain ⟨w1, w2⟩ := q2 p
      exact ⟨by unfold NXF at w1 ⊢; rw [x.fP l0 n4]; exact w1, w2⟩
    · rw [x.fP l0 n4]; exact q3 p
    · obtain ⟨w1, w2, w3⟩ := q7 i hi
      exact ⟨w1.fx x (by omega) (fun f y h3 h4 h5 => n2 s i f y h1 h2 hi h3 h4 h5), w2, w3⟩
  · obtain ⟨q1, q2, q3, q4⟩ := a3 b h1 h2
    exact ⟨q1.fx x (by omega) (fun f hf => n1 b f h1 h2 hf), q2, q3, q4⟩
theorem AD.fx {E : Nat → Nat → Prop} {pe : Nat → Prop} {s0 s1 b0 b1 : Nat} (A : AD h U a z R G pe s0 s1 b0 b1) (x : FX E h h') (n : ∀ g y, a ≤ y → y < z → E g y → g = 90003) : AD h' U a z R G pe s0 s1 b0 b1 := by
  have A0 := A
  obtain ⟨a1, a2, a3, a4, a5⟩ := A
  refine A0.fo x (fun s f h1 h2 hf y => ?_) (fun s f y h1 h2 hn h3 h4 hf e => ?_) (fun s i f y h1 h2 hi h3 h4 hf e => ?_) (fun b f h1 h2 hf e => ?_)
  · have q5 := (a2 s h1 h2).2.2.2.2.1
    have := n _ _ q5.1 q5.2 y; omega
  · have q6 := (a2 s h1 h2).2.2.2.2.2.1 hn
    have := n _ _ (by omega) (by omega) e; omega
  · have q7 := (a2 s h1 h2).2.2.2.2.2.2 i hi
    have := n _ _ (by omega) (by omega) e; omega
  · have q3 := (a3 b h1 h2).2.2.1
    have := n _ _ q3.1 q3.2 e; omega
theorem AD.app {pe : Nat → Prop} {m s0 s1 s2 b0 b1 b2 : Nat} (A : AD h U a m R G pe s0 s1 b0 b1) (B : AD h U m z R G pe s1 s2 b1 b2) (ham : a ≤ m) (hmz : m ≤ z) (hs : s1 ≤ s2) (hb0 : b0 ≤ b1) (hb : b1 ≤ b2) (hs0 : s0 ≤ s1) : AD h U a z R G pe s0 s2 b0 b2 := by
  obtain ⟨a1, a2, a3, a4, a5⟩ := A
  obtain ⟨c1, c2, c3, c4, c5⟩ := B
  refine ⟨c1, fun s h1 h2 => ?_, fun b h1 h2 => ?_, fun s t h1 h2 h3 => ?_, fun b c h1 h2 h3 => ?_⟩
  · by_cases y : s < s1
    · obtain ⟨q1, ⟨q2, q3⟩, ⟨k1, k2, k3⟩, q4, q5, q6, q7⟩ := a2 s h1 y
      exact ⟨q1, ⟨fun p => ⟨(q2 p).1, fun t ht => by have := (q2 p).2 t ht; omega⟩, q3⟩, ⟨fun b hk => by have := k1 b hk; omega, k2, k3⟩, q4, by omega, fun hn => by have := q6 hn; omega, fun i hi => by
        obtain ⟨w1, w2, w3⟩ := q7 i hi
        exact ⟨w1, by omega, by omega⟩⟩
    · obtain ⟨q1, q2, ⟨k1, k2, k3⟩, q4, q5, q6, q7⟩ := c2 s (by omega) h2
      exact ⟨q1, q2, ⟨fun b hk => by have := k1 b hk; omega, k2, k3⟩, q4, by omega, fun hn => by have := q6 hn; omega, fun i hi => by
        obtain ⟨w1, w2, w3⟩ := q7 i hi
        exact ⟨w1, by omega, by omega⟩⟩
  · by_cases y : b < b1
    · obtain ⟨q1, q2, q3, q4, q5⟩ := a3 b h1 y
      exact ⟨q1, q2, by omega, by omega, fun t ht => by have := q5 t ht; omega⟩
    · obtain ⟨q1, q2, q3, q4, q5⟩ := c3 b (by omega) h2
      exact ⟨q1, q2, by omega, by omega, q5⟩
  · by_cases y : t < s1
    · exact a4 s t h1 h2 y
    · by_cases y2 : s < s1
      · have p := a2 s h1 y2
        have q := c2 t (by omega) h3
        refine ⟨by have := p.2.2.2.2.1; have := q.2.2.2.2.1; omega, fun n1 n2 e => ?_⟩
        have := p.2.2.2.2.2.1 n1
        have := q.2.2.2.2.2.1 n2
        omega
      · exact c4 s t (by omega) h2 h3
  · by_cases y : c < b1
    · exact a5 b c h1 h2 y
    · by_cases y2 : b < b1
      · have p := a3 b h1 y2
        have q := c3 c (by omega) h3
        have := p.2.2.1; have := q.2.2.1; omega
      · exact c5 b c (by omega) h2 h3
/-- another pending one -/
theorem AD.pe {pe pe' : Nat → Prop} {s0 s1 b0 b1 : Nat} (A : AD h U a z R G pe s0 s1 b0 b1) (n : ∀ s, s0 ≤ s → s < s1 → (pe s ↔ pe' s)) : AD h U a z R G pe' s0 s1 b0 b1 := by
  obtain ⟨a1, a2, a3, a4, a5⟩ := A
  refine ⟨a1, fun s h1 h2 => ?_, a3, a4, a5⟩
  obtain ⟨q1, ⟨q2, q3⟩, qx⟩ := a2 s h1 h2
  have := n s h1 h2
  exact ⟨q1, ⟨fun p => q2 (fun y => p (this.mp y)), fun p => q3 (this.mpr p)⟩, qx⟩
/-- wider addresses -/
theorem AD.wide {pe : Nat → Prop} {a' z' s0 s1 b0 b1 : Nat} (A : AD h U a z R G pe s0 s1 b0 b1) (h1 : a' ≤ a) (h2 : z ≤ z') (h3 : z' ≤ tp h) : AD h U a' z' R G pe s0 s1 b0 b1 := by
  obtain ⟨a1, a2, a3, a4, a5⟩ := A
  refine ⟨h3, fun s g1 g2 => ?_, fun b g1 g2 => ?_, a4, a5⟩
  · obtain ⟨q1, q2, qx, q4, q5, q6, q7⟩ := a2 s g1 g2
    exact ⟨q1, q2, qx, q4, by omega, fun hn => by have := q6 hn; omega, fun i hi => by
      obtain ⟨w1, w2, w3⟩ := q7 i hi
      exact ⟨w1, by omega, by omega⟩⟩
  · obtain ⟨q1, q2, q3, q4⟩ := a3 b g1 g2
    exact ⟨q1, q2, by omega, q4⟩
/-- the numbers agree below -/
def GA (s0 b0 : Nat) (G G' : Nat → Nat → Nat) : Prop := (∀ s, s < s0 → G' 0 s = G 0 s ∧ G' 3 s = G 3 s ∧ G' 6 s = G 6 s) ∧ (∀ b, b < b0 → G' 1 b = G 1 b ∧ G' 4 b = G 4 b ∧ G' 5 b = G 5 b) ∧ ∀ c, c / 4 < s0 → G' 2 c = G 2 c
theorem GA.rf {s0 b0 : Nat} : GA s0 b0 G G := ⟨fun _ _ => ⟨rfl, rfl, rfl⟩, fun _ _ => ⟨rfl, rfl, rfl⟩, fun _ _ => rfl⟩
theorem GA.tr {s0 b0 s1 b1 : Nat} {G'' : Nat → Nat → Nat} (x : GA s0 b0 G G') (y : GA s1 b1 G' G'') (h1 : s0 ≤ s1) (h2 : b0 ≤ b1) : GA s0 b0 G G'' := by
  refine ⟨fun s hs => ?_, fun b hb => ?_, fun c hc => ?_⟩
  · obtain ⟨p1, p2, p3⟩ := x.1 s hs
    obtain ⟨q1, q2, q3⟩ := y.1 s (by omega)
    exact ⟨q1.trans p1, q2.trans p2, q3.trans p3⟩
  · obtain ⟨p1, p2, p3⟩ := x.2.1 b hb
    obtain ⟨q1, q2, q3⟩ := y.2.1 b (by omega)
    exact ⟨q1.trans p1, q2.trans p2, q3.trans p3⟩
  · exact (y.2.2 c (by omega)).trans (x.2.2 c hc)
theorem om_cg {α : Type} {o : Option Nat} {f g : Nat → α} (e : ∀ t, o = some t → f t = g t) : o.map f = o.map g := by
  cases o with
  | none => rfl
  | some t => exact congrArg some (e t rfl)
theorem kid26 {s b : Nat} (e : oN (ai R 26 s) = some b) : b ∈ kids R s := by
  unfold kids; rw [e]; simp
theorem kid27 {s b : Nat} (e : oN (ai R 27 s) = some b) : b ∈ kids R s := by
  unfold kids; rw [e]; simp
theorem kid28 {s b : Nat} (e : oN (ai R 28 s) = some b) : b ∈ kids R s := by
  unfold kids; rw [e]; simp
theorem kid33 {s i : Nat} (hi : i < tn (ai R 32 s)) : tn (ai R 33 (4 * s + i)) ∈ kids R s := by
  unfold kids
  rw [List.mem_append, List.mem_append, List.mem_append]
  refine Or.inr (Or.inr (Or.inl ?_))
  rw [List.mem_map]
  exact ⟨i, List.mem_range.mpr hi, rfl⟩
theorem CI.cg : ∀ {l : List Nat} {lo hi : Nat}, CI G lo l hi → (∀ b, b ∈ l → G' 4 b = G 4 b ∧ G' 5 b = G 5 b) → CI G' lo l hi := by
  intro l
  induction l with
  | nil => intro lo hi c _; exact c
  | cons b l ih =>
    intro lo hi c e
    obtain ⟨c1, c2, c3⟩ := c
    obtain ⟨e1, e2⟩ := e b List.mem_cons_self
    refine ⟨by rw [e1]; exact c1, by rw [e2]; exact c2, ?_⟩
    rw [e2]
    exact ih c3 (fun b hb => e b (List.mem_cons_of_mem _ hb))
theorem AD.gb {pe : Nat → Prop} {s0 s1 b0 b1 : Nat} (A : AD h U a z R G pe s0 s1 b0 b1) (g : ((∀ s, s < s1 → G' 0 s = G 0 s) ∧ ∀ s, s0 ≤ s → s < s1 → G' 3 s = G 3 s ∧ G' 6 s = G 6 s) ∧ (∀ b, b0 ≤ b → b < b1 → G' 1 b = G 1 b ∧ G' 4 b = G 4 b ∧ G' 5 b = G 5 b) ∧ ∀ c, c / 4 < s1 → G' 2 c = G 2 c) : AD h U a z R G' pe s0 s1 b0 b1 := by
  obtain ⟨a1, a2, a3, a4, a5⟩ := A
  refine ⟨a1, fun s h1 h2 => ?_, fun b h1 h2 => ?_, fun s t h1 h2 h3 => ?_, fun b c h1 h2 h3 => ?_⟩
  · obtain ⟨q1, ⟨q2, q3⟩, ⟨k1, k2, k3⟩, q4, q5, q6, q7⟩ := a2 s h1 h2
    have e0 := g.1.1 s h2
    obtain ⟨e3, e6⟩ := g.1.2 s h1 h2
    have kb : ∀ b, b ∈ kids R s → G' 1 b = G 1 b ∧ G' 4 b = G 4 b ∧ G' 5 b = G 5 b := fun b hb => g.2.1 b (k1 b hb).1 (k1 b hb).2
    have c2 : ∀ i, i < 4 → G' 2 (4 * s + i) = G 2 (4 * s + i) := fun i hi => g.2.2 _ (by omega)
    have i4 : ∀ i, i < tn (ai R 32 s) → i < 4 := fun i hi => by have := q4.2.1.2; omega
    rw [e0, e6]
    refine ⟨?_, ⟨fun p => ?_, q3⟩, ⟨k1, k2, k3⟩, ?_, q5, q6, fun i hi => ?_⟩
    · obtain ⟨w1, w2, w3, w4, w5, w6, w7, w8, w9, w10⟩ := q1
      unfold SFF
      rw [e0, e6]
      refine ⟨w1, w2, w3, w4, ?_, ?_, ?_, w8, ?_, w10⟩
      · rw [w5]
        split
        · exact om_cg (fun t ht => (g.2.2 t (by have := k2 t ht; omega)).symm)
        · rfl
      · rw [w6]; exact om_cg (fun t ht => (kb t (kid26 ht)).1.symm)
      · rw [w7]
        split
        · exact om_cg (fun t ht => (kb t (kid28 ht)).1.symm)
        · exact om_cg (fun t ht => (kb t (kid27 ht)).1.symm)
      · rw [w9]
        split
        · rw [show 4 * s = 4 * s + 0 by omega, c2 0 (by omega)]
        · rfl
    · obtain ⟨w1, w2⟩ := q2 p
      refine ⟨?_, w2⟩
      unfold NXF at w1 ⊢
      rw [e0, w1]
      exact om_cg (fun t ht => (g.1.1 t (w2 t ht)).symm)
    · obtain ⟨w1, w2, w3, w4, w5, w6⟩ := q4
      exact ⟨w1, w2, by rw [e3]; exact w3, by rw [e3]; exact CI.cg w4 (fun b hb => (kb b hb).2), w5, w6⟩
    · obtain ⟨w1, w2, w3⟩ := q7 i hi
      have ec := c2 i (i4 i hi)
      rw [ec]
      refine ⟨?_, w2, w3⟩
      obtain ⟨⟨v1, v2, v3, v4, v5, v6, v7⟩, u2, u3, u4⟩ := w1
      have d4 : (4 * s + i) / 4 = s := by have := i4 i hi; omega
      have m4 : (4 * s + i) % 4 = i := by have := i4 i hi; omega
      unfold CFF CFH
      rw [ec]
      refine ⟨⟨v1, v2, v3, v4, ?_, v6, v7⟩, ?_, ?_, ?_⟩
      · rw [v5]
        refine om_cg (fun t ht => (g.2.2 t ?_).symm)
        rw [d4] at ht
        have := k3 t ht
        omega
      · rw [u2]
        refine om_cg (fun t ht => ?_)
        have := kid33 hi
        have e : tn (ai R 33 (4 * s + i)) = t := by
          unfold oN at ht
          split at ht
          · cases ht
          · cases ht; rfl
        rw [e] at this
        exact (kb t this).1.symm
      · rw [u3, d4, m4]
        split
        · rename_i hlt
          rw [show 4 * s + i + 1 = 4 * s + (i + 1) by omega, c2 (i + 1) (i4 _ hlt)]
        · rfl
      · rw [u4]
        obtain ⟨-, f1, f2⟩ := kb _ (kid33 hi)
        rw [f1, f2]
  · obtain ⟨⟨w1, w2, w3⟩, q2, q3, q4, q5⟩ := a3 b h1 h2
    obtain ⟨e1, e4, e5⟩ := g.2.1 b h1 h2
    rw [e1, e4, e5]
    refine ⟨?_, ?_, q3, q4, q5⟩
    · unfold BFF
      rw [e1]
      refine ⟨w1, w2, ?_⟩
      rw [w3]
      exact om_cg (fun t ht => (g.1.1 t (q5 t ht)).symm)
    · obtain ⟨v1, v2, v3, v4, v5⟩ := q2
      unfold WFB
      rw [e4, e5]
      refine ⟨v1, v2, v3, fun hl => ?_, fun s hs1 hs2 hs3 => ?_⟩
      · obtain ⟨u1, u2, e, u3, u4, u5, u6, u7⟩ := v4 hl
        exact ⟨u1, u2, e, u3, u4, u5, by rw [(g.1.2 e (by omega) (by omega)).1]; exact u6, u7⟩
      · rw [(g.1.2 s (by omega) (by omega)).1]
        exact v5 s hs1 hs2 hs3
  · obtain ⟨p1, p2⟩ := a4 s t h1 h2 h3
    rw [g.1.1 s (by omega), g.1.1 t (by omega), (g.1.2 s (by omega) (by omega)).2, (g.1.2 t (by omega) (by omega)).2]
    exact ⟨p1, p2⟩
  · rw [(g.2.1 b (by omega) (by omega)).1, (g.2.1 c (by omega) (by omega)).1]
    exact a5 b c h1 h2 h3
theorem AD.ga {pe : Nat → Prop} {s0 s1 b0 b1 : Nat} (A : AD h U a z R G pe s0 s1 b0 b1) (g : GA s1 b1 G G') : AD h U a z R G' pe s0 s1 b0 b1 := A.gb ⟨⟨fun s hs => (g.1 s hs).1, fun s _ hs => (g.1 s hs).2⟩, fun b _ hb => g.2.1 b hb, g.2.2⟩
/-- a statement is linked to the next one -/
theorem AD.link {pe : Nat → Prop} {s0 s1 b0 b1 e t : Nat} (A : AD h U a z R G pe s0 s1 b0 b1) (h1 : s0 ≤ e) (h2 : e < s1) (h3 : oN (ai R 23 e) = some t) (h4 : t < s1) : AD (setFP h 30804 (G 0 e) (some (G 0 t))) U a z R G (fun s => pe s ∧ ¬ s = e) s0 s1 b0 b1 := by
  obtain ⟨a1, a2, a3, a4, a5⟩ := A
  have x : FX (fun g y => g = 30804 ∧ y = G 0 e) h (setFP h 30804 (G 0 e) (some (G 0 t))) := FX.FP ⟨rfl, rfl⟩
  have inj : ∀ s, s0 ≤ s → s < s1 → ¬ s = e → ¬ G 0 s = G 0 e := fun s g1 g2 g3 => by
    rcases Nat.lt_or_ge s e with y | y
    · have := (a4 s e g1 y h2).1; omega
    · have := (a4 e s h1 (by omega) g2).1; omega
  refine ⟨a1, fun s g1 g2 => ?_, fun b g1 g2 => ?_, a4, a5⟩
  · obtain ⟨q1, ⟨q2, q3⟩, qx, q4, q5, q6, q7⟩ := a2 s g1 g2
    refine ⟨q1.fx x (by omega) (fun f _ hf y => hf y.1) (fun _ f y _ _ hf w => by omega), ⟨fun p => ?_, fun p => ?_⟩, qx, q4, q5, q6, fun i hi => ?_⟩
    · by_cases y : s = e
      · rw [y]
        refine ⟨?_, fun u hu => by rw [h3] at hu; cases hu; exact h4⟩
        unfold NXF
        show (if 30804 = 30804 ∧ G 0 e = G 0 e then some (G 0 t) else _) = _
        rw [if_pos ⟨rfl, rfl⟩, h3]; rfl
      · obtain ⟨w1, w2⟩ := q2 (fun z => p ⟨z, y⟩)
        refine ⟨?_, w2⟩
        unfold NXF at w1 ⊢
        rw [← w1]
        exact x.fP (by omega) (fun w => inj s g1 g2 y w.2)
    · rw [x.fP (by omega) (fun w => inj s g1 g2 p.2 w.2)]; exact q3 p.1
    · obtain ⟨w1, w2, w3⟩ := q7 i hi
      exact ⟨w1.fx x (by omega) (fun f y _ _ hf w => by omega), w2, w3⟩
  · obtain ⟨q1, q2, q3, q4⟩ := a3 b g1 g2
    exact ⟨q1.fx x (by omega) (fun f hf w => by omega), q2, q3, q4⟩
/-- the block around comes to its statements -/
theorem AD.blk {pe : Nat → Prop} {s0 s1 b0 b1 a' : Nat} (A : AD h U a z R G pe s0 s1 (b0 + 1) b1) (B : BFF h U R G b0) (W : WFB R G b0) (h1 : a' ≤ G 1 b0) (h2 : G 1 b0 < a) (h3 : a ≤ z) (h4 : s0 ≤ G 4 b0 ∧ G 5 b0 ≤ s1) (h5 : ∀ t, oN (ai R 44 b0) = some t → t < s1) (h6 : b0 < b1) : AD h U a' z R G pe s0 s1 b0 b1 := by
  obtain ⟨a1, a2, a3, a4, a5⟩ := A
  refine ⟨a1, fun s g1 g2 => ?_, fun b g1 g2 => ?_, a4, fun b c g1 g2 g3 => ?_⟩
  · obtain ⟨q1, q2, ⟨k1, k2, k3⟩, q4, q5, q6, q7⟩ := a2 s g1 g2
    exact ⟨q1, q2, ⟨fun b hk => by have := k1 b hk; omega, k2, k3⟩, q4, by omega, fun hn => by have := q6 hn; omega, fun i hi => by
      obtain ⟨w1, w2, w3⟩ := q7 i hi
      exact ⟨w1, by omega, by omega⟩⟩
  · by_cases y : b = b0
    · rw [y]; exact ⟨B, W, by omega, h4, h5⟩
    · obtain ⟨q1, q2, q3, q4⟩ := a3 b (by omega) g2
      exact ⟨q1, q2, by omega, q4⟩
  · by_cases y : b = b0
    · have := (a3 c (by omega) g3).2.2.1
      rw [y]; omega
    · exact a5 b c (by omega) g2 g3
/-- a statement comes ahead of what lies in it -/
theorem AD.cons {pe : Nat → Prop} {s0 s1 b0 b1 a' z' : Nat} (A : AD h U a z R G pe (s0 + 1) s1 b0 b1) (S : SFF h U R G s0) (P : (¬ pe s0 → NXF h R G s0 ∧ ∀ t, oN (ai R 23 s0) = some t → t < s1) ∧ (pe s0 → fP h 30804 (G 0 s0) = none)) (K : (∀ b, b ∈ kids R s0 → b0 ≤ b ∧ b < b1) ∧ (∀ c, prS R s0 = some c → c / 4 < s0) ∧ ∀ c, (cch R (tn (ai R 21 s0))).head? = some c → c / 4 < s0) (W : WFS R G s0) (h0 : a' ≤ G 0 s0 ∧ G 0 s0 < a) (h6 : hasN R s0 → a' ≤ G 6 s0 ∧ G 6 s0 + 3 < z' ∧ (G 6 s0 < a ∨ z ≤ G 6 s0)) (hC : ∀ i, i < tn (ai R 32 s0) → CFF h U R G (4 * s0 + i) ∧ a' ≤ G 2 (4 * s0 + i) ∧ G 2 (4 * s0 + i) + 4 < z') (hz : a ≤ z ∧ z ≤ z' ∧ z' ≤ tp h) : AD h U a' z' R G pe s0 s1 b0 b1 := by
  obtain ⟨a1, a2, a3, a4, a5⟩ := A
  refine ⟨by omega, fun s g1 g2 => ?_, fun b g1 g2 => ?_, fun s t g1 g2 g3 => ?_, a5⟩
  · by_cases y : s = s0
    · rw [y]; exact ⟨S, P, K, W, by omega, fun hn => by have := h6 hn; omega, hC⟩
    · obtain ⟨q1, q2, qx, q4, q5, q6, q7⟩ := a2 s (by omega) g2
      exact ⟨q1, q2, qx, q4, by omega, fun hn => by have := q6 hn; omega, fun i hi => by
        obtain ⟨w1, w2, w3⟩ := q7 i hi
        exact ⟨w1, by omega, by omega⟩⟩
  · obtain ⟨q1, q2, q3, q4, q5⟩ := a3 b g1 g2
    exact ⟨q1, q2, by omega, by omega, q5⟩
  · by_cases y : s = s0
    · obtain ⟨-, -, -, -, q5, q6, -⟩ := a2 t (by omega) g3
      rw [y]
      refine ⟨by omega, fun n1 n2 e => ?_⟩
      have := h6 n1
      have := q6 n2
      omega
    · exact a4 s t (by omega) g2 g3
/-- nothing yet -/
theorem AD.nil {pe : Nat → Prop} {s b : Nat} (h1 : z ≤ tp h) : AD h U a z R G pe s s b b := ⟨h1, fun _ _ _ => by omega, fun _ _ _ => by omega, fun _ _ _ _ _ => by omega, fun _ _ _ _ _ => by omega⟩
theorem fup_or (p : Nat → Bool) : ∀ m k b, fup (fun i c => c || p i) m k b = (b || fup (fun i c => c || p i) m k false) := by
  intro m
  induction m with
  | zero => intro k b; cases b <;> rfl
  | succ m ih =>
    intro k b
    rw [fup, fup, ih (k + 1) (b || p k), ih (k + 1) (false || p k), Bool.or_assoc, Bool.false_or]
theorem stR_add (R : RV) {lo mid hi : Nat} (c : Nat) (h1 : lo ≤ mid) (h2 : mid ≤ hi) : stR R lo hi c = (stR R lo mid c || stR R mid hi c) := by
  unfold stR
  have g : ∀ (p : Nat → Bool) m n k b, fup (fun i c => c || p i) (m + n) k b = fup (fun i c => c || p i) n (k + m) (fup (fun i c => c || p i) m k b) := by
    intro p m
    induction m with
    | zero => intro n k b; rw [Nat.zero_add]; rfl
    | succ m ih => intro n k b; rw [show m + 1 + n = (m + n) + 1 by omega, fup, ih, fup, show k + 1 + m = k + (m + 1) by omega]
  rw [show hi - lo = (mid - lo) + (hi - mid) by omega, g, show lo + (mid - lo) = mid by omega, fup_or]
theorem stR_nil (R : RV) (lo c : Nat) : stR R lo lo c = false := by
  unfold stR; rw [Nat.sub_self]; rfl
end
