/-! A block's statements come one by one: what is known -/
section
variable {h h1 h2 : AH} {T U e0 x b : Nat} {R r2 rr r' : RV} {G G1 G2 : Nat → Nat → Nat} {last : Option Nat} {ks ks1 ks2 : List Nat} {fS1 fS2 : Nat → Nat} {sc : List Nat}
theorem bpo_end (A : RIL rr) (hr : gi rr 1452 = -1) (g : gi rr 1451 = 125) (hd : 0 < dN rr) (eb : rsB rr = b) (E : ENR rr R) (F : FZ r2 rr) (L : LPD h h1 U R G G1 r2 rr b x last ks ks1 fS1) (X : FX (fun g y => y = T ∨ y = U + 9) h1 h2) (htp : tp h2 = tp h1) (hT : T < U) (hU : U + 10 ≤ x) (hx0 : tp h ≤ x) (hx : x < tp h1) (t3 : tg h1 x = 3) (p200 : fI h1 200 x = ai R 43 b) (pp : plp (ai R 43 b)) (nb : b < nbN rr) (hc : ∀ c, c ∈ cch R b → U + 10 ≤ G 2 c ∧ G 2 c < tp h1) : ∃ G', BPO h h2 U R G G' r2 rr b x ks ks1 fS1 := by
  obtain ⟨l1, l2, ⟨l3, l4⟩, l5, l6, l7, l8⟩ := L
  obtain ⟨⟨b44, b45⟩, b23⟩ := blk_end A hr g hd E
  rw [eb] at b44 b45 b23
  have FR := FZ_en E A
  have sm := small A
  have rs2 := F.1.2.1
  have nE : ∀ gg y : Nat, U + 10 ≤ y → ¬ (y = T ∨ y = U + 9) := fun gg y hy z => by omega
  -- the block's end is set
  let G' : Nat → Nat → Nat := fun q i => if q = 5 ∧ i = b then rsN rr else G1 q i
  have g0 : ∀ q i, ¬ q = 5 → G' q i = G1 q i := fun q i hq => if_neg (fun z => hq z.1)
  have g5 : G' 5 b = rsN rr := if_pos ⟨rfl, rfl⟩
  have g5n : ∀ i, ¬ i = b → G' 5 i = G1 5 i := fun i hi => if_neg (fun z => hi z.2)
  have ga : GA (rsN r2) b G1 G' := ⟨fun s _ => ⟨g0 _ _ (by decide), g0 _ _ (by decide), g0 _ _ (by decide)⟩, fun i hi => ⟨g0 _ _ (by decide), g0 _ _ (by decide), g5n i (by omega)⟩, fun c _ => g0 _ _ (by decide)⟩
  have ga2 : ∀ pe h' a z s0 s1 b1, AD h' U a z R G1 pe s0 s1 (b + 1) b1 → AD h' U a z R G' pe s0 s1 (b + 1) b1 := fun pe h' a z s0 s1 b1 H => H.gb ⟨⟨fun s _ => g0 _ _ (by decide), fun s _ _ => ⟨g0 _ _ (by decide), g0 _ _ (by decide)⟩⟩, fun i hi _ => ⟨g0 _ _ (by decide), g0 _ _ (by decide), g5n i (by omega)⟩, fun c _ => g0 _ _ (by decide)⟩
  have BF : ∀ o, fP h1 30201 x = o → o = (oN (ai R 44 b)).map (G' 0) → BFF h2 U R G' b := fun o ho eo => by
    unfold BFF
    rw [g0 1 b (by decide), l3]
    refine ⟨⟨hU, by rw [X.tg hx]; exact t3⟩, by rw [X.fI hx (nE 0 _ hU)]; exact p200, ?_⟩
    rw [X.fP hx (nE 0 _ hU), ho]; exact eo
  have sets : ∀ c, c ∈ cch R b → fI h2 10304 (G 2 c) = (if stR R (rsN r2) (rsN rr) c then 1 else fI h 10304 (G 2 c)) := fun c m => by
    rw [X.fI (hc c m).2 (nE 0 _ (hc c m).1)]; exact l5 c m
  have tpx : tp h ≤ tp h2 := by omega
  rcases l8 with ⟨c1, c2, c3, c4, c5, c6⟩ | ⟨e, c1, c2, c3, c4, c5, c6, c7, c8, c9, c10, c11, c12⟩
  · rw [c5] at b45
    rw [c6] at b44
    refine ⟨G', l1.tr ga (Nat.le_refl _) (Nat.le_refl _), fun k hk => by rw [g0 0 _ (by decide)]; exact l2 k hk, ?_, ⟨by rw [g0 1 _ (by decide)]; exact l3, by rw [g0 4 _ (by decide)]; exact l4, g5⟩, sets, l6, l7⟩
    have wb : WFB R G' b := by
      unfold WFB
      rw [g5, g0 4 b (by decide), l4, c1]
      exact ⟨pp, Nat.le_refl _, fun _ => ⟨b44, b45⟩, fun z => by omega, fun s z1 z2 => by omega⟩
    have n0 : AD h2 U (x + 1) (tp h2) R G' (fun _ => False) (rsN r2) (rsN rr) (b + 1) (nbN rr) := by
      rw [c1, c2]; exact AD.nil (Nat.le_refl _)
    refine n0.blk (BF none c4 (by rw [b44]; rfl)) wb (by rw [g0 1 b (by decide), l3]; exact hx0) (by rw [g0 1 b (by decide), l3]; omega) (by omega) ⟨by rw [g0 4 b (by decide), l4]; exact Nat.le_refl _, by rw [g5]; exact Nat.le_refl _⟩ (fun t ht => by rw [b44] at ht; cases ht) nb
  · rw [c6] at b45
    rw [c7] at b44
    have e21 : ai rr 21 e = nI b := by rw [← (FR.2.1 21 e (by omega) c3).1]; exact c9
    have e23 : ai R 23 e = -1 := (b23 e c3 e21).trans c8
    refine ⟨G', l1.tr ga (Nat.le_refl _) (Nat.le_refl _), fun k hk => by rw [g0 0 _ (by decide)]; exact l2 k hk, ?_, ⟨by rw [g0 1 _ (by decide)]; exact l3, by rw [g0 4 _ (by decide)]; exact l4, g5⟩, sets, l6, l7⟩
    have wb : WFB R G' b := by
      unfold WFB
      rw [g5, g0 4 b (by decide), l4]
      refine ⟨pp, by omega, fun z => by omega, fun _ => ⟨b44, c10, e, b45, c2, c3, by rw [g0 3 e (by decide)]; exact c11, c9⟩, fun s z1 z2 z3 => ?_⟩
      rw [g0 3 s (by decide)]
      by_cases y : s = e
      · rw [y, c11, if_pos rfl]
        exact ⟨Nat.le_refl _, e23, fun z => by omega⟩
      · obtain ⟨d1, d2, d3⟩ := c12 s z1 z2 z3 y
        rw [if_neg (by omega)]
        exact ⟨by omega, d2, fun _ => d3⟩
    have n1 : AD h2 U (x + 1) (tp h2) R G' (fun _ => False) (rsN r2) (rsN rr) (b + 1) (nbN rr) := by
      have q := (ga2 _ _ _ _ _ _ _ c4).fx X (fun gg y h3 h4 h5 => by omega)
      have q2 := q.wide (a' := x + 1) (z' := tp h2) (Nat.le_refl _) (by omega) (Nat.le_refl _)
      -- the last one has none behind it
      obtain ⟨a1, a2, a3, a4, a5⟩ := q2
      refine ⟨a1, fun s h3 h4 => ?_, a3, a4, a5⟩
      obtain ⟨q1, ⟨q2, q3⟩, qx⟩ := a2 s h3 h4
      refine ⟨q1, ⟨fun _ => ?_, fun z => z.elim⟩, qx⟩
      by_cases y : s = e
      · rw [y, e23]
        refine ⟨?_, fun t ht => by cases ht⟩
        unfold NXF
        rw [e23]
        have := q3 y
        rw [y] at this
        rw [this]; rfl
      · exact q2 y
    have bt : oN (ai R 44 b) = some (rsN r2) := by rw [b44, oN_nI (by omega)]
    refine n1.blk (BF _ c5 (by rw [bt]; exact congrArg some (g0 0 _ (by decide)).symm)) wb (by rw [g0 1 b (by decide), l3]; exact hx0) (by rw [g0 1 b (by decide), l3]; omega) (by omega) ⟨by rw [g0 4 b (by decide), l4]; exact Nat.le_refl _, by rw [g5]; exact Nat.le_refl _⟩ (fun t ht => by rw [bt] at ht; cases ht; omega) nb
theorem lpd_step {n : Nat} {h3 : AH} {x2 : Nat} (A : RIL rr) (hr : gi rr 1452 = -1) (hd : 0 < dN rr) (d1 : ¬ gi rr 1451 = 125) (gk : goK (dN rr) n (stpF rr) r') (ok : gi r' 1452 = -1) (eb : rsB rr = b) (E : ENR r' R) (F : FZ r2 rr) (hb2 : nbN r2 = b + 1) (L : LPD h h1 U R G G1 r2 rr b x last ks ks1 fS1) (P : DPO h1 h2 U R G1 G2 rr r' x2 ks1 ks2 fS2) (X : FX (EPa T U e0 sc) h1 h2) (hT : T < U) (he : e0 < U) (hsc : ∀ a, a ∈ sc → a < x) (hU : U + 10 ≤ x) (hx : x < tp h1) (hc : ∀ c, c ∈ cch R b → c / 4 < rsN r2 ∧ G 2 c < x)
    (H3 : (last = none ∧ h3 = setFP h2 30201 x (some x2)) ∨ ∃ y, last = some y ∧ h3 = setFP h2 30804 y (some x2)) : ∃ G', LPD h h3 U R G G' r2 r' b x (some x2) ks ks2 fS2 := by
  have rg := rng_in hr hd
  obtain ⟨ok1, A1, O, A2, F1, F2, KP, pd, p46⟩ := st_seg A rg hd d1 gk ok
  obtain ⟨nn1, nn2, nn3, nn4⟩ := nen_next A rg (dN_0 hd) d1 ok1
  obtain ⟨i1, -, -⟩ := inb_rs A rg (dN_0 hd) d1 ok1
  rw [eb] at nn1 nn3 nn4 i1
  obtain ⟨k1, k2, k3, k4⟩ := KP
  have E1 : ENR (stpF rr) R := by
    have := goK_N gk
    -- the end is the same from there
    obtain ⟨m, gm, e⟩ := E
    exact ⟨n + m, goN_tr this gm, e⟩
  have FR1 := FZ_en E1 A1
  have FR2 := FZ_en E A2
  have sm := small A
  have sm1 := small A1
  have sm2 := small A2
  have eo : obN (stpF rr) (dN rr - 1) = b := by unfold obN; rw [p46 _ (by omega)]; exact eb
  have q44 : ai r' 44 b = ai (stpF rr) 44 b ∧ ai r' 45 b = ai (stpF rr) 45 b := by
    have := k3 (dN rr - 1) (by omega)
    rw [eo] at this; exact this
  have rlt : rsN rr < rsN (stpF rr) := by
    obtain ⟨-, -, -, ⟨o4, -⟩, -⟩ := O
    rcases Nat.lt_or_ge (rsN rr) (rsN (stpF rr)) with y | y
    · exact y
    · exfalso
      obtain ⟨-, -, p3, -, p5⟩ := A1.o (j := dN rr - 1) (by omega)
      rw [eo, nn3] at p5
      rcases p5 with p5 | ⟨e', g1, g2, g3, -⟩
      · exact nI_ne_m1 (by omega) p5
      · have := congrArg tn g1
        rw [tn_nI sm.1, tn_nI (by omega)] at this
        omega
  have q23 : ai r' 23 (rsN rr) = -1 := (k4 (rsN rr) (dN rr - 1) rlt (by omega) (by rw [eo]; exact i1)).trans nn2
  have r21 : ai R 21 (rsN rr) = nI b := by rw [(FR1.2.1 21 _ (by omega) rlt).1]; exact i1
  obtain ⟨l1, l2, ⟨l3, l4⟩, l5, l6, l7, l8⟩ := L
  obtain ⟨p1, p2, p3, p4, p5, p6, p7, p8⟩ := P
  have w2 : wN r2 = wN rr := F.1.1.symm
  have rs2 := F.1.2.1
  have nb2 := F.1.2.2.1
  have rs3 := F2.1.2.1
  have nb3 := F2.1.2.2.1
  have nb4 := F1.1.2.2.1
  have lb : b < nbN rr := by rw [← eb]; exact (A.o (j := dN rr - 1) (by omega)).2.2.1
  have X3 : FX (fun g y => (g = 30201 ∧ y = x) ∨ (g = 30804 ∧ last = some y)) h2 h3 := by
    rcases H3 with ⟨-, e⟩ | ⟨y, e1, e⟩
    · rw [e]; exact FX.FP (Or.inl ⟨rfl, rfl⟩)
    · rw [e]; exact FX.FP (Or.inr ⟨rfl, e1⟩)
  have tp3 : tp h3 = tp h2 := by rcases H3 with ⟨-, e⟩ | ⟨y, e1, e⟩ <;> rw [e] <;> rfl
  have tp12 := X.1
  have GAA : GA (rsN r2) b G G2 := l1.tr p1 rs2 (by omega)
  have setsN : ∀ c, c ∈ cch R b → fI h3 10304 (G 2 c) = (if stR R (rsN r2) (rsN r') c then 1 else fI h 10304 (G 2 c)) := fun c m => by
    obtain ⟨hc1, hc2⟩ := hc c m
    rw [X3.fI (by omega) (fun z => by omega)]
    have e1 : G1 2 c = G 2 c := l1.2.2 c hc1
    have := p6 c (by rw [eb]; exact m)
    rw [e1, l5 c m] at this
    rw [this, stR_add R (lo := rsN r2) (mid := rsN rr) (hi := rsN r') c rs2 (by omega)]
    cases stR R (rsN r2) (rsN rr) c <;> cases stR R (rsN rr) (rsN r') c <;> simp
  have ctk : CTK ks2 (flr (mpS R) (rsN r' - rsN r2) (rsN r2)) ks := by
    rw [show rsN r' - rsN r2 = (rsN rr - rsN r2) + (rsN r' - rsN rr) by omega, flr_add, show rsN r2 + (rsN rr - rsN r2) = rsN rr by omega]
    exact l6.tr p7
  have wts : sumN (wtS R) (rsN r' - rsN r2) (rsN r2) + 2 * (nbN r' - nbN r2) + qN r2 ≤ qN r' := by
    rw [show rsN r' - rsN r2 = (rsN rr - rsN r2) + (rsN r' - rsN rr) by omega, sumN_add, show rsN r2 + (rsN rr - rsN r2) = rsN rr by omega]
    omega
  have gx : G2 1 b = x ∧ G2 4 b = rsN r2 := by
    obtain ⟨y1, y2, y3⟩ := p1.2.1 b lb
    rw [y1, y2]; exact ⟨l3, l4⟩
  refine ⟨G2, GAA, fun k hk => by rw [w2]; exact p2 k hk, gx, setsN, ctk, wts, Or.inr ⟨rsN rr, by rw [p5], rs2, by omega, ?_⟩⟩
  have deep : ∀ s, rsN rr < s → s < rsN r' → ¬ ai R 21 s = nI b := fun s h4 h5 h6 => by
    have lv : ∀ j, dN rr ≤ j → j < dN (stpF rr) → nbN rr ≤ obN (stpF rr) j := fun j h7 h8 => by
      obtain ⟨o1, o2, o3, ⟨o4, o4'⟩, k, hk, o5⟩ := O
      have kd : k = dN rr := by
        rcases hk with ⟨z, -⟩ | ⟨-, z⟩
        · exact z
        · exact absurd z d1
      rcases o5 with ⟨q, q2, -⟩ | ⟨q, q2, q3, -⟩
      · omega
      · have : obN (stpF rr) j = nbN rr := by unfold obN; rw [show j = k by omega, q3, tn_nI sm.2]
        omega
    obtain ⟨j, j1, j2, j3⟩ := (inb_seg A1 gk ok pd nb4 lv).1 s (by
      obtain ⟨-, -, -, ⟨-, o4'⟩, -⟩ := O
      omega) h5
    rw [(FR2.2.1 21 s (by omega) h5).1, j1] at h6
    have := congrArg tn h6
    rw [tn_nI (by omega), tn_nI (by omega)] at this
    omega
  have pe0 : AD h2 U (tp h1) (tp h2) R G2 (fun s => s = rsN rr) (rsN rr) (rsN r') (nbN rr) (nbN r') := p3
  rcases l8 with ⟨c1, c2, c3, c4, c5, c6⟩ | ⟨e, c1, c2, c3, c4, c5, c6, c7, c8, c9, c10, c11, c12⟩
  · -- the first one
    have e3 : h3 = setFP h2 30201 x (some x2) := by
      rcases H3 with ⟨-, e⟩ | ⟨y, e1, -⟩
      · exact e
      · rw [c3] at e1; cases e1
    have ad : AD h3 U (x + 1) (tp h3) R G2 (fun s => s = rsN rr) (rsN r2) (rsN r') (b + 1) (nbN r') := by
      rw [← c1, show b + 1 = nbN rr from c2.symm, tp3]
      refine (AD.fx pe0 X3 (fun g y h4 h5 h6 => ?_)).wide (by omega) (Nat.le_refl _) (by omega)
      rcases h6 with h6 | ⟨-, h6⟩
      · omega
      · rw [c3] at h6; cases h6
    refine ⟨ad, ?_, by rw [q44.2]; exact nn3, ?_, q23, r21, by rw [← c1]; exact r21, p4, fun s h4 h5 h6 h7 => ?_⟩
    · rw [e3, ← c1, p5]
      show (if 30201 = 30201 ∧ x = x then _ else _) = _
      rw [if_pos ⟨rfl, rfl⟩]
    · rw [q44.1, nn4, if_pos c5, c1]
    · exact absurd h6 (deep s (by omega) h5)
  · have e23 : ai R 23 e = nI (rsN rr) := by
      obtain ⟨y1, y2⟩ := nn1 e c6 c3
      rw [nen_en E1 A1 y1]; exact y2
    have ge : G2 0 e = G1 0 e := (p1.1 e c3).1
    have e3 : h3 = setFP h2 30804 (G2 0 e) (some (G2 0 (rsN rr))) := by
      rcases H3 with ⟨e, -⟩ | ⟨y, e1, e2⟩
      · rw [c1] at e; cases e
      · rw [c1] at e1
        cases e1
        rw [e2, ge, p5]
    have o1 := ((c4.fx X (fun g y h4 h5 h6 => by
      rcases EPa_is h6 with z | z | z | ⟨z, -⟩ | z
      · omega
      · omega
      · exact z.1
      · have := hsc _ z; omega
      · omega)).ga p1).pe (pe' := fun s => s = e ∨ s = rsN rr) (fun s h4 h5 => ⟨fun z => Or.inl z, fun z => by
        rcases z with z | z
        · exact z
        · omega⟩)
    have o2 := pe0.pe (pe' := fun s => s = e ∨ s = rsN rr) (fun s h4 h5 => ⟨fun z => Or.inr z, fun z => by
        rcases z with z | z
        · omega
        · exact z⟩)
    have o3 := o1.app o2 (by omega) tp12 (by omega) (by omega) (by omega) (by omega)
    have o4 := (o3.link (e := e) (t := rsN rr) c2 (by omega) (by rw [e23, oN_nI (by omega)]) (by omega)).pe (pe' := fun s => s = rsN rr) (fun s h4 h5 => ⟨fun z => by
        rcases z with ⟨z | z, z2⟩
        · exact absurd z z2
        · exact z, fun z => ⟨Or.inr z, by omega⟩⟩)
    rw [← e3, ← tp3] at o4
    refine ⟨o4, ?_, by rw [q44.2]; exact nn3, ?_, q23, r21, c10, p4, fun s h4 h5 h6 h7 => ?_⟩
    · have xl : FX (fun g y => g = 30804) h2 (setFP h2 30804 (G2 0 e) (some (G2 0 (rsN rr)))) := FX.FP rfl
      rw [e3, xl.fP (by omega) (by decide), X.fP hx (EPa_no (by omega)), c5, (p1.1 (rsN r2) (by omega)).1]
    · rw [q44.1, nn4, if_neg (by rw [c6]; exact nI_ne_m1 (by omega))]; exact c7
    · by_cases y : s < rsN rr
      · rw [(p1.1 s y).2.1]
        by_cases y2 : s = e
        · rw [y2, c11]
          exact ⟨by omega, e23, r21⟩
        · obtain ⟨d2, d3, d4⟩ := c12 s h4 y h6 y2
          exact ⟨by omega, d3, d4⟩
      · exact absurd h6 (deep s (by omega) h5)
end
