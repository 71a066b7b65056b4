/-! What the class holds of a text stays, whatever else changes -/
section
variable {E : Nat → Nat → Prop} {h h' : AH} {U V' e0 : Nat} {R : RV} {C L : Nat → Int32} {G : Nat → Nat → Nat} {nm : Nat} {fW : Nat → Nat} {nk : Nat} {par : Nat → Nat} {wk : Nat → Int64} {pk : Nat → Int32} {ns : Nat} {fS : Nat → Nat} {ks : List Nat}
theorem ND.fu {N n : Nat} {wd : Nat → Int64} {pc : Nat → Int32} {mt : Nat → Option Nat} (D : ND h N n wd pc mt) (x : FX E h h') (nE : ∀ g y, U ≤ y → y < V' → E g y → g = 309 ∧ U + 10 ≤ y) (h1 : U ≤ N) (h2 : N + 3 < V') : ND h' N n wd pc mt :=
  D.fx x (fun g hg z => by have := nE g N h1 (by omega) z; omega) (fun z => by have := nE _ _ (by omega) (by omega) z; omega) (fun z => by have := nE _ _ (by omega) (by omega) z; omega) (fun z => by have := nE _ _ (by omega) (by omega) z; omega)
theorem CFF.fu {c : Nat} (F : CFF h U R G c) (x : FX E h h') (vt : V' ≤ tp h) (nE : ∀ g y, U ≤ y → y < V' → E g y → g = 309 ∧ U + 10 ≤ y) (h1 : U ≤ G 2 c) (h2 : G 2 c + 4 < V') : CFF h' U R G c := by
  obtain ⟨⟨a1, a2, a3, a4, a5, a6, a7⟩, b2, b3, b4⟩ := F
  have lt : G 2 c < tp h := by omega
  have n : ∀ f, ¬ f = 309 → ¬ E f (G 2 c) := fun f hf z => hf (nE f _ h1 (by omega) z).1
  refine ⟨⟨a1, by rw [x.tg lt]; exact a2, ?_, a4.fu x nE (by omega) (by omega), ?_, ?_, ?_⟩, ?_, ?_, ?_⟩
  · rw [x.fP lt (n _ (by decide))]; exact a3
  · rw [x.fP lt (n _ (by decide))]; exact a5
  · rw [x.fI lt (n _ (by decide))]; exact a6
  · rw [x.fJ lt (n _ (by decide))]; exact a7
  · rw [x.fP lt (n _ (by decide))]; exact b2
  · rw [x.fP lt (n _ (by decide))]; exact b3
  · rw [x.fI lt (n _ (by decide))]; exact b4
theorem SIM.fu {s : Nat} (S : SIM h U R G s) (x : FX E h h') (vt : V' ≤ tp h) (nE : ∀ g y, U ≤ y → y < V' → E g y → g = 309 ∧ U + 10 ≤ y) (b0 : U + 10 ≤ G 0 s ∧ G 0 s < V') (b6 : ai R 19 s = 9 ∨ ai R 19 s = 10 → U + 10 ≤ G 6 s ∧ G 6 s + 3 < V') (b2 : ∀ i, i < tn (ai R 32 s) → U + 10 ≤ G 2 (4 * s + i) ∧ G 2 (4 * s + i) + 4 < V') : SIM h' U R G s := by
  obtain ⟨⟨a1, a2⟩, ⟨c1, c2, c3, c4⟩, d, e, f, g, i, j, k, l, m, o, p, q⟩ := S
  have n : ∀ f, ¬ f = 309 → ¬ E f (G 0 s) := fun f hf z => hf (nE f _ (by omega) b0.2 z).1
  have lt : G 0 s < tp h := a2
  refine ⟨⟨by rw [x.tg lt]; exact a1, by have := x.1; omega⟩, ⟨?_, ?_, ?_, ?_⟩, fun z => ?_, fun z => ?_, ?_, ?_, ?_, ?_, fun z => ?_, l, ?_, ?_, ?_, fun z hz => ?_⟩
  · rw [x.fI lt (n _ (by decide))]; exact c1
  · rw [x.fI lt (n _ (by decide))]; exact c2
  · rw [x.fI lt (n _ (by decide))]; exact c3
  · rw [x.fI lt (n _ (by decide))]; exact c4
  · rw [x.fJ lt (n _ (by decide)), x.fI lt (n _ (by decide))]; exact d z
  · rw [x.fI lt (n _ (by decide))]; exact e z
  · rw [x.fP lt (n _ (by decide))]; exact f
  · rw [x.fP lt (n _ (by decide))]; exact g
  · rw [x.fP lt (n _ (by decide))]; exact i
  · rw [x.fP lt (n _ (by decide))]; exact j
  · have := b6 (Or.inr z)
    exact (k z).fu x nE (by omega) (by omega)
  · rw [x.fP lt (n _ (by decide))]; exact m
  · rw [x.fI lt (n _ (by decide))]; exact o
  · unfold NXF at p ⊢
    rw [x.fP lt (n _ (by decide))]; exact p
  · have := b2 z hz
    exact ⟨(q z hz).1.fu x vt nE (by omega) (by omega), by have := (q z hz).2; have := x.1; omega⟩
theorem JDB.fu {b : Nat} (J : JDB R C L G h b) (x : FX E h h') (vt : V' ≤ tp h) (nE : ∀ g y, U ≤ y → y < V' → E g y → g = 309 ∧ U + 10 ≤ y) (b0 : U + 10 ≤ G 1 b ∧ G 1 b < V') : JDB R C L G h' b := by
  have n : ∀ f, ¬ f = 309 → ¬ E f (G 1 b) := fun f hf z => hf (nE f _ (by omega) b0.2 z).1
  refine ⟨?_, ?_⟩
  · rw [x.fI (by omega) (n _ (by decide))]; exact J.1
  · rw [x.fI (by omega) (n _ (by decide))]; exact J.2
theorem JDS.fu {s : Nat} (J : JDS R C L G nm h s) (x : FX E h h') (vt : V' ≤ tp h) (nE : ∀ g y, U ≤ y → y < V' → E g y → g = 309 ∧ U + 10 ≤ y) (b0 : U + 10 ≤ G 0 s ∧ G 0 s < V') (b6 : ai R 19 s = 9 ∨ ai R 19 s = 10 → U + 10 ≤ G 6 s ∧ G 6 s + 3 < V') (b1 : ∀ b, b ∈ kids R s → U + 10 ≤ G 1 b ∧ G 1 b < V') : JDS R C L G nm h' s := by
  obtain ⟨⟨j1, j2⟩, j3, j4, j5⟩ := J
  have n : ∀ f, ¬ f = 309 → ¬ E f (G 0 s) := fun f hf z => hf (nE f _ (by omega) b0.2 z).1
  have lt : G 0 s < tp h := by omega
  refine ⟨⟨?_, ?_⟩, fun b m => (j3 b m).fu x vt nE (b1 b m), fun z => ?_, fun z => ?_⟩
  · rw [x.fI lt (n _ (by decide))]; exact j1
  · rw [x.fI lt (n _ (by decide))]; exact j2
  · rw [x.fI lt (n _ (by decide))]; exact j4 z
  · have := b6 (Or.inl z)
    exact (j5 z).fu x nE (by omega) (by omega)
theorem UNF.fx (N : UNF h U V' e0 R C L G nm fW nk par wk pk ns fS ks) (x : FX E h h') (nE : ∀ g y, U ≤ y → y < V' → E g y → g = 309 ∧ U + 10 ≤ y) (n0 : ∀ y, ¬ E 0 y) : UNF h' U V' e0 R C L G nm fW nk par wk pk ns fS ks := by
  obtain ⟨⟨u1, u2, u3, u4, u5, u6, vt⟩, K, ⟨eW, eS, eM, aW, aS, aM, v1, v2, v3⟩, ⟨t1, t2⟩, k5, k6, k7, ST, BL, WY, BD⟩ := N
  have BD0 := BD
  obtain ⟨bs, bb, bw, bg⟩ := BD
  have lo : ∀ g y, U ≤ y → y < U + 10 → y < V' → ¬ E g y := fun g y h1 h2 h3 z => by have := nE g y h1 h3 z; omega
  have no : ∀ g y, U ≤ y → y < V' → ¬ g = 309 → ¬ E g y := fun g y h1 h2 h3 z => h3 (nE g y h1 h2 z).1
  have lU : U < tp h := by omega
  have TR := k7.1
  have sb : ∀ s, SRG R s → ∀ b, b ∈ kids R s → wN R * 1024 ≤ b ∧ b < nbN R := fun s hs => (TR.2.1 s hs.1 hs.2).2
  refine ⟨⟨by rw [x.tg lU]; exact u1, ?_, ?_, ?_, ?_, u6, by have := x.1; omega⟩, ?_, ⟨eW, eS, eM, ?_, ?_, ?_, v1, v2, v3⟩, ⟨fun i hi => ?_, fun i hi => ?_⟩, k5, k6, k7, fun s hs => ?_, fun b hb => ?_, fun m hm => ?_, BD0⟩
  · rw [x.fP lU (lo _ _ (Nat.le_refl _) (by omega) (by omega))]; exact u2
  · rw [x.fP lU (lo _ _ (Nat.le_refl _) (by omega) (by omega))]; exact u3
  · rw [x.fP lU (lo _ _ (Nat.le_refl _) (by omega) (by omega))]; exact u4
  · rw [x.fP lU (lo _ _ (Nat.le_refl _) (by omega) (by omega))]; exact u5
  · exact K.fx x (fun g => lo _ _ (by omega) (by omega) (by omega)) (lo _ _ (by omega) (by omega) (by omega)) (lo _ _ (by omega) (by omega) (by omega)) (lo _ _ (by omega) (by omega) (by omega)) (lo _ _ (by omega) (by omega) (by omega))
  · exact aW.fx x (lo _ _ (by omega) (by omega) (by omega)) (lo _ _ (by omega) (by omega) (by omega)) (v1.imp id (fun z => no _ _ z.1 z.2 (by decide)))
  · exact aS.fx x (lo _ _ (by omega) (by omega) (by omega)) (lo _ _ (by omega) (by omega) (by omega)) (v2.imp id (fun z => no _ _ z.1 z.2 (by decide)))
  · exact aM.fx x (lo _ _ (by omega) (by omega) (by omega)) (lo _ _ (by omega) (by omega) (by omega)) (v3.imp id (fun z => no _ _ z.1 z.2 (by decide))) n0
  · rw [x.tg (aW.2.2.2.2.2.2.2.2 i hi).2.2]; exact t1 i hi
  · rw [x.tg (aS.2.2.2.2.2.2.2.2 i hi).2.2]; exact t2 i hi
  · obtain ⟨S, J, l01⟩ := ST s hs
    obtain ⟨b0, b6, b2⟩ := bs s hs
    exact ⟨S.fu x vt nE b0 b6 b2, J.fu x vt nE b0 b6 (fun b m => bb b (sb s hs b m)), l01⟩
  · obtain ⟨⟨c1, c2⟩, c3, c4⟩ := BL b hb
    have q := bb b hb
    refine ⟨⟨by rw [x.tg c2]; exact c1, by have := x.1; omega⟩, ?_, ?_⟩
    · rw [x.fI c2 (no _ _ (by omega) q.2 (by decide))]; exact c3
    · rw [x.fP c2 (no _ _ (by omega) q.2 (by decide))]; exact c4
  · obtain ⟨W, JW⟩ := WY m hm
    obtain ⟨w1, w2⟩ := bw m hm
    obtain ⟨⟨a1, a2, a3⟩, b, c, ⟨d1, d2⟩, ⟨e1, e2⟩, g, i, ⟨k1, k2⟩, p, q⟩ := W
    have n : ∀ f, ¬ f = 309 → ¬ E f (fW m) := fun f hf => no f _ (by omega) (by omega) hf
    refine ⟨⟨⟨by rw [x.tg a2]; exact a1, by have := x.1; omega, by rw [x.fP a2 (n _ (by decide))]; exact a3⟩, b.fu x nE (by omega) (by omega), c, ⟨?_, d2⟩, ⟨?_, e2⟩, ?_, fun z => ?_, ⟨?_, k2⟩, ?_, q⟩, fun b' eb => ?_, ?_⟩
    · rw [x.fJ a2 (n _ (by decide))]; exact d1
    · rw [x.fI a2 (n _ (by decide))]; exact e1
    · rw [x.fI a2 (n _ (by decide))]; exact g
    · rw [x.fJ a2 (n _ (by decide)), x.fI a2 (n _ (by decide))]; exact i z
    · rw [x.fI a2 (n _ (by decide))]; exact k1
    · rw [x.fP a2 (n _ (by decide))]; exact p
    · obtain ⟨q1, q2⟩ := JW.1 b' eb
      have rb := TR.1.2 b' (bod_in hm eb)
      have lb := (TR.1.1.le).2 b' (bod_in hm eb)
      refine ⟨fun s s1 s2 => ?_, q2.fu x vt nE (bb b' ⟨by omega, by omega⟩)⟩
      have hs : SRG R s := ⟨by omega, by omega⟩
      obtain ⟨b0, b6, b2⟩ := bs s hs
      exact (q1 s s1 s2).fu x vt nE b0 b6 (fun b m => bb b (sb s hs b m))
    · rw [x.fI a2 (n _ (by decide))]; exact JW.2
end
/-- the tree of a text that was read -/
theorem tre_of {h : AH} {U a0 : Nat} {R : RV} {G : Nat → Nat → Nat} {nk : Nat} {par : Nat → Nat} {wk : Nat → Int64} {pk : Nat → Int32} {nm : Nat} {fW fS : Nat → Nat} {ks : List Nat} (A : RIL R) (t : TLD h U a0 R G R nk par wk pk nm fW fS ks) : TRE R G nm := by
  obtain ⟨-, -, ⟨-, a2, a3, -⟩, cb, -, -, -, up⟩ := t
  have er : rsN R = wN R * 120 + nsC R := rfl
  have eb : nbN R = wN R * 1024 + nbC R := rfl
  have s2 := A.s.2
  have b2 := A.b.2.1
  have w2 := A.w2
  exact ⟨cb, fun s h1 h2 => ⟨(a2 s h1 h2).2.2.2.1, (a2 s h1 h2).2.2.1.1⟩, fun b h1 h2 => ⟨(a3 b h1 h2).2.1, (a3 b h1 h2).2.2.2.1⟩, up, by omega, by omega⟩
