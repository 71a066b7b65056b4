/-! The class's judging: what is judged, what is not yet, what may change -/
theorem CI.dj {G : Nat → Nat → Nat} : ∀ {l : List Nat} {lo hi s b c : Nat}, CI G lo l hi → b ∈ l → c ∈ l → G 4 b ≤ s → s < G 5 b → G 4 c ≤ s → s < G 5 c → b = c := by
  intro l
  induction l with
  | nil => intro lo hi s b c _ m; cases m
  | cons x l ih =>
    intro lo hi s b c h mb mc h1 h2 h3 h4
    obtain ⟨e1, e2, e3⟩ := h
    rcases List.mem_cons.mp mb with mb | mb
    · rcases List.mem_cons.mp mc with mc | mc
      · rw [mb, mc]
      · have := (e3.le).2 c mc
        rw [mb] at h1 h2
        omega
    · rcases List.mem_cons.mp mc with mc | mc
      · have := (e3.le).2 b mb
        rw [mc] at h3 h4
        omega
      · exact ih e3 mb mc h1 h2 h3 h4
/-- what is listed for a block -/
def jbL (R : RV) (C L : Nat → Int32) (G : Nat → Nat → Nat) (nk nm b : Nat) : List Nat := flr (jcl (pcl R C L) (wN R) nk nm (nsC R)) (G 5 b - G 4 b) (G 4 b)
def jbO (R : RV) (C L : Nat → Int32) (G : Nat → Nat → Nat) (nk nm : Nat) (o : Option Nat) : List Nat := match o with
  | none => []
  | some b => jbL R C L G nk nm b
/-- for a statement with all that lies in it -/
def jtS (R : RV) (C L : Nat → Int32) (G : Nat → Nat → Nat) (nk nm t : Nat) : List Nat := jcA (pcl R C L) (wN R) nk nm (nsC R) t ++ flr (jcl (pcl R C L) (wN R) nk nm (nsC R)) (G 3 t - (t + 1)) (t + 1)
theorem range_flr (f : Nat → List Nat) : ∀ n, ((List.range n).map f).flatten = flr f n 0 := by
  intro n
  induction n with
  | zero => rfl
  | succ n ih =>
    rw [List.range_succ, List.map_append, List.flatten_append, ih, flr_add, Nat.zero_add]
    show _ ++ (f n ++ []) = _ ++ (f n ++ [])
    rfl
theorem CI.flr {G : Nat → Nat → Nat} (f : Nat → List Nat) : ∀ {l : List Nat} {lo hi : Nat}, CI G lo l hi → flr f (hi - lo) lo = (l.map (fun b => flr f (G 5 b - G 4 b) (G 4 b))).flatten := by
  intro l
  induction l with
  | nil => intro lo hi h; have h : lo = hi := h; rw [h, Nat.sub_self]; rfl
  | cons b l ih =>
    intro lo hi h
    obtain ⟨h1, h2, h3⟩ := h
    have l3 := (h3.le).1
    rw [show hi - lo = (G 5 b - lo) + (hi - G 5 b) by omega, flr_add, show lo + (G 5 b - lo) = G 5 b by omega, ih h3, List.map_cons, List.flatten_cons, h1]
section
variable {R : RV} {G : Nat → Nat → Nat} {nm : Nat} {C L : Nat → Int32} {nk : Nat}
theorem jbO_list (o : Option Nat) : (o.toList.map (fun b => flr (jcl (pcl R C L) (wN R) nk nm (nsC R)) (G 5 b - G 4 b) (G 4 b))).flatten = jbO R C L G nk nm o := by
  cases o with
  | none => rfl
  | some b => exact List.append_nil _
/-- what is listed for what lies in a statement -/
theorem kids_flr (T : TRE R G nm) {t : Nat} (ht : SRG R t) : flr (jcl (pcl R C L) (wN R) nk nm (nsC R)) (G 3 t - (t + 1)) (t + 1) = jbO R C L G nk nm (oN (ai R 26 t)) ++ (jbO R C L G nk nm (oN (ai R 27 t)) ++ (flr (fun i => jbO R C L G nk nm (oN (ai R 33 (4 * t + i)))) (tn (ai R 32 t)) 0 ++ jbO R C L G nk nm (oN (ai R 28 t)))) := by
  obtain ⟨⟨w1, w2, w3, w4, w5, w6⟩, wk⟩ := T.2.1 t ht.1 ht.2
  rw [CI.flr _ w4]
  unfold kids
  rw [List.map_append, List.map_append, List.map_append, List.flatten_append, List.flatten_append, List.flatten_append, jbO_list, jbO_list, jbO_list, List.map_map, range_flr]
  congr 3
  refine flr_cg _ _ (fun i _ hi => ?_)
  obtain ⟨k, -, -, -, -, -, b3, -⟩ := w5
  have n := (b3 i (by omega)).2
  have : oN (ai R 33 (4 * t + i)) = some (tn (ai R 33 (4 * t + i))) := by unfold oN; rw [if_neg n]
  rw [this]
  rfl
theorem g3_in (T : TRE R G nm) {b o : Nat} (r : RCH R G nm b) (h1 : G 4 b ≤ o) (h2 : o < G 5 b) : G 3 o ≤ G 5 b := by
  obtain ⟨x, m, x1, x2, x3, x4, x5⟩ := in_block T r h1 h2
  have rg := x1.rg T
  obtain ⟨WB, -⟩ := T.2.2.1 x rg.1 rg.2
  have q1 := (WB.2.2.2.2 o x3 x4 x2).1
  have q2 := (anc_in T m x1 x5).2.2
  omega
theorem dir_at (T : TRE R G nm) {b s : Nat} (r : RCH R G nm b) : ∀ n t, s - t < n → G 4 b ≤ t → t ≤ s → s < G 5 b → ai R 21 t = nI b → ∃ t0, G 4 b ≤ t0 ∧ t0 ≤ s ∧ ai R 21 t0 = nI b ∧ s < G 3 t0 := by
  intro n
  induction n with
  | zero => intro t h; omega
  | succ n ih =>
    intro t hn h1 h2 h3 e
    have rg := r.rg T
    obtain ⟨WB, l1, l2⟩ := T.2.2.1 b rg.1 rg.2
    by_cases y : s < G 3 t
    · exact ⟨t, h1, h2, e, y⟩
    · obtain ⟨c1, c2, c3⟩ := WB.2.2.2.2 t h1 (by omega) e
      have w3 := (T.2.1 t (by omega) (by omega)).1.2.2.1
      exact ih (G 3 t) (by omega) (by omega) (by omega) h3 (c3 (by omega))
/-- a parameter of a catch that lies ahead of a statement lies ahead of its block -/
theorem enc_dir (T : TRE R G nm) {b t s c : Nat} (r : RCH R G nm b) (h1 : G 4 b ≤ t) (h2 : t < G 5 b) (e : ai R 21 t = nI b) (h3 : t ≤ s) (h4 : s < G 3 t) (hp : prS R s = some c) (lt : c / 4 < t) : c / 4 < G 4 b := by
  refine Nat.lt_of_not_le (fun le => ?_)
  have rg := r.rg T
  obtain ⟨WB, l1, l2⟩ := T.2.2.1 b rg.1 rg.2
  have c1 := (WB.2.2.2.2 t h1 h2 e).1
  obtain ⟨o, i, q, q1, q2, q3, q4, q5, q6, q7, q8, q9, -⟩ := pr_in T (by omega) (by omega) hp
  have eo : c / 4 = o := by omega
  rw [eo] at le lt
  obtain ⟨t0, a1, a2, a3, a4⟩ := dir_at T (s := o) r _ (G 4 b) (Nat.lt_succ_self _) (Nat.le_refl _) le (by omega) (WB.2.2.2.1 (by omega)).2.1
  have d1 := dir_next T r a1 (show t0 < t by omega) h2 a3 e
  obtain ⟨⟨w1, w2, w3, w4, -⟩, -⟩ := T.2.1 o q6.1 (by omega)
  have d2 := (w4.le).2 q q9
  have d3 : G 3 o ≤ G 3 t0 := by
    by_cases y : o = t0
    · rw [y]; exact Nat.le_refl _
    · obtain ⟨⟨v1, v2, v3, v4, -⟩, -⟩ := T.2.1 t0 (by omega) (by omega)
      obtain ⟨b1, m1, m2, m3⟩ := v4.at (s := o) (by omega) a4
      have := g3_in T (r.kid (by omega) (by omega) a3 a1 (by omega) m1) m2 m3
      have := (v4.le).2 b1 m1
      omega
  omega
theorem enc_kid (T : TRE R G nm) {j t b s c : Nat} (r : RCH R G nm j) (h1 : G 4 j ≤ t) (h2 : t < G 5 j) (e : ai R 21 t = nI j) (m : b ∈ kids R t) (h3 : G 4 b ≤ s) (h4 : s < G 5 b) (hp : prS R s = some c) (lt : c / 4 < G 4 b) : c / 4 < t ∨ ∃ i, c = 4 * t + i ∧ i < tn (ai R 32 t) ∧ i < 4 ∧ ai R 33 (4 * t + i) = nI b := by
  have rg := r.rg T
  obtain ⟨WB, l1, l2⟩ := T.2.2.1 j rg.1 rg.2
  have c1 := (WB.2.2.2.2 t h1 h2 e).1
  obtain ⟨⟨v1, v2, v3, v4, -⟩, -⟩ := T.2.1 t (by omega) (by omega)
  have k1 := (v4.le).2 b m
  obtain ⟨o, i, q, q1, q2, q3, q4, q5, q6, q7, q8, q9, -⟩ := pr_in T (by omega) (by omega) hp
  have eo : c / 4 = o := by omega
  rw [eo] at lt ⊢
  rcases Nat.lt_trichotomy o t with z | z | z
  · exact Or.inl z
  · rw [z] at q1 q2 q4 q9
    have : q = b := CI.dj v4 q9 m q7 q8 h3 h4
    rw [this] at q4
    exact Or.inr ⟨i, q1, q2, q3, q4⟩
  · exfalso
    obtain ⟨b2, m1, m2, m3⟩ := v4.at (s := o) (by omega) (by omega)
    have g := g3_in T (r.kid (by omega) (by omega) e h1 h2 m1) m2 m3
    obtain ⟨⟨w1, w2, w3, w4, -⟩, -⟩ := T.2.1 o q6.1 (by omega)
    have d2 := (w4.le).2 q q9
    have : b2 = b := CI.dj v4 m1 m (s := s) (by omega) (by omega) h3 h4
    rw [this] at m2
    omega
end
/-- a block is judged -/
def JDB (R : RV) (C L : Nat → Int32) (G : Nat → Nat → Nat) (h : AH) (b : Nat) : Prop := fI h 202 (G 1 b) = bcS (pcl R C L) (some b) ∧ fI h 10203 (G 1 b) = b2i (lfB (pcl R C L) (some b))
/-- a statement is judged -/
def JDS (R : RV) (C L : Nat → Int32) (G : Nat → Nat → Nat) (nm : Nat) (h : AH) (t : Nat) : Prop := (fI h 814 (G 0 t) = C t ∧ fI h 10815 (G 0 t) = L t) ∧ (∀ b, b ∈ kids R t → JDB R C L G h b) ∧ (ai R 19 t = 1 → fI h 807 (G 0 t) = oI (mN R (wN R) nm (al R 24 t))) ∧ (ai R 19 t = 9 → ND h (G 6 t) (tn (ai R 29 t)) (fun i => conv (al R 30 (4 * t + i))) (fun i => ai R 31 (4 * t + i)) (fun i => mN R (wN R) nm (al R 30 (4 * t + i))))
/-- a statement is not judged yet -/
def UNJ (R : RV) (G : Nat → Nat → Nat) (h : AH) (t : Nat) : Prop := fI h 814 (G 0 t) = 0 ∧ (ai R 19 t = 9 → ND h (G 6 t) (tn (ai R 29 t)) (fun i => conv (al R 30 (4 * t + i))) (fun i => ai R 31 (4 * t + i)) (fun _ => none))
/-- the catches around what is to be judged know what comes to them -/
def ENC (R : RV) (C L : Nat → Int32) (G : Nat → Nat → Nat) (nk nm : Nat) (h : AH) (lo hi : Nat) : Prop := ∀ s c, lo ≤ s → s < hi → prS R s = some c → c / 4 < lo → fI h 307 (G 2 c) = insS (pcl R C L) (wN R) nk nm (c / 4) ∧ fI h 308 (G 2 c) = ahd (pcl R C L) (wN R) nk (c / 4) (c % 4)
/-- what judging the statements P and the blocks D may change -/
def EJP (U e0 : Nat) (R : RV) (G : Nat → Nat → Nat) (P D : Nat → Prop) (g y : Nat) : Prop := ELs U e0 g y ∨ (∃ t, P t ∧ SRG R t ∧ ((y = G 0 t ∧ (g = 814 ∨ g = 10815 ∨ (g = 807 ∧ ai R 19 t = 1))) ∨ (∃ i, i < tn (ai R 32 t) ∧ y = G 2 (4 * t + i) ∧ (g = 307 ∨ g = 308)) ∨ (ai R 19 t = 9 ∧ g = 90001 ∧ y = G 6 t + 3))) ∨ ∃ b, D b ∧ (wN R * 1024 ≤ b ∧ b < nbN R) ∧ y = G 1 b ∧ (g = 202 ∨ g = 10203)
def inS (lo hi s : Nat) : Prop := lo ≤ s ∧ s < hi
def kdS (R : RV) (lo hi b : Nat) : Prop := ∃ s, lo ≤ s ∧ s < hi ∧ SRG R s ∧ b ∈ kids R s
def kdB (R : RV) (G : Nat → Nat → Nat) (b c : Nat) : Prop := c = b ∨ kdS R (G 4 b) (G 5 b) c
section
variable {h0 h h' : AH} {U a0 e0 J : Nat} {R : RV} {G : Nat → Nat → Nat} {nm : Nat} {fW : Nat → Nat} {nk : Nat} {C L : Nat → Int32} {P P' D D' : Nat → Prop}
theorem EJP.mono (p : ∀ t, P t → P' t) (q : ∀ b, D b → D' b) : ∀ g y, EJP U e0 R G P D g y → EJP U e0 R G P' D' g y := fun g y z => by
  rcases z with z | ⟨t, t1, t2⟩ | ⟨b, b1, b2⟩
  · exact Or.inl z
  · exact Or.inr (Or.inl ⟨t, p t t1, t2⟩)
  · exact Or.inr (Or.inr ⟨b, q b b1, b2⟩)
theorem EJP.ls : ∀ g y, ELs U e0 g y → EJP U e0 R G P D g y := fun _ _ z => Or.inl z
theorem EJP.is {g y : Nat} (z : EJP U e0 R G P D g y) : g = 100 ∨ g = 102 ∨ g = 30101 ∨ g = 90003 ∨ g = 814 ∨ g = 10815 ∨ g = 807 ∨ g = 307 ∨ g = 308 ∨ g = 90001 ∨ g = 202 ∨ g = 10203 := by
  rcases z with (⟨-, z⟩ | ⟨z, -⟩) | ⟨t, -, -, ⟨-, z⟩ | ⟨i, -, -, z⟩ | ⟨-, z, -⟩⟩ | ⟨b, -, -, -, z⟩ <;> omega
/-- the statements' own fields -/
theorem EJP.st (Bs : JBS h0 U a0 J R G nm fW) {g s : Nat} (hs : SRG R s) (hg : g = 814 ∨ g = 10815 ∨ g = 807) (z : EJP U e0 R G P D g (G 0 s)) : P s := by
  rcases z with (⟨-, z⟩ | ⟨z, -⟩) | ⟨t, t1, t2, ⟨z, -⟩ | ⟨i, -, -, z⟩ | ⟨-, z, -⟩⟩ | ⟨b, -, -, -, z⟩
  · omega
  · omega
  · rw [Bs.g0 hs t2 z]; exact t1
  · omega
  · omega
  · omega
theorem EJP.bk (Bs : JBS h0 U a0 J R G nm fW) {g b : Nat} (hb : wN R * 1024 ≤ b ∧ b < nbN R) (hg : g = 202 ∨ g = 10203) (z : EJP U e0 R G P D g (G 1 b)) : D b := by
  rcases z with (⟨-, z⟩ | ⟨z, -⟩) | ⟨t, t1, t2, ⟨-, z⟩ | ⟨i, -, -, z⟩ | ⟨-, z, -⟩⟩ | ⟨c, c1, c2, c3, -⟩
  · omega
  · omega
  · omega
  · omega
  · omega
  · rw [Bs.g1 hb c2 c3]; exact c1
/-- catches have different objects -/
theorem JBS.g2 (Bs : JBS h0 U a0 J R G nm fW) {s t i j : Nat} (hs : SRG R s) (ht : SRG R t) (hi : i < tn (ai R 32 s)) (hj : j < tn (ai R 32 t)) (e : G 2 (4 * s + i) = G 2 (4 * t + j)) : s = t ∧ i = j := by
  have TR := Bs.1
  have s2 := TR.2.2.2.2.1
  have s3 := TR.2.2.2.2.2
  have l1 := hs.2
  have l2 := ht.2
  have c1 := ((Bs.sim (e0 := 0) FX.rf hs).2.2.2.2.2.2.2.2.2.2.2.2.2 i hi).1.2.1
  have c2 := ((Bs.sim (e0 := 0) FX.rf ht).2.2.2.2.2.2.2.2.2.2.2.2.2 j hj).1.2.1
  rw [e, c2] at c1
  obtain ⟨⟨w1, w2, w3, w4, w5, w6⟩, -⟩ := TR.2.1 s hs.1 hs.2
  obtain ⟨⟨v1, v2, v3, v4, v5, v6⟩, -⟩ := TR.2.1 t ht.1 ht.2
  obtain ⟨-, -, -, -, -, -, b3, -⟩ := w5
  obtain ⟨-, -, -, -, -, -, b4, -⟩ := v5
  obtain ⟨p1, p2⟩ := b3 i hi
  obtain ⟨q1, q2⟩ := b4 j hj
  have e1 : oN (ai R 33 (4 * s + i)) = some (tn (ai R 33 (4 * s + i))) := by unfold oN; rw [if_neg p2]
  have e2 : oN (ai R 33 (4 * t + j)) = some (tn (ai R 33 (4 * t + j))) := by unfold oN; rw [if_neg q2]
  obtain ⟨a1, a2, a3, a4, a5, a6⟩ := p1.some s3 e1
  obtain ⟨d1, d2, d3, d4, d5, d6⟩ := q1.some s3 e2
  rw [e1, e2] at c1
  have := Bs.g1 ⟨d2, d3⟩ ⟨a2, a3⟩ (Option.some.inj c1)
  rw [this] at d5 d6
  have n1 := w2.2
  have n2 := v2.2
  exact ⟨nI_inj (by omega) (by omega) (by rw [← a5, ← d5]), nI_inj (by omega) (by omega) (by rw [← a6, ← d6])⟩
theorem EJP.ca (Bs : JBS h0 U a0 J R G nm fW) {g s i : Nat} (hs : SRG R s) (hi : i < tn (ai R 32 s)) (hg : g = 307 ∨ g = 308) (z : EJP U e0 R G P D g (G 2 (4 * s + i))) : P s := by
  rcases z with (⟨-, z⟩ | ⟨z, -⟩) | ⟨t, t1, t2, ⟨-, z⟩ | ⟨j, j1, j2, -⟩ | ⟨-, z, -⟩⟩ | ⟨b, -, -, -, z⟩
  · omega
  · omega
  · omega
  · rw [(Bs.g2 hs t2 hi j1 j2).1]; exact t1
  · omega
  · omega
theorem EJP.nd (Bs : JBS h0 U a0 J R G nm fW) {s : Nat} (hs : SRG R s) (h9 : ai R 19 s = 9) (np : ¬ P s) : ¬ EJP U e0 R G P D 90001 (G 6 s + 1) ∧ ¬ EJP U e0 R G P D 90001 (G 6 s + 2) ∧ ¬ EJP U e0 R G P D 90001 (G 6 s + 3) := by
  have a4 := Bs.2.1.2.2.2.1
  have D0 := (Bs.nt hs h9).1
  have at' : ∀ y, EJP U e0 R G P D 90001 y → ∃ t, SRG R t ∧ ai R 19 t = 9 ∧ ¬ G 6 s = G 6 t ∧ y = G 6 t + 3 := fun y z => by
    rcases z with (⟨-, z⟩ | ⟨z, -⟩) | ⟨t, t1, t2, ⟨-, z⟩ | ⟨j, -, -, z⟩ | ⟨z9, -, z⟩⟩ | ⟨b, -, -, -, z⟩
    · omega
    · omega
    · omega
    · omega
    · refine ⟨t, t2, z9, fun e => ?_, z⟩
      rcases Nat.lt_trichotomy s t with q | q | q
      · exact (a4 s t hs.1 q t2.2).2 (Or.inl h9) (Or.inl z9) e
      · rw [q] at np; exact np t1
      · exact (a4 t s t2.1 q hs.2).2 (Or.inl z9) (Or.inl h9) e.symm
    · omega
  refine ⟨fun z => ?_, fun z => ?_, fun z => ?_⟩
  · obtain ⟨t, t1, t2, t3, t4⟩ := at' _ z
    exact (nd_dj D0 (Bs.nt t1 t2).1 t3).1 t4
  · obtain ⟨t, t1, t2, t3, t4⟩ := at' _ z
    exact (nd_dj D0 (Bs.nt t1 t2).1 t3).2.1 t4
  · obtain ⟨t, t1, t2, t3, t4⟩ := at' _ z
    exact (nd_dj D0 (Bs.nt t1 t2).1 t3).2.2 t4
theorem UNJ.fx (Bs : JBS h0 U a0 J R G nm fW) {s : Nat} (hs : SRG R s) (lt : G 0 s < tp h) (u : UNJ R G h s) (x : FX (EJP U e0 R G P D) h h') (np : ¬ P s) : UNJ R G h' s := by
  refine ⟨?_, fun h9 => ?_⟩
  · rw [x.fI lt (fun z => np (EJP.st Bs hs (by omega) z))]; exact u.1
  · obtain ⟨n1, n2, n3⟩ := EJP.nd (e0 := e0) (D := D) Bs hs h9 np
    exact (u.2 h9).fx x (fun g hg z => by have := EJP.is z; omega) n1 n2 n3
theorem JDB.fx (Bs : JBS h0 U a0 J R G nm fW) {b : Nat} (hb : wN R * 1024 ≤ b ∧ b < nbN R) (lt : G 1 b < tp h) (u : JDB R C L G h b) (x : FX (EJP U e0 R G P D) h h') (np : ¬ D b) : JDB R C L G h' b := by
  refine ⟨?_, ?_⟩
  · rw [x.fI lt (fun z => np (EJP.bk Bs hb (by omega) z))]; exact u.1
  · rw [x.fI lt (fun z => np (EJP.bk Bs hb (by omega) z))]; exact u.2
theorem JDS.fx (Bs : JBS h0 U a0 J R G nm fW) {s : Nat} (hs : SRG R s) (x0 : FX (EJA U e0 R G) h0 h) (u : JDS R C L G nm h s) (x : FX (EJP U e0 R G P D) h h') (np : ¬ P s) (nd : ∀ b, b ∈ kids R s → ¬ D b) : JDS R C L G nm h' s := by
  have lt := (Bs.sim x0 hs).1.2
  have wk := (Bs.1.2.1 s hs.1 hs.2).2
  refine ⟨⟨?_, ?_⟩, fun b m => ?_, fun q => ?_, fun h9 => ?_⟩
  · rw [x.fI lt (fun z => np (EJP.st Bs hs (by omega) z))]; exact u.1.1
  · rw [x.fI lt (fun z => np (EJP.st Bs hs (by omega) z))]; exact u.1.2
  · exact (u.2.1 b m).fx Bs (wk b m) (Bs.bim x0 (wk b m)).1.2 x (nd b m)
  · rw [x.fI lt (fun z => np (EJP.st Bs hs (by omega) z))]; exact u.2.2.1 q
  · obtain ⟨n1, n2, n3⟩ := EJP.nd (e0 := e0) (D := D) Bs hs h9 np
    exact (u.2.2.2 h9).fx x (fun g hg z => by have := EJP.is z; omega) n1 n2 n3
theorem ENC.fx (Bs : JBS h0 U a0 J R G nm fW) {lo hi : Nat} (hlo : wN R * 120 ≤ lo) (hhi : hi ≤ rsN R) (x0 : FX (EJA U e0 R G) h0 h) (u : ENC R C L G nk nm h lo hi) (x : FX (EJP U e0 R G P D) h h') (np : ∀ o, o < lo → ¬ P o) : ENC R C L G nk nm h' lo hi := by
  intro s c h1 h2 hp lt
  obtain ⟨o, i, q, q1, q2, q3, q4, q5, q6, q7, q8, q9, -⟩ := pr_in Bs.1 (by omega) (by omega) hp
  have eo : c / 4 = o := by omega
  have ho : SRG R o := ⟨q6.1, by omega⟩
  obtain ⟨v1, v2⟩ := u s c h1 h2 hp lt
  have l2 := ((Bs.sim x0 ho).2.2.2.2.2.2.2.2.2.2.2.2.2 i q2).2
  rw [q1] at v1 v2 lt ⊢
  have no := np o (by omega)
  rw [x.fI (by omega) (fun z => no (EJP.ca Bs ho q2 (by omega) z)), x.fI (by omega) (fun z => no (EJP.ca Bs ho q2 (by omega) z))]
  exact ⟨v1, v2⟩
end
