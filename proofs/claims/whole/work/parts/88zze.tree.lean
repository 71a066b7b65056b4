/-! The tree of blocks and statements that was read -/
/-- a block that lies in a method -/
def RCH (R : RV) (G : Nat → Nat → Nat) (nm b : Nat) : Prop := ∀ P : Nat → Prop, (∀ b, b ∈ bods R (wN R) nm → P b) → (∀ s j b, P j → wN R * 120 ≤ s → s < rsN R → ai R 21 s = nI j → G 4 j ≤ s → s < G 5 j → b ∈ kids R s → P b) → P b
def TRE (R : RV) (G : Nat → Nat → Nat) (nm : Nat) : Prop :=
  (CI G (wN R * 120) (bods R (wN R) nm) (rsN R) ∧ ∀ b, b ∈ bods R (wN R) nm → (ai R 41 b = -1 ∧ wN R * 1024 ≤ b) ∧ b < nbN R) ∧
  (∀ s, wN R * 120 ≤ s → s < rsN R → WFS R G s ∧ ∀ b, b ∈ kids R s → wN R * 1024 ≤ b ∧ b < nbN R) ∧
  (∀ b, wN R * 1024 ≤ b → b < nbN R → WFB R G b ∧ wN R * 120 ≤ G 4 b ∧ G 5 b ≤ rsN R) ∧ UPD R ∧ rsN R ≤ 240 ∧ nbN R ≤ 2048
def anc (R : RV) : Nat → Nat → Nat → Prop
  | 0, x, b => x = b
  | m + 1, x, b => ∃ j, upB R x = some j ∧ anc R m j b
theorem anc_snoc {R : RV} {j b : Nat} (e : upB R j = some b) : ∀ m x, anc R m x j → anc R (m + 1) x b := by
  intro m
  induction m with
  | zero => intro x h; exact ⟨b, by rw [show x = j from h]; exact e, rfl⟩
  | succ m ih => intro x h; obtain ⟨i, h1, h2⟩ := h; exact ⟨i, h1, ih i h2⟩
theorem CI.le {G : Nat → Nat → Nat} : ∀ {l : List Nat} {lo hi : Nat}, CI G lo l hi → lo ≤ hi ∧ ∀ b, b ∈ l → lo ≤ G 4 b ∧ G 4 b ≤ G 5 b ∧ G 5 b ≤ hi := by
  intro l
  induction l with
  | nil => intro lo hi h; exact ⟨Nat.le_of_eq h, fun b m => by cases m⟩
  | cons b l ih =>
    intro lo hi h
    obtain ⟨h1, h2, h3⟩ := h
    obtain ⟨h4, h5⟩ := ih h3
    refine ⟨by omega, fun c m => ?_⟩
    rcases List.mem_cons.mp m with m | m
    · rw [m]; omega
    · have := h5 c m; omega
theorem CI.at {G : Nat → Nat → Nat} : ∀ {l : List Nat} {lo hi s : Nat}, CI G lo l hi → lo ≤ s → s < hi → ∃ b, b ∈ l ∧ G 4 b ≤ s ∧ s < G 5 b := by
  intro l
  induction l with
  | nil => intro lo hi s h h1 h2; have h : lo = hi := h; omega
  | cons b l ih =>
    intro lo hi s h h1 h2
    obtain ⟨h3, h4, h5⟩ := h
    by_cases y : s < G 5 b
    · exact ⟨b, List.mem_cons_self .., by omega, y⟩
    · obtain ⟨c, c1, c2⟩ := ih h5 (by omega) h2
      exact ⟨c, List.mem_cons_of_mem _ c1, c2⟩
theorem oN_some {v : Int32} {b : Nat} (e : oN v = some b) : ¬ v = -1 ∧ tn v = b := by
  unfold oN at e
  by_cases z : v = -1
  · rw [if_pos z] at e; cases e
  · rw [if_neg z] at e; cases e; exact ⟨z, rfl⟩
theorem BK.some {R : RV} {s : Nat} {v ro num : Int32} (B : BK R s v ro num) (sm : nbN R ≤ 2048) {b : Nat} (e : oN v = some b) : v = nI b ∧ wN R * 1024 ≤ b ∧ b < nbN R ∧ ai R 40 b = ro ∧ ai R 41 b = nI s ∧ ai R 42 b = num := by
  obtain ⟨e1, e2⟩ := oN_some e
  rcases B with B | ⟨c, c1, c2, c3, c4, c5, c6⟩
  · exact absurd B e1
  · rw [c1, tn_nI (by omega)] at e2
    rw [← e2]; exact ⟨c1, c2, c3, c4, c5, c6⟩
/-- the blocks of a statement -/
theorem kid_is {R : RV} {s b : Nat} (S : SHP R s) (sm : nbN R ≤ 2048) (m : b ∈ kids R s) : ai R 41 b = nI s ∧ (wN R * 1024 ≤ b ∧ b < nbN R) ∧ ((ai R 26 s = nI b ∧ ∃ k, ai R 19 s = nI k ∧ k ≤ 11 ∧ ai R 40 b = rol k) ∨ (ai R 27 s = nI b ∧ ai R 40 b = 3) ∨ (∃ i, i < tn (ai R 32 s) ∧ ai R 33 (4 * s + i) = nI b ∧ ai R 40 b = 6 ∧ ai R 42 b = nI i) ∨ (ai R 28 s = nI b ∧ ai R 40 b = 7)) := by
  obtain ⟨k, k1, k2, b6, b7, b8, b3, -⟩ := S
  unfold kids at m
  rw [List.mem_append, List.mem_append, List.mem_append, Option.mem_toList, Option.mem_toList, Option.mem_toList] at m
  rcases m with m | m | m | m
  · obtain ⟨c1, c2, c3, c4, c5, -⟩ := b6.some sm m
    exact ⟨c5, ⟨c2, c3⟩, Or.inl ⟨c1, k, k1, k2, c4⟩⟩
  · obtain ⟨c1, c2, c3, c4, c5, -⟩ := b7.some sm m
    exact ⟨c5, ⟨c2, c3⟩, Or.inr (Or.inl ⟨c1, c4⟩)⟩
  · obtain ⟨i, i1, i2⟩ := List.mem_map.mp m
    have i1 := List.mem_range.mp i1
    obtain ⟨y, y2⟩ := b3 i i1
    obtain ⟨c1, c2, c3, c4, c5, c6⟩ := y.some sm (b := b) (by unfold oN; rw [if_neg y2, i2])
    exact ⟨c5, ⟨c2, c3⟩, Or.inr (Or.inr (Or.inl ⟨i, i1, c1, c4, c6⟩))⟩
  · obtain ⟨c1, c2, c3, c4, c5, -⟩ := b8.some sm m
    exact ⟨c5, ⟨c2, c3⟩, Or.inr (Or.inr (Or.inr ⟨c1, c4⟩))⟩
section
variable {R : RV} {G : Nat → Nat → Nat} {nm : Nat}
theorem RCH.bod {b : Nat} (m : b ∈ bods R (wN R) nm) : RCH R G nm b := fun _ h1 _ => h1 b m
theorem RCH.kid {s j b : Nat} (r : RCH R G nm j) (h1 : wN R * 120 ≤ s) (h2 : s < rsN R) (h3 : ai R 21 s = nI j) (h4 : G 4 j ≤ s) (h5 : s < G 5 j) (m : b ∈ kids R s) : RCH R G nm b := fun P p1 p2 => p2 s j b (r P p1 p2) h1 h2 h3 h4 h5 m
theorem RCH.inv {x : Nat} (r : RCH R G nm x) : x ∈ bods R (wN R) nm ∨ ∃ s j, RCH R G nm j ∧ wN R * 120 ≤ s ∧ s < rsN R ∧ ai R 21 s = nI j ∧ G 4 j ≤ s ∧ s < G 5 j ∧ x ∈ kids R s := by
  refine (r (fun x => RCH R G nm x ∧ (x ∈ bods R (wN R) nm ∨ ∃ s j, RCH R G nm j ∧ wN R * 120 ≤ s ∧ s < rsN R ∧ ai R 21 s = nI j ∧ G 4 j ≤ s ∧ s < G 5 j ∧ x ∈ kids R s)) (fun b m => ⟨RCH.bod m, Or.inl m⟩) (fun s j b p h1 h2 h3 h4 h5 m => ⟨p.1.kid h1 h2 h3 h4 h5 m, Or.inr ⟨s, j, p.1, h1, h2, h3, h4, h5, m⟩⟩)).2
theorem RCH.rg {x : Nat} (T : TRE R G nm) (r : RCH R G nm x) : wN R * 1024 ≤ x ∧ x < nbN R := by
  rcases r.inv with m | ⟨s, j, -, h1, h2, -, -, -, m⟩
  · have := T.1.2 x m; omega
  · exact (T.2.1 s h1 h2).2 x m
/-- a block's place in the tree -/
theorem RCH.up {x : Nat} (T : TRE R G nm) (r : RCH R G nm x) : (upB R x = none ∧ ai R 41 x = -1) ∨ ∃ o j, RCH R G nm j ∧ (wN R * 120 ≤ o ∧ o < rsN R) ∧ ai R 41 x = nI o ∧ ai R 21 o = nI j ∧ upB R x = some j ∧ (G 4 j ≤ o ∧ o < G 5 j) ∧ x ∈ kids R o ∧ o + 1 ≤ G 4 x ∧ G 5 x ≤ G 3 o ∧ G 3 o ≤ G 5 j := by
  rcases r.inv with m | ⟨o, j, rj, h1, h2, h3, h4, h5, m⟩
  · have := (T.1.2 x m).1.1
    exact Or.inl ⟨upB_none this, this⟩
  · have rg := rj.rg T
    obtain ⟨W, -⟩ := T.2.1 o h1 h2
    obtain ⟨w1, w2, w3, w4, w5, w6⟩ := W
    obtain ⟨k1, k2, k3⟩ := kid_is w5 T.2.2.2.2.2 m
    have W2 := ((T.2.2.1 j rg.1 rg.2).1.2.2.2.2 o h4 h5 h3).1
    have c := (w4.le).2 x m
    have s2 := T.2.2.2.2.1
    have s3 := T.2.2.2.2.2
    exact Or.inr ⟨o, j, rj, ⟨h1, h2⟩, k1, h3, upB_of k1 (by omega) h3 (by omega), ⟨h4, h5⟩, m, c.1, c.2.2, W2⟩
theorem anc_in (T : TRE R G nm) : ∀ m {x b : Nat}, RCH R G nm x → anc R m x b → RCH R G nm b ∧ G 4 b ≤ G 4 x ∧ G 5 x ≤ G 5 b := by
  intro m
  induction m with
  | zero => intro x b r h; rw [← show x = b from h]; exact ⟨r, Nat.le_refl _, Nat.le_refl _⟩
  | succ m ih =>
    intro x b r h
    obtain ⟨j, h1, h2⟩ := h
    rcases r.up T with ⟨z, -⟩ | ⟨o, j', rj, -, -, -, z, z2, -, z3, z4, z5⟩
    · rw [z] at h1; cases h1
    · rw [z] at h1; cases h1
      obtain ⟨i1, i2, i3⟩ := ih rj h2
      exact ⟨i1, by omega, by omega⟩
/-- a statement in a block: its own block, and how it lies in that one -/
theorem home_in (T : TRE R G nm) {s : Nat} : ∀ n t b, s - t < n → RCH R G nm b → ai R 21 t = nI b → G 4 b ≤ t → t ≤ s → s < G 5 b → ∃ x m, RCH R G nm x ∧ ai R 21 s = nI x ∧ G 4 x ≤ s ∧ s < G 5 x ∧ anc R m x b := by
  intro n
  induction n with
  | zero => intro t b h; omega
  | succ n ih =>
    intro t b hn r h1 h2 h3 h4
    have rg := r.rg T
    obtain ⟨WB, l1, l2⟩ := T.2.2.1 b rg.1 rg.2
    by_cases y : s = t
    · rw [y]; exact ⟨b, 0, r, h1, h2, by omega, rfl⟩
    · obtain ⟨c1, c2, c3⟩ := WB.2.2.2.2 t h2 (by omega) h1
      obtain ⟨⟨w1, w2, w3, w4, w5, w6⟩, -⟩ := T.2.1 t (by omega) (by omega)
      by_cases y2 : s < G 3 t
      · obtain ⟨b1, m1, m2, m3⟩ := w4.at (s := s) (by omega) y2
        have r1 := r.kid (by omega) (by omega) h1 h2 (by omega) m1
        have rg1 := r1.rg T
        obtain ⟨WB1, -⟩ := T.2.2.1 b1 rg1.1 rg1.2
        have e1 := (WB1.2.2.2.1 (by omega)).2.1
        have l3 := (w4.le).2 b1 m1
        obtain ⟨x, m, x1, x2, x3, x4, x5⟩ := ih (G 4 b1) b1 (by omega) r1 e1 (Nat.le_refl _) m2 m3
        have k1 := (kid_is w5 T.2.2.2.2.2 m1).1
        have s2 := T.2.2.2.2.1
        have s3 := T.2.2.2.2.2
        exact ⟨x, m + 1, x1, x2, x3, x4, anc_snoc (upB_of k1 (by omega) h1 (by omega)) m x x5⟩
      · exact ih (G 3 t) b (by omega) r (c3 (by omega)) (by omega) (by omega) h4
theorem in_block (T : TRE R G nm) {s b : Nat} (r : RCH R G nm b) (h1 : G 4 b ≤ s) (h2 : s < G 5 b) : ∃ x m, RCH R G nm x ∧ ai R 21 s = nI x ∧ G 4 x ≤ s ∧ s < G 5 x ∧ anc R m x b := by
  have rg := r.rg T
  obtain ⟨WB, l1, l2⟩ := T.2.2.1 b rg.1 rg.2
  exact home_in T _ (G 4 b) b (Nat.lt_succ_self _) r (WB.2.2.2.1 (by omega)).2.1 (Nat.le_refl _) h1 h2
/-- each statement lies in its block -/
theorem home (T : TRE R G nm) {s : Nat} (h1 : wN R * 120 ≤ s) (h2 : s < rsN R) : ∃ x, RCH R G nm x ∧ ai R 21 s = nI x ∧ G 4 x ≤ s ∧ s < G 5 x := by
  obtain ⟨b, b1, b2, b3⟩ := T.1.1.at h1 h2
  obtain ⟨x, m, x1, x2, x3, x4, -⟩ := in_block T (RCH.bod b1) b2 b3
  exact ⟨x, x1, x2, x3, x4⟩
/-- a parameter's catch lies around -/
theorem prF_in (T : TRE R G nm) (x : Int64) : ∀ f b p c, RCH R G nm b → (prF R x f (some b) p).1 = some c → ∃ m q, anc R m b q ∧ ai R 40 q = 6 ∧ prC R q = c := by
  intro f
  induction f with
  | zero => intro b p c r e; cases e
  | succ f ih =>
    intro b p c r e
    rw [prF] at e
    by_cases z : ai R 40 b = 6 ∧ al R 34 (prC R b) = x
    · rw [if_pos z] at e
      cases e
      exact ⟨0, b, rfl, z.1, rfl⟩
    · rw [if_neg z] at e
      rcases r.up T with ⟨y, -⟩ | ⟨o, j, rj, -, -, -, y, -⟩
      · rw [y] at e
        cases f <;> cases e
      · rw [y] at e
        obtain ⟨m, q, q1, q2, q3⟩ := ih j _ c rj e
        exact ⟨m + 1, q, ⟨j, y, q1⟩, q2, q3⟩
theorem catch_is (T : TRE R G nm) {q : Nat} (r : RCH R G nm q) (h : ai R 40 q = 6) : ∃ o i, prC R q = 4 * o + i ∧ i < tn (ai R 32 o) ∧ i < 4 ∧ ai R 33 (4 * o + i) = nI q ∧ (wN R * 120 ≤ o ∧ o < rsN R) ∧ q ∈ kids R o ∧ upB R q = some (tn (ai R 21 o)) ∧ ai R 19 o = 9 := by
  rcases r.inv with m | ⟨o, j, rj, h1, h2, h3, h4, h5, m⟩
  · obtain ⟨⟨z1, z2⟩, z3⟩ := T.1.2 q m
    rcases T.2.2.2.1.2.2.1 q z2 z3 with ⟨-, y⟩ | ⟨-, s, j, y, y2, y3, y4, -⟩
    · rw [y] at h; exact absurd h (by decide)
    · rw [z1] at y; exact absurd y.symm (nI_ne_m1 (by omega))
  · obtain ⟨⟨w1, w2, w3, w4, w5, w6⟩, -⟩ := T.2.1 o h1 h2
    obtain ⟨k1, k2, k3⟩ := kid_is w5 T.2.2.2.2.2 m
    have s2 := T.2.2.2.2.1
    have s3 := T.2.2.2.2.2
    have rj2 := rj.rg T
    rcases k3 with ⟨z1, k, z2, z3, z4⟩ | ⟨z1, z2⟩ | ⟨i, i1, i2, i3, i4⟩ | ⟨z1, z2⟩
    · rw [h] at z4
      exfalso
      unfold rol at z4
      revert z4
      repeat' split
      all_goals decide
    · rw [h] at z2; exact absurd z2 (by decide)
    · have i5 : i < 4 := by have := w2.2; omega
      refine ⟨o, i, ?_, i1, i5, i2, ⟨h1, h2⟩, m, ?_, ?_⟩
      · unfold prC; rw [k1, i4, tn_nI (by omega), tn_nI (by omega)]
      · rw [h3, tn_nI (by omega)]; exact upB_of k1 (by omega) h3 (by omega)
      · obtain ⟨k, e1, e2, -, -, -, -, -, e3, -⟩ := w5
        rw [e1]
        by_cases y : k = 9
        · rw [y]; rfl
        · have := (e3 y).2
          rw [this] at i1
          exact absurd i1 (Nat.not_lt_zero _)
    · rw [h] at z2; exact absurd z2 (by decide)
/-- the catch of a parameter: its block holds the statement -/
theorem pr_in (T : TRE R G nm) {s c : Nat} (h1 : wN R * 120 ≤ s) (h2 : s < rsN R) (e : prS R s = some c) : ∃ o i q, c = 4 * o + i ∧ i < tn (ai R 32 o) ∧ i < 4 ∧ ai R 33 (4 * o + i) = nI q ∧ RCH R G nm q ∧ (wN R * 120 ≤ o ∧ o < s) ∧ G 4 q ≤ s ∧ s < G 5 q ∧ q ∈ kids R o ∧ ai R 19 o = 9 := by
  obtain ⟨x, x1, x2, x3, x4⟩ := home T h1 h2
  have rx := x1.rg T
  have s3 := T.2.2.2.2.2
  unfold prS at e
  rw [x2, oN_nI (by omega)] at e
  obtain ⟨m, q, q1, q2, q3⟩ := prF_in T _ _ _ _ _ x1 e
  obtain ⟨r, l1, l2⟩ := anc_in T m x1 q1
  obtain ⟨o, i, c1, c2, c3, c4, c5, c6, c7, c8⟩ := catch_is T r q2
  obtain ⟨⟨w1, w2, w3, w4, w5, w6⟩, -⟩ := T.2.1 o c5.1 c5.2
  have := (w4.le).2 q c6
  exact ⟨o, i, q, by rw [← q3]; exact c1, c2, c3, c4, r, ⟨c5.1, by omega⟩, by omega, by omega, c6, c8⟩
end
