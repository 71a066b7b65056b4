/-! Breaks that leave a loop -/
def okR (v : Int32) : Prop := ¬ (v = 0 ∨ v = 1 ∨ v = 8) ∧ ¬ v = 4
def pth (X : RV) : Nat → Nat → Nat → Prop
  | 0, x, b => x = b
  | m + 1, x, b => okR (ai X 40 x) ∧ hlP X x = false ∧ ∃ j, upB X x = some j ∧ pth X m j b
/-- a break in block b, which leaves what is around it -/
def BRK (X : RV) (G : Nat → Nat → Nat) (b : Nat) : Prop := ∃ k x m, G 4 b ≤ k ∧ k < G 5 b ∧ ai X 19 k = 7 ∧ (ai X 21 k = nI x ∧ x < 2048) ∧ pth X m x b
theorem pth_snoc {X : RV} {b1 b : Nat} (h1 : okR (ai X 40 b1)) (h2 : hlP X b1 = false) (h3 : upB X b1 = some b) : ∀ m x, pth X m x b1 → pth X (m + 1) x b := by
  intro m
  induction m with
  | zero => intro x h; rw [show x = b1 from h]; exact ⟨h1, h2, b, h3, rfl⟩
  | succ m ih => intro x h; obtain ⟨a1, a2, j, a3, a4⟩ := h; exact ⟨a1, a2, j, a3, ih j a4⟩
theorem pth_last {X : RV} {b : Nat} : ∀ m x, pth X (m + 1) x b → ∃ b1, pth X m x b1 ∧ okR (ai X 40 b1) ∧ hlP X b1 = false ∧ upB X b1 = some b := by
  intro m
  induction m with
  | zero => intro x h; obtain ⟨a1, a2, j, a3, a4⟩ := h; exact ⟨x, rfl, a1, a2, by rw [a3, show j = b from a4]⟩
  | succ m ih =>
    intro x h
    obtain ⟨a1, a2, j, a3, a4⟩ := h
    obtain ⟨b1, c1, c2, c3, c4⟩ := ih j a4
    exact ⟨b1, ⟨a1, a2, j, a3, c1⟩, c2, c3, c4⟩
theorem nI_inj {a b : Nat} (ha : a < 2 ^ 31) (hb : b < 2 ^ 31) (e : nI a = nI b) : a = b := by
  have := congrArg tn e
  rwa [tn_nI ha, tn_nI hb] at this
section
variable {R : RV} {G : Nat → Nat → Nat} {nm : Nat} {C L : Nat → Int32}
theorem pth_anc : ∀ m {x b : Nat}, pth (pcl R C L) m x b → anc R m x b := by
  intro m
  induction m with
  | zero => intro x b h; exact h
  | succ m ih => intro x b h; obtain ⟨-, -, j, a3, a4⟩ := h; exact ⟨j, a3, ih a4⟩
/-- the statements of a block come one behind the other -/
theorem dir_next (T : TRE R G nm) {b t t' : Nat} (r : RCH R G nm b) (h1 : G 4 b ≤ t) (h2 : t < t') (h3 : t' < G 5 b) (e1 : ai R 21 t = nI b) (e2 : ai R 21 t' = nI b) : G 3 t ≤ t' := by
  have rg := r.rg T
  obtain ⟨WB, l1, l2⟩ := T.2.2.1 b rg.1 rg.2
  refine Nat.le_of_not_lt (fun lt => ?_)
  obtain ⟨⟨w1, w2, w3, w4, w5, w6⟩, -⟩ := T.2.1 t (by omega) (by omega)
  obtain ⟨b1, m1, m2, m3⟩ := w4.at (s := t') (by omega) lt
  have r1 := r.kid (by omega) (by omega) e1 h1 (by omega) m1
  obtain ⟨x, m, x1, x2, x3, x4, x5⟩ := in_block T r1 m2 m3
  have rx := x1.rg T
  have s3 := T.2.2.2.2.2
  rw [e2] at x2
  have : b = x := nI_inj (by omega) (by omega) x2
  have := (anc_in T m x1 x5).2.1
  have := (w4.le).2 b1 m1
  subst x
  omega
theorem BRK_iff (T : TRE R G nm) {b : Nat} (r : RCH R G nm b) : BRK (pcl R C L) G b ↔ ∃ t, G 4 b ≤ t ∧ t < G 5 b ∧ ai R 21 t = nI b ∧ (ai R 19 t = 7 ∨ ∃ b1, b1 ∈ kids R t ∧ okR (ai R 40 b1) ∧ hlP (pcl R C L) b1 = false ∧ BRK (pcl R C L) G b1) := by
  have rg := r.rg T
  obtain ⟨WB, l1, l2⟩ := T.2.2.1 b rg.1 rg.2
  have s2 := T.2.2.2.2.1
  have s3 := T.2.2.2.2.2
  constructor
  · rintro ⟨k, x, m, k1, k2, k3, ⟨k4, kx⟩, k5⟩
    have k3 : ai R 19 k = 7 := k3
    have k4 : ai R 21 k = nI x := k4
    obtain ⟨x', x1, x2, x3, x4⟩ := home T (s := k) (by omega) (by omega)
    have rx := x1.rg T
    cases m with
    | zero =>
      have : x = b := k5
      rw [this] at k4
      exact ⟨k, k1, k2, k4, Or.inl k3⟩
    | succ m =>
      have ux : x = x' := by
        rw [x2] at k4
        exact (nI_inj (by omega) (by omega) k4).symm
      subst ux
      obtain ⟨b1, c1, c2, c3, c4⟩ := pth_last m x k5
      have c4 : upB R b1 = some b := c4
      obtain ⟨r1, g1, g2⟩ := anc_in T m x1 (pth_anc m c1)
      rcases r1.up T with ⟨y, -⟩ | ⟨o, j, rj, ho, e1, e2, e3, e4, e5, e6, e7, e8⟩
      · rw [y] at c4; cases c4
      · rw [e3] at c4; cases c4
        exact ⟨o, e4.1, e4.2, e2, Or.inr ⟨b1, e5, c2, c3, k, x, m, by omega, by omega, k3, ⟨k4, kx⟩, c1⟩⟩
  · rintro ⟨t, t1, t2, t3, t4⟩
    rcases t4 with t4 | ⟨b1, c1, c2, c3, k, x, m, k1, k2, k3, k4, k5⟩
    · exact ⟨t, b, 0, t1, t2, t4, ⟨t3, by omega⟩, rfl⟩
    · obtain ⟨⟨w1, w2, w3, w4, w5, w6⟩, -⟩ := T.2.1 t (by omega) (by omega)
      have k1' := (kid_is w5 s3 c1).1
      have := (w4.le).2 b1 c1
      have := (WB.2.2.2.2 t t1 t2 t3).1
      exact ⟨k, x, m + 1, by omega, by omega, k3, k4, pth_snoc (X := pcl R C L) c2 c3 (upB_of k1' (by omega) t3 (by omega)) m x k5⟩
theorem hlF_t (t : Nat) : ∀ f b, hlF (pcl R C L) t f b true = true := by
  intro f
  induction f with
  | zero => intro b; rfl
  | succ f ih =>
    intro b
    rw [hlF_pcl]
    by_cases z : ai R 41 b = nI t
    · rw [if_pos z]
    · rw [if_neg z]
      cases upB R b with
      | none => rfl
      | some j => exact ih j
/-- a break that belongs to loop s and is not held -/
theorem tg_pth (T : TRE R G nm) {s b : Nat} (h1 : wN R * 120 ≤ s) (h2 : s < rsN R) (h6 : ai R 19 s = 6) (e26 : ai R 26 s = nI b) (hb : b < nbN R) : ∀ f x, RCH R G nm x → x < f → ((tgF R f x = some s ∧ hlF (pcl R C L) s f x false = false) ↔ ∃ m, pth (pcl R C L) m x b) := by
  have s2 := T.2.2.2.2.1
  have s3 := T.2.2.2.2.2
  obtain ⟨⟨w1, w2, w3, w4, w5, w6⟩, -⟩ := T.2.1 s h1 h2
  have rb : ai R 40 b = 4 := by
    obtain ⟨k, k1, k2, b6, -⟩ := w5
    have := (b6.some s3 (by rw [e26]; exact oN_nI (by omega))).2.2.2.1
    rw [this]
    have : k = 6 := nI_inj (b := 6) (by omega) (by omega) (by rw [← k1, h6]; rfl)
    rw [this]; rfl
  have only : ∀ x, x ∈ kids R s → x = b := fun x hx => by
    obtain ⟨k1, k2, k3⟩ := kid_is w5 s3 hx
    obtain ⟨k, k4, k5, -, -, -, -, n27, n28, -⟩ := w5
    have k6 : k = 6 := nI_inj (b := 6) (by omega) (by omega) (by rw [← k4, h6]; rfl)
    rcases k3 with ⟨z, -⟩ | ⟨z, -⟩ | ⟨i, z, -⟩ | ⟨z, -⟩
    · rw [e26] at z; exact (nI_inj (by omega) (by omega) z).symm
    · rw [n27 (by omega)] at z; exact absurd z.symm (nI_ne_m1 (by omega))
    · rw [(n28 (by omega)).2] at z; exact absurd z (Nat.not_lt_zero _)
    · rw [(n28 (by omega)).1] at z; exact absurd z.symm (nI_ne_m1 (by omega))
  intro f
  induction f with
  | zero => intro x r hx; omega
  | succ f ih =>
    intro x r hx
    rw [tgF, hlF_pcl]
    have m0 : ∀ m, pth (pcl R C L) m x b → ¬ okR (ai R 40 x) → x = b := fun m h n => by
      cases m with
      | zero => exact h
      | succ m => exact absurd h.1 n
    by_cases z : ai R 40 x = 0 ∨ ai R 40 x = 1 ∨ ai R 40 x = 8
    · rw [if_pos z]
      constructor
      · rintro ⟨q, -⟩; cases q
      · rintro ⟨m, hm⟩
        have := m0 m hm (fun y => y.1 z)
        rw [this, rb] at z
        exact absurd z (by decide)
    · rw [if_neg z]
      rcases r.up T with ⟨y, y2⟩ | ⟨o, j, rj, ho, e1, e2, e3, e4, e5, e6, e7, e8⟩
      · exact absurd (Or.inl (r.top T y2)) z
      · by_cases z2 : ai R 40 x = 4
        · rw [if_pos z2, e1, tn_nI (by omega)]
          constructor
          · rintro ⟨q, -⟩
            cases q
            exact ⟨0, only x e5⟩
          · rintro ⟨m, hm⟩
            have := m0 m hm (fun y => y.2 z2)
            subst x
            have k1 := (kid_is (T.2.1 o ho.1 ho.2).1.2.2.2.2.1 s3 e5)
            have : o = s := by
              obtain ⟨k, k1', k2, b6, -⟩ := w5
              have q := (b6.some s3 (by rw [e26]; exact oN_nI (by omega))).2.2.2.2.1
              rw [e1] at q
              exact nI_inj (by omega) (by omega) q
            rw [this]
            exact ⟨rfl, if_pos rfl⟩
        · rw [if_neg z2, e3]
          have no : ¬ ai R 41 x = nI s := fun q => by
            rw [e1] at q
            have : o = s := nI_inj (by omega) (by omega) q
            rw [this] at e5
            rw [only x e5] at z2
            exact z2 rb
          rw [if_neg no]
          have rj2 := T.2.2.2.1.lt (r.rg T).1 (r.rg T).2 e3
          show (tgF R f j = some s ∧ hlF (pcl R C L) s f j (false || hlP (pcl R C L) x) = false) ↔ _
          rw [Bool.false_or]
          cases eh : hlP (pcl R C L) x with
          | true =>
            rw [hlF_t]
            constructor
            · rintro ⟨-, q⟩; cases q
            · rintro ⟨m, hm⟩
              cases m with
              | zero => rw [show x = b from hm] at z2; exact absurd rb z2
              | succ m => rw [hm.2.1] at eh; cases eh
          | false =>
            rw [ih j rj (by omega)]
            constructor
            · rintro ⟨m, hm⟩; exact ⟨m + 1, ⟨z, z2⟩, eh, j, e3, hm⟩
            · rintro ⟨m, hm⟩
              cases m with
              | zero => rw [show x = b from hm] at z2; exact absurd rb z2
              | succ m =>
                obtain ⟨-, -, j', a3, a4⟩ := hm
                have a3 : upB R x = some j' := a3
                rw [e3] at a3; cases a3
                exact ⟨m, a4⟩
/-- whether a loop can be left -/
theorem lvL_brk (T : TRE R G nm) {s b : Nat} (h1 : wN R * 120 ≤ s) (h2 : s < rsN R) (h6 : ai R 19 s = 6) (e26 : ai R 26 s = nI b) (hb : b < nbN R) : lvL (pcl R C L) (wN R) (nsC R) s = true ↔ BRK (pcl R C L) G b := by
  have s2 := T.2.2.2.2.1
  have s3 := T.2.2.2.2.2
  have er : rsN R = wN R * 120 + nsC R := rfl
  rw [lvL_pcl]
  have any : ∀ (p : Nat → Bool) n, fup (fun k b => b || p k) n 0 false = anyN p n := fun p n => rfl
  rw [any, anyN_iff]
  constructor
  · rintro ⟨k, k1, k2⟩
    rw [Bool.and_eq_true, Bool.and_eq_true, decide_eq_true_eq, decide_eq_true_eq, Bool.not_eq_true', tgS_pcl] at k2
    obtain ⟨q1, q2, q3⟩ := k2
    obtain ⟨x, x1, x2, x3, x4⟩ := home T (s := wN R * 120 + k) (by omega) (by omega)
    have rx := x1.rg T
    unfold tgS at q2
    rw [x2, tn_nI (by omega)] at q2 q3
    obtain ⟨m, hm⟩ := (tg_pth T h1 h2 h6 e26 hb 2048 x x1 (by omega)).mp ⟨q2, q3⟩
    have := anc_in T m x1 (pth_anc m hm)
    exact ⟨wN R * 120 + k, x, m, by omega, by omega, q1, ⟨x2, by omega⟩, hm⟩
  · rintro ⟨k, x, m, k1, k2, k3, ⟨k4, kx⟩, k5⟩
    have k3 : ai R 19 k = 7 := k3
    have k4 : ai R 21 k = nI x := k4
    obtain ⟨WB, l1, l2⟩ := T.2.2.1 b (by
      obtain ⟨⟨w1, w2, w3, w4, w5, w6⟩, wk⟩ := T.2.1 s h1 h2
      exact (wk b (kid26 (by rw [e26]; exact oN_nI (by omega)))).1) hb
    obtain ⟨x', x1, x2, x3, x4⟩ := home T (s := k) (by omega) (by omega)
    have rx := x1.rg T
    have ux : x = x' := by
      rw [x2] at k4
      exact (nI_inj (by omega) (by omega) k4).symm
    subst ux
    obtain ⟨q2, q3⟩ := (tg_pth T h1 h2 h6 e26 hb 2048 x x1 (by omega)).mpr ⟨m, k5⟩
    refine ⟨k - wN R * 120, by omega, ?_⟩
    rw [show wN R * 120 + (k - wN R * 120) = k by omega, Bool.and_eq_true, Bool.and_eq_true, decide_eq_true_eq, decide_eq_true_eq, Bool.not_eq_true', tgS_pcl]
    unfold tgS
    rw [x2, tn_nI (by omega)]
    exact ⟨k3, q2, q3⟩
end
