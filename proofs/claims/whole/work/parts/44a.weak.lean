-- deps:
/-! Locals that a run does not look at do no harm -/
theorem ldI_W {ls ls' : Ls} {j : Nat} (hl : ∀ j v, ld ls j = some v → ld ls' j = some v) {k k' : Int32 → Prop} (H : ∀ x, k x → k' x) : ldI (ld ls j) k → ldI (ld ls' j) k' := by
  cases e : ld ls j with
  | none => exact False.elim
  | some v => rw [hl j v e]; exact ldI_mono H
theorem ldL_W {ls ls' : Ls} {j : Nat} (hl : ∀ j v, ld ls j = some v → ld ls' j = some v) {k k' : Int64 → Prop} (H : ∀ x, k x → k' x) : ldL (ld ls j) k → ldL (ld ls' j) k' := by
  cases e : ld ls j with
  | none => exact False.elim
  | some v => rw [hl j v e]; exact ldL_mono H
theorem ldP_W {ls ls' : Ls} {j : Nat} (hl : ∀ j v, ld ls j = some v → ld ls' j = some v) {k k' : Option Nat → Prop} (H : ∀ x, k x → k' x) : ldP (ld ls j) k → ldP (ld ls' j) k' := by
  cases e : ld ls j with
  | none => exact False.elim
  | some v => rw [hl j v e]; exact ldP_mono H
set_option maxHeartbeats 4000000 in
theorem stepC_W {ins : ClassFile.Instr} {i : Nat} {st : List V} {ls ls' : Ls} {h : AH} {K K' : Nat → List V → Ls → AH → Prop} {C C' : Nat → List V → List V → Prop} {R : Option V → AH → Prop} (hl : ∀ j v, ld ls j = some v → ld ls' j = some v)
    (hK : ∀ i st h, K i st ls h → K' i st ls' h) (h1 : ∀ i st j v h, K i st (st1 ls j v) h → K' i st (st1 ls' j v) h) (h2 : ∀ i st j v h, K i st (st2 ls j v) h → K' i st (st2 ls' j v) h) (hC : ∀ m a r, C m a r → C' m a r) : stepC ins i st ls h K C R → stepC ins i st ls' h K' C' R := by
  unfold stepC
  split
  all_goals first
    | exact id
    | exact hK _ _ _
    | exact ldI_W hl fun _ => hK _ _ _
    | exact ldL_W hl fun _ => hK _ _ _
    | exact ldP_W hl fun _ => hK _ _ _
    | exact i1_mono fun _ _ => h1 _ _ _ _ _
    | exact l1_mono fun _ _ => h2 _ _ _ _ _
    | exact p1_mono fun _ _ => h1 _ _ _ _ _
    | exact ldI_W hl fun _ => h1 _ _ _ _ _
    | exact i1_mono fun _ _ => hK _ _ _
    | exact i2_mono fun _ _ _ => hK _ _ _
    | exact i2_mono fun _ _ _ => and2 (hK _ _ _)
    | exact l1_mono fun _ _ => hK _ _ _
    | exact l2_mono fun _ _ _ => hK _ _ _
    | exact l2_mono fun _ _ _ => and2 (hK _ _ _)
    | exact li_mono fun _ _ _ => hK _ _ _
    | exact p1_mono fun _ _ => hK _ _ _
    | exact p1_mono fun _ _ => and2 (hK _ _ _)
    | exact p1_mono fun _ _ => nn_mono fun _ => and2 (hK _ _ _)
    | exact p1_mono fun _ _ => p1_mono fun _ _ => br2 (hK _ _ _) (hK _ _ _)
    | exact p1_mono fun _ _ => nn_mono fun _ => and2 (and2 (hK _ _ _))
    | exact p1_mono fun _ _ => br2 (hK _ _ _) (hK _ _ _)
    | exact p1_mono fun _ _ => br3 (hK _ _ _) (hK _ _ _)
    | exact i1_mono fun _ _ => br2 (hK _ _ _) (hK _ _ _)
    | exact i2_mono fun _ _ _ => br2 (hK _ _ _) (hK _ _ _)
    | exact pi_mono fun _ _ _ => nn_mono fun _ => and2 (and2 (hK _ _ _))
    | exact i1_mono fun _ _ => pi_mono fun _ _ _ => nn_mono fun _ => and2 (and2 (hK _ _ _))
    | exact l1_mono fun _ _ => pi_mono fun _ _ _ => nn_mono fun _ => and2 (and2 (hK _ _ _))
    | exact p1_mono fun _ _ => nn_mono fun _ => pi_mono fun _ _ _ => nn_mono fun _ => and2 (and2 (and2 (hK _ _ _)))
    | exact bI_mono (hK _ _ _) (hK _ _ _)
    | exact i1_mono fun _ _ => and2 (and2 (and2 (hK _ _ _)))
    | exact i1_mono fun _ _ => and2 (and2 (and2 (and2 (hK _ _ _))))
    | exact and2 (and2 (hK _ _ _))
    | exact gB_mono (hC _ _ _)
    | exact i2_mono fun _ _ _ => gB_mono (hK _ _ _)
    | exact p1_mono fun _ _ => nn_mono fun _ => gB_mono (hK _ _ _)
    | exact p1_mono fun _ _ => nn_mono fun _ => and2 (gB_mono (hK _ _ _))
    | exact i1_mono fun _ _ => and2 (and2 (and2 (gB_mono (hK _ _ _))))
    | exact putf_mono fun _ _ => hK _ _ _
    | exact i1_mono fun _ _ H => ⟨fun z => hK _ _ _ (H.1 z), fun j hj z => hK _ _ _ (H.2 j hj z)⟩
    | skip
  all_goals first
    | (split <;> first | exact id | exact gB_mono (hK _ _ _) | exact and2 (hK _ _ _) | exact and2 (and2 (hK _ _ _)) | exact nn_mono fun _ => nn_mono fun _ => and2 (and2 (and2 (and2 (hK _ _ _)))))
/-- no local stands twice -/
def UK (ls : Ls) : Prop := ls.Pairwise (fun p q => ¬ p.1 = q.1)
theorem UK.sym {p q : Nat × V} (h : ¬ p.1 = q.1) : ¬ q.1 = p.1 := fun e => h e.symm
theorem UK_ld : ∀ {ls : Ls}, UK ls → ∀ {i v}, (i, v) ∈ ls → ld ls i = some v := by
  intro ls
  induction ls with
  | nil => intro _ i v m; cases m
  | cons q r ih =>
    intro u i v m
    obtain ⟨u1, u2⟩ := List.pairwise_cons.mp u
    rw [ld]
    rcases List.mem_cons.mp m with e | m
    · rw [if_pos (by rw [← e]), ← e]
    · rw [if_neg (u1 _ m), ih u2 m]
theorem ld_in : ∀ {ls : Ls} {i v}, ld ls i = some v → (i, v) ∈ ls := by
  intro ls
  induction ls with
  | nil => intro i v e; cases e
  | cons q r ih =>
    intro i v e
    rw [ld] at e
    by_cases c : q.1 = i
    · rw [if_pos c] at e
      cases e
      subst c
      exact List.mem_cons_self
    · rw [if_neg c] at e
      exact List.mem_cons_of_mem _ (ih e)
theorem insL_perm (i : Nat) (v : V) : ∀ ls : Ls, (insL i v ls).Perm ((i, v) :: ls) := by
  intro ls
  induction ls with
  | nil => exact List.Perm.refl _
  | cons q r ih =>
    rw [insL]
    split
    · exact List.Perm.refl _
    · exact (List.Perm.cons q ih).trans (List.Perm.swap _ _ _)
theorem UK_insL {ls : Ls} {i : Nat} {v : V} (u : UK ls) (h : ∀ q, q ∈ ls → ¬ q.1 = i) : UK (insL i v ls) := by
  unfold UK
  rw [(insL_perm i v ls).pairwise_iff (fun {x y} z => fun e => z e.symm)]
  exact List.pairwise_cons.mpr ⟨fun q m e => h q m e.symm, u⟩
theorem UK_st1 {ls : Ls} (u : UK ls) (i : Nat) (v : V) : UK (st1 ls i v) := UK_insL (List.Pairwise.filter _ u) (fun q m e => by
  have := (List.mem_filter.mp m).2
  simp [e] at this)
theorem UK_st2 {ls : Ls} (u : UK ls) (i : Nat) (v : V) : UK (st2 ls i v) := UK_insL (List.Pairwise.filter _ u) (fun q m e => by
  have := (List.mem_filter.mp m).2
  simp [e] at this)
theorem mem_insL {ls : Ls} {i : Nat} {v : V} {q : Nat × V} : q ∈ insL i v ls ↔ q = (i, v) ∨ q ∈ ls := by
  rw [(insL_perm i v ls).mem_iff, List.mem_cons]
theorem sub_st1 {ls ls' : Ls} (s : ∀ q, q ∈ ls → q ∈ ls') (i : Nat) (v : V) : ∀ q, q ∈ st1 ls i v → q ∈ st1 ls' i v := fun q m => by
  rcases mem_insL.mp m with m | m
  · exact mem_insL.mpr (Or.inl m)
  · have := List.mem_filter.mp m
    exact mem_insL.mpr (Or.inr (List.mem_filter.mpr ⟨s q this.1, this.2⟩))
theorem sub_st2 {ls ls' : Ls} (s : ∀ q, q ∈ ls → q ∈ ls') (i : Nat) (v : V) : ∀ q, q ∈ st2 ls i v → q ∈ st2 ls' i v := fun q m => by
  rcases mem_insL.mp m with m | m
  · exact mem_insL.mpr (Or.inl m)
  · have := List.mem_filter.mp m
    exact mem_insL.mpr (Or.inr (List.mem_filter.mpr ⟨s q this.1, this.2⟩))
theorem ent_ge : ∀ (st : List V) (i : Nat) q, q ∈ ent i st → i ≤ q.1 := by
  intro st
  induction st with
  | nil => intro i q m; cases m
  | cons v r ih =>
    intro i q m
    rw [ent] at m
    rcases List.mem_cons.mp m with e | m
    · rw [e]; exact Nat.le_refl _
    · have := ih _ _ m
      omega
theorem vcat_pos (v : V) : 1 ≤ vcat v := by
  unfold vcat; split <;> decide
theorem UK_ent : ∀ (st : List V) (i : Nat), UK (ent i st) := by
  intro st
  induction st with
  | nil => intro i; exact List.Pairwise.nil
  | cons v r ih =>
    intro i
    rw [ent]
    refine List.pairwise_cons.mpr ⟨fun q m e => ?_, ih _⟩
    have := ent_ge _ _ _ m
    have := vcat_pos v
    omega
theorem wp_W {d k i : Nat} {st : List V} {ls : Ls} {h : AH} {Q : Option V → AH → Prop} (H : wp d k i st ls h Q) : ∀ ls', (∀ q, q ∈ ls → q ∈ ls') → UK ls' → wp d k i st ls' h Q := by
  refine H (fun d k i st ls h Q => ∀ ls', (∀ q, q ∈ ls → q ∈ ls') → UK ls' → wp d k i st ls' h Q) ?_ ?_
  · intro d k i st ls h Q Q' hQ z ls' a1 a2
    exact wp_mono _ _ _ _ _ _ _ _ hQ (z ls' a1 a2)
  · intro d k i st ls h Q z ls' a1 a2
    rw [wp_eq]
    unfold wpStep at z ⊢
    refine insOf_mono (fun ins => stepC_W (fun j v e => UK_ld a2 (a1 _ (ld_in e))) (fun i' st' h' y => y ls' a1 a2) (fun i' st' j v h' y => y _ (sub_st1 a1 j v) (UK_st1 a2 j v)) (fun i' st' j v h' y => y _ (sub_st2 a1 j v) (UK_st2 a2 j v)) (fun m a r y => ?_)) z
    unfold callP at y ⊢
    split at y
    · exact y.elim
    · exact recOk_mono (fun y => wp_mono _ _ _ _ _ _ _ _ (fun v h' q => q ls' a1 a2) (y _ (fun q m => m) (UK_ent _ _))) y
/-- every number stands in a list at most once, computed -/
def ndB : List Nat → Bool
  | [] => true
  | x :: r => !(r.contains x) && ndB r
theorem ndB_UK : ∀ {ls : Ls}, ndB (ls.map (fun q => q.1)) = true → UK ls := by
  intro ls
  induction ls with
  | nil => intro _; exact List.Pairwise.nil
  | cons q r ih =>
    intro e
    rw [List.map_cons, ndB, Bool.and_eq_true] at e
    refine List.pairwise_cons.mpr ⟨fun p m z => ?_, ih e.2⟩
    have : (r.map (fun q => q.1)).contains q.1 = true := List.contains_iff_mem.mpr (List.mem_map.mpr ⟨p, m, z.symm⟩)
    rw [this] at e
    exact absurd e.1 (by decide)
/-- the locals from number n on are not looked at -/
theorem wp_cut (n : Nat) {d k i : Nat} {st : List V} {ls : Ls} {h : AH} {Q : Option V → AH → Prop} (H : wp d k i st (ls.filter (fun q => decide (q.1 < n))) h Q) (u : ndB (ls.map (fun q => q.1)) = true := by rfl) : wp d k i st ls h Q :=
  wp_W H ls (fun q m => (List.mem_filter.mp m).1) (ndB_UK u)
