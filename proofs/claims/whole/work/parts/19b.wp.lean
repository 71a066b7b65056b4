/-! RUNS: the least predicate that is closed under steps; its laws -/
def psh (v : Option V) (st : List V) : List V := match v with
  | none => st
  | some x => x :: st
/-- the receiver's tag and the arguments' words, then on -/
def recOk (m : Nat) (args : List V) (h : AH) (X : Prop) : Prop := match m % 100, args with
  | 0, a => gB (catS a == m / 10000 % 100) X
  | _, .inr (.inr o) :: r => gB (1 + catS r == m / 10000 % 100) (nn o (fun a => tg h a = m % 100 ∧ X))
  | _, _ => False
abbrev WP : Type := Nat → Nat → Nat → List V → Ls → AH → (Option V → AH → Prop) → Prop
def callP (P : WP) (d m : Nat) (args : List V) (h : AH) (Q : Option V → AH → Prop) : Prop := match d with
  | 0 => False
  | d + 1 => recOk m args h (P d m 0 [] (ent 0 args) h Q)
def insOf (o : Option ClassFile.Instr) (k : ClassFile.Instr → Prop) : Prop := match o with
  | none => False
  | some ins => k ins
def wpStep (P : WP) (d k i : Nat) (st : List V) (ls : Ls) (h : AH) (Q : Option V → AH → Prop) : Prop :=
  insOf (codeOf k)[i]? (fun ins => stepC ins i st ls h (fun i' st' ls' h' => P d k i' st' ls' h' Q) (fun m args rest => callP P d m args h (fun v h' => P d k (i + 1) (psh v rest) ls h' Q)) Q)
def Mono (P : WP) : Prop := ∀ d k i st ls h (Q Q' : Option V → AH → Prop), (∀ v h, Q v h → Q' v h) → P d k i st ls h Q → P d k i st ls h Q'
def Clsd (P : WP) : Prop := ∀ d k i st ls h (Q : Option V → AH → Prop), wpStep P d k i st ls h Q → P d k i st ls h Q
def wp (d k i : Nat) (st : List V) (ls : Ls) (h : AH) (Q : Option V → AH → Prop) : Prop := ∀ P : WP, Mono P → Clsd P → P d k i st ls h Q
theorem gB_mono {b : Bool} {X X' : Prop} (H : X → X') : gB b X → gB b X' := by
  unfold gB; split <;> first | exact H | exact id
theorem gB_out {b : Bool} {X : Prop} (H : gB b X) : b = true ∧ X := by
  cases b
  · exact H.elim
  · exact ⟨rfl, H⟩
theorem bI_mono {b : Bool} {X X' Y Y' : Prop} (H : X → X') (G : Y → Y') : bI b X Y → bI b X' Y' := by
  unfold bI; split <;> first | exact H | exact G
theorem i1_mono {st : List V} {k k' : Int32 → List V → Prop} (H : ∀ x r, k x r → k' x r) : i1 st k → i1 st k' := by
  unfold i1; split <;> first | exact H _ _ | exact id
theorem i2_mono {st : List V} {k k' : Int32 → Int32 → List V → Prop} (H : ∀ x y r, k x y r → k' x y r) : i2 st k → i2 st k' := by
  unfold i2; split <;> first | exact H _ _ _ | exact id
theorem l1_mono {st : List V} {k k' : Int64 → List V → Prop} (H : ∀ x r, k x r → k' x r) : l1 st k → l1 st k' := by
  unfold l1; split <;> first | exact H _ _ | exact id
theorem l2_mono {st : List V} {k k' : Int64 → Int64 → List V → Prop} (H : ∀ x y r, k x y r → k' x y r) : l2 st k → l2 st k' := by
  unfold l2; split <;> first | exact H _ _ _ | exact id
theorem li_mono {st : List V} {k k' : Int64 → Int32 → List V → Prop} (H : ∀ x y r, k x y r → k' x y r) : li st k → li st k' := by
  unfold li; split <;> first | exact H _ _ _ | exact id
theorem p1_mono {st : List V} {k k' : Option Nat → List V → Prop} (H : ∀ x r, k x r → k' x r) : p1 st k → p1 st k' := by
  unfold p1; split <;> first | exact H _ _ | exact id
theorem pi_mono {st : List V} {k k' : Option Nat → Int32 → List V → Prop} (H : ∀ x y r, k x y r → k' x y r) : pi st k → pi st k' := by
  unfold pi; split <;> first | exact H _ _ _ | exact id
theorem nn_mono {o : Option Nat} {k k' : Nat → Prop} (H : ∀ a, k a → k' a) : nn o k → nn o k' := by
  unfold nn; split <;> first | exact H _ | exact id
theorem ldI_mono {o : Option V} {k k' : Int32 → Prop} (H : ∀ a, k a → k' a) : ldI o k → ldI o k' := by
  unfold ldI; split <;> first | exact H _ | exact id
theorem ldL_mono {o : Option V} {k k' : Int64 → Prop} (H : ∀ a, k a → k' a) : ldL o k → ldL o k' := by
  unfold ldL; split <;> first | exact H _ | exact id
theorem ldP_mono {o : Option V} {k k' : Option Nat → Prop} (H : ∀ a, k a → k' a) : ldP o k → ldP o k' := by
  unfold ldP; split <;> first | exact H _ | exact id
theorem insOf_mono {o : Option ClassFile.Instr} {k k' : ClassFile.Instr → Prop} (H : ∀ a, k a → k' a) : insOf o k → insOf o k' := by
  unfold insOf; split <;> first | exact H _ | exact id
theorem putf_mono {f : Nat} {st : List V} {h : AH} {k k' : AH → List V → Prop} (H : ∀ h r, k h r → k' h r) : putf f st h k → putf f st h k' := by
  unfold putf; split <;> first | exact nn_mono fun _ => And.imp_right (And.imp_right (H _ _)) | exact nn_mono fun _ => And.imp_right (H _ _) | exact id
theorem and2 {a b b' : Prop} (f : b → b') : a ∧ b → a ∧ b' := And.imp_right f
theorem br2 {c A B A' B' : Prop} (f : A → A') (g : B → B') : (c → A) ∧ (¬ c → B) → (c → A') ∧ (¬ c → B') := fun x => ⟨fun z => f (x.1 z), fun z => g (x.2 z)⟩
theorem br3 {c A B A' B' : Prop} (f : A → A') (g : B → B') : (¬ c → A) ∧ (c → B) → (¬ c → A') ∧ (c → B') := fun x => ⟨fun z => f (x.1 z), fun z => g (x.2 z)⟩
set_option maxHeartbeats 4000000 in
theorem stepC_mono {ins : ClassFile.Instr} {i : Nat} {st : List V} {ls : Ls} {h : AH} {K K' : Nat → List V → Ls → AH → Prop} {C C' : Nat → List V → List V → Prop} {R R' : Option V → AH → Prop}
    (hK : ∀ i st ls h, K i st ls h → K' i st ls h) (hC : ∀ m a r, C m a r → C' m a r) (hR : ∀ v h, R v h → R' v h) : stepC ins i st ls h K C R → stepC ins i st ls h K' C' R' := by
  unfold stepC
  split
  all_goals first
    | exact id
    | exact hK _ _ _ _
    | exact hR _ _
    | exact ldI_mono fun _ => hK _ _ _ _
    | exact ldL_mono fun _ => hK _ _ _ _
    | exact ldP_mono fun _ => hK _ _ _ _
    | exact i1_mono fun _ _ => hK _ _ _ _
    | exact i2_mono fun _ _ _ => hK _ _ _ _
    | exact i2_mono fun _ _ _ => and2 (hK _ _ _ _)
    | exact l1_mono fun _ _ => hK _ _ _ _
    | exact l2_mono fun _ _ _ => hK _ _ _ _
    | exact l2_mono fun _ _ _ => and2 (hK _ _ _ _)
    | exact li_mono fun _ _ _ => hK _ _ _ _
    | exact p1_mono fun _ _ => hK _ _ _ _
    | exact p1_mono fun _ _ => and2 (hK _ _ _ _)
    | exact p1_mono fun _ _ => nn_mono fun _ => and2 (hK _ _ _ _)
    | exact p1_mono fun _ _ => p1_mono fun _ _ => br2 (hK _ _ _ _) (hK _ _ _ _)
    | exact p1_mono fun _ _ => nn_mono fun _ => and2 (and2 (hK _ _ _ _))
    | exact p1_mono fun _ _ => br2 (hK _ _ _ _) (hK _ _ _ _)
    | exact p1_mono fun _ _ => br3 (hK _ _ _ _) (hK _ _ _ _)
    | exact i1_mono fun _ _ => br2 (hK _ _ _ _) (hK _ _ _ _)
    | exact i2_mono fun _ _ _ => br2 (hK _ _ _ _) (hK _ _ _ _)
    | exact pi_mono fun _ _ _ => nn_mono fun _ => and2 (and2 (hK _ _ _ _))
    | exact i1_mono fun _ _ => pi_mono fun _ _ _ => nn_mono fun _ => and2 (and2 (hK _ _ _ _))
    | exact l1_mono fun _ _ => pi_mono fun _ _ _ => nn_mono fun _ => and2 (and2 (hK _ _ _ _))
    | exact p1_mono fun _ _ => nn_mono fun _ => pi_mono fun _ _ _ => nn_mono fun _ => and2 (and2 (and2 (hK _ _ _ _)))
    | exact bI_mono (hK _ _ _ _) (hK _ _ _ _)
    | exact i1_mono fun _ _ => and2 (and2 (and2 (hK _ _ _ _)))
    | exact i1_mono fun _ _ => and2 (and2 (and2 (and2 (hK _ _ _ _))))
    | exact and2 (and2 (hK _ _ _ _))
    | exact gB_mono (hC _ _ _)
    | exact i2_mono fun _ _ _ => gB_mono (hK _ _ _ _)
    | exact p1_mono fun _ _ => nn_mono fun _ => gB_mono (hK _ _ _ _)
    | exact p1_mono fun _ _ => nn_mono fun _ => and2 (gB_mono (hK _ _ _ _))
    | exact i1_mono fun _ _ => and2 (and2 (and2 (gB_mono (hK _ _ _ _))))
    | exact putf_mono fun _ _ => hK _ _ _ _
    | exact i1_mono fun _ _ => hR _ _
    | exact i1_mono fun _ _ => and2 (hR _ _)
    | exact l1_mono fun _ _ => hR _ _
    | exact p1_mono fun _ _ => hR _ _
    | exact i1_mono fun _ _ H => ⟨fun z => hK _ _ _ _ (H.1 z), fun j hj z => hK _ _ _ _ (H.2 j hj z)⟩
    | skip
  all_goals first
    | (split <;> first | exact id | exact gB_mono (hK _ _ _ _) | exact and2 (hK _ _ _ _) | exact and2 (and2 (hK _ _ _ _)) | exact hR _ _ | exact and2 (hR _ _) | exact nn_mono fun _ => nn_mono fun _ => and2 (and2 (and2 (and2 (hK _ _ _ _)))))
theorem recOk_mono {m : Nat} {args : List V} {h : AH} {X X' : Prop} (H : X → X') : recOk m args h X → recOk m args h X' := by
  unfold recOk
  split
  · exact gB_mono H
  · exact gB_mono (nn_mono fun _ => and2 H)
  · exact id
theorem callP_mono {P P' : WP} (hm : Mono P') (hP : ∀ d k i st ls h Q, P d k i st ls h Q → P' d k i st ls h Q) {d m : Nat} {args : List V} {h : AH} {Q Q' : Option V → AH → Prop} (hQ : ∀ v h, Q v h → Q' v h) : callP P d m args h Q → callP P' d m args h Q' := by
  unfold callP
  split
  · exact id
  · exact recOk_mono (fun H => hm _ _ _ _ _ _ _ _ hQ (hP _ _ _ _ _ _ _ H))
theorem wpStep_mono {P P' : WP} (hm : Mono P') (hP : ∀ d k i st ls h Q, P d k i st ls h Q → P' d k i st ls h Q) {d k i : Nat} {st : List V} {ls : Ls} {h : AH} {Q Q' : Option V → AH → Prop} (hQ : ∀ v h, Q v h → Q' v h) : wpStep P d k i st ls h Q → wpStep P' d k i st ls h Q' := by
  unfold wpStep
  exact insOf_mono fun _ => stepC_mono (fun _ _ _ _ H => hm _ _ _ _ _ _ _ _ hQ (hP _ _ _ _ _ _ _ H)) (fun _ _ _ => callP_mono hm hP (fun _ _ H => hm _ _ _ _ _ _ _ _ hQ (hP _ _ _ _ _ _ _ H))) hQ
theorem wp_mono : Mono wp := fun d k i st ls h _ _ hQ H P hm hc => hm d k i st ls h _ _ hQ (H P hm hc)
theorem wp_in {d k i : Nat} {st : List V} {ls : Ls} {h : AH} {Q : Option V → AH → Prop} (H : wpStep wp d k i st ls h Q) : wp d k i st ls h Q :=
  fun P hm hc => hc _ _ _ _ _ _ _ (wpStep_mono hm (fun _ _ _ _ _ _ _ z => z P hm hc) (fun _ _ z => z) H)
theorem wp_out {d k i : Nat} {st : List V} {ls : Ls} {h : AH} {Q : Option V → AH → Prop} (H : wp d k i st ls h Q) : wpStep wp d k i st ls h Q :=
  H (wpStep wp) (fun _ _ _ _ _ _ _ _ hQ z => wpStep_mono wp_mono (fun _ _ _ _ _ _ _ z => z) hQ z) (fun _ _ _ _ _ _ _ z => wpStep_mono wp_mono (fun _ _ _ _ _ _ _ z => wp_in z) (fun _ _ z => z) z)
theorem wp_eq (d k i : Nat) (st : List V) (ls : Ls) (h : AH) (Q : Option V → AH → Prop) : wp d k i st ls h Q = wpStep wp d k i st ls h Q := propext ⟨wp_out, wp_in⟩
/-- n steps at once -/
def wpS : Nat → WP
  | 0, d, k, i, st, ls, h, Q => wp d k i st ls h Q
  | n + 1, d, k, i, st, ls, h, Q => insOf (codeOf k)[i]? (fun ins => stepC ins i st ls h (fun i' st' ls' h' => wpS n d k i' st' ls' h' Q) (fun m args rest => callP wp d m args h (fun v h' => wpS n d k (i + 1) (psh v rest) ls h' Q)) Q)
theorem wpS_eq : ∀ (n d k i : Nat) (st : List V) (ls : Ls) (h : AH) (Q : Option V → AH → Prop), wpS n d k i st ls h Q = wp d k i st ls h Q := by
  intro n
  induction n with
  | zero => intros; rfl
  | succ n ih =>
    intro d k i st ls h Q
    rw [wp_eq]
    show insOf _ _ = insOf _ _
    simp only [ih]
