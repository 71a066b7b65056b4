/-! More room changes nothing else -/
def shf (h : AH) (x y : Nat) : AH := (h.1, h.2.1, h.2.2.1, h.2.2.2.1, h.2.2.2.2.1, h.2.2.2.2.2.1, h.2.2.2.2.2.2.1, h.2.2.2.2.2.2.2.1, h.2.2.2.2.2.2.2.2.1, rc h + x, rs h + y)
theorem shf_O {h : AH} {x y c n : Nat} (h1 : 0 < rc h) (h2 : n ≤ rs h) : newO (shf h x y) c n = shf (newO h c n) x y := by
  have e1 : rc h + x - 1 = rc h - 1 + x := by omega
  have e2 : rs h + y - n = rs h - n + y := by omega
  show (fun f a => if a = tp h ∧ f / 100 % 100 = c then 0 else fI h f a, fun f a => if a = tp h ∧ f / 100 % 100 = c then 0 else fJ h f a, fun f a => if a = tp h ∧ f / 100 % 100 = c then none else fP h f a, aI h, aJ h, aP h, up1 (tg h) (tp h) (c + 1), ln h, tp h + 1, rc h + x - 1, rs h + y - n) = (fun f a => if a = tp h ∧ f / 100 % 100 = c then 0 else fI h f a, fun f a => if a = tp h ∧ f / 100 % 100 = c then 0 else fJ h f a, fun f a => if a = tp h ∧ f / 100 % 100 = c then none else fP h f a, aI h, aJ h, aP h, up1 (tg h) (tp h) (c + 1), ln h, tp h + 1, rc h - 1 + x, rs h - n + y)
  rw [e1, e2]
theorem shf_A {h : AH} {x y t n : Nat} (h1 : 0 < rc h) (h2 : n ≤ rs h) : newA (shf h x y) t n = shf (newA h t n) x y := by
  have e1 : rc h + x - 1 = rc h - 1 + x := by omega
  have e2 : rs h + y - n = rs h - n + y := by omega
  show (fI h, fJ h, fP h, fun a i => if a = tp h then 0 else aI h a i, fun a i => if a = tp h then 0 else aJ h a i, fun a i => if a = tp h then none else aP h a i, up1 (tg h) (tp h) (100 + t), up1 (ln h) (tp h) n, tp h + 1, rc h + x - 1, rs h + y - n) = (fI h, fJ h, fP h, fun a i => if a = tp h then 0 else aI h a i, fun a i => if a = tp h then 0 else aJ h a i, fun a i => if a = tp h then none else aP h a i, up1 (tg h) (tp h) (100 + t), up1 (ln h) (tp h) n, tp h + 1, rc h - 1 + x, rs h - n + y)
  rw [e1, e2]
theorem putf_S {f : Nat} {st : List V} {h : AH} {x y : Nat} {k k' : AH → List V → Prop} (H : ∀ h' r, k h' r → k' (shf h' x y) r) : putf f st h k → putf f st (shf h x y) k' := by
  unfold putf; split
  · exact nn_mono fun _ z => ⟨z.1, H _ _ z.2⟩
  · exact nn_mono fun _ z => ⟨z.1, z.2.1, H _ _ z.2.2⟩
  · exact nn_mono fun _ z => ⟨z.1, H _ _ z.2⟩
  · exact nn_mono fun _ z => ⟨z.1, H _ _ z.2⟩
  · exact id
theorem recOk_S {m : Nat} {args : List V} {h : AH} {x y : Nat} {X X' : Prop} (H : X → X') : recOk m args h X → recOk m args (shf h x y) X' := by
  unfold recOk
  split
  · exact gB_mono H
  · exact gB_mono (nn_mono fun _ z => ⟨z.1, H z.2⟩)
  · exact id
set_option maxHeartbeats 4000000 in
theorem stepC_shf {x y : Nat} {ins : ClassFile.Instr} {i : Nat} {st : List V} {ls : Ls} {h : AH} {K K' : Nat → List V → Ls → AH → Prop} {C C' : Nat → List V → List V → Prop} {R R' : Option V → AH → Prop}
    (hK : ∀ i st ls h', K i st ls h' → K' i st ls (shf h' x y)) (hC : ∀ m a r, C m a r → C' m a r) (hR : ∀ v, R v h → R' v (shf h x y)) : stepC ins i st ls h K C R → stepC ins i st ls (shf h x y) K' C' R' := by
  have hk : ∀ i st ls, K i st ls h → K' i st ls (shf h x y) := fun i st ls => hK i st ls h
  unfold stepC
  split
  all_goals first
    | exact id
    | exact hk _ _ _
    | exact hR _
    | exact ldI_mono fun _ => hk _ _ _
    | exact ldL_mono fun _ => hk _ _ _
    | exact ldP_mono fun _ => hk _ _ _
    | exact i1_mono fun _ _ => hk _ _ _
    | exact i2_mono fun _ _ _ => hk _ _ _
    | exact i2_mono fun _ _ _ => and2 (hk _ _ _)
    | exact l1_mono fun _ _ => hk _ _ _
    | exact l2_mono fun _ _ _ => hk _ _ _
    | exact l2_mono fun _ _ _ => and2 (hk _ _ _)
    | exact li_mono fun _ _ _ => hk _ _ _
    | exact p1_mono fun _ _ => hk _ _ _
    | exact p1_mono fun _ _ z => ⟨z.1, hk _ _ _ z.2⟩
    | exact p1_mono fun _ _ => nn_mono fun _ z => ⟨z.1, hk _ _ _ z.2⟩
    | exact p1_mono fun _ _ => p1_mono fun _ _ => br2 (hk _ _ _) (hk _ _ _)
    | exact p1_mono fun _ _ => nn_mono fun _ z => ⟨z.1, z.2.1, hk _ _ _ z.2.2⟩
    | exact p1_mono fun _ _ => br2 (hk _ _ _) (hk _ _ _)
    | exact p1_mono fun _ _ => br3 (hk _ _ _) (hk _ _ _)
    | exact i1_mono fun _ _ => br2 (hk _ _ _) (hk _ _ _)
    | exact i2_mono fun _ _ _ => br2 (hk _ _ _) (hk _ _ _)
    | exact pi_mono fun _ _ _ => nn_mono fun _ z => ⟨z.1, z.2.1, hk _ _ _ z.2.2⟩
    | exact i1_mono fun _ _ => pi_mono fun _ _ _ => nn_mono fun _ z => ⟨z.1, z.2.1, hK _ _ _ _ z.2.2⟩
    | exact l1_mono fun _ _ => pi_mono fun _ _ _ => nn_mono fun _ z => ⟨z.1, z.2.1, hK _ _ _ _ z.2.2⟩
    | exact p1_mono fun _ _ => nn_mono fun _ => pi_mono fun _ _ _ => nn_mono fun _ z => ⟨z.1, z.2.1, z.2.2.1, hK _ _ _ _ z.2.2.2⟩
    | exact bI_mono (hk _ _ _) (hk _ _ _)
    | exact i1_mono fun _ _ z => ⟨z.1, Nat.lt_of_lt_of_le z.2.1 (Nat.le_add_right _ _), Nat.le_trans z.2.2.1 (Nat.le_add_right _ _), gB_mono (fun q => by rw [shf_A z.2.1 z.2.2.1]; exact hK _ _ _ _ q) z.2.2.2⟩
    | exact i1_mono fun _ _ z => ⟨z.1, Nat.lt_of_lt_of_le z.2.1 (Nat.le_add_right _ _), Nat.le_trans z.2.2.1 (Nat.le_add_right _ _), by rw [shf_A z.2.1 z.2.2.1]; exact hK _ _ _ _ z.2.2.2⟩
    | exact fun z => ⟨Nat.lt_of_lt_of_le z.1 (Nat.le_add_right _ _), Nat.le_trans z.2.1 (Nat.le_add_right _ _), by rw [shf_O z.1 z.2.1]; exact hK _ _ _ _ z.2.2⟩
    | exact gB_mono (hC _ _ _)
    | exact i2_mono fun _ _ _ => gB_mono (hk _ _ _)
    | exact p1_mono fun _ _ => nn_mono fun _ => gB_mono (hk _ _ _)
    | exact p1_mono fun _ _ => nn_mono fun _ z => ⟨z.1, gB_mono (hk _ _ _) z.2⟩
    | exact putf_S fun _ _ q => hK _ _ _ _ q
    | exact i1_mono fun _ _ => hR _
    | exact i1_mono fun _ _ => and2 (hR _)
    | exact l1_mono fun _ _ => hR _
    | exact p1_mono fun _ _ => hR _
    | exact i1_mono fun _ _ H => ⟨fun z => hk _ _ _ (H.1 z), fun j hj z => hk _ _ _ (H.2 j hj z)⟩
    | skip
  all_goals first
    | (split <;> first | exact id | exact gB_mono (hk _ _ _) | exact and2 (hk _ _ _) | exact and2 (and2 (hk _ _ _)) | exact hR _ | exact and2 (hR _) | exact nn_mono fun _ => nn_mono fun _ z => ⟨z.1, z.2.1, z.2.2.1, z.2.2.2.1, hK _ _ _ _ z.2.2.2.2⟩)
/-- a run in less room is a run in more -/
theorem shf_run {d k i : Nat} {st : List V} {ls : Ls} {h : AH} {Q : Option V → AH → Prop} (x y : Nat) (H : wp d k i st ls h Q) : wp d k i st ls (shf h x y) (fun v h' => ∃ h0, Q v h0 ∧ h' = shf h0 x y) := by
  refine H (fun d k i st ls h Q => wp d k i st ls (shf h x y) (fun v h' => ∃ h0, Q v h0 ∧ h' = shf h0 x y)) ?_ ?_
  · intro d k i st ls h Q Q' hQ z
    exact wp_mono _ _ _ _ _ _ _ _ (fun v h' ⟨h0, q1, q2⟩ => ⟨h0, hQ _ _ q1, q2⟩) z
  · intro d k i st ls h Q z
    rw [wp_eq]
    unfold wpStep at z ⊢
    refine insOf_mono (fun ins => stepC_shf (fun i' st' ls' h' q => q) (fun m a r q => ?_) (fun v q => ⟨h, q, rfl⟩)) z
    unfold callP at q ⊢
    split at q
    · exact q.elim
    · exact recOk_S (fun q => wp_mono _ _ _ _ _ _ _ _ (fun v h' ⟨h0, q1, q2⟩ => by rw [q2]; exact q1) q) q
