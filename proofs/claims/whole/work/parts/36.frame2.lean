/-! THE FRAME THEOREM -/
theorem putf_E {S : Nat → Prop} {f : Nat} {st : List V} {h : AH} {k k' : AH → List V → Prop} (hI : NP S h) (hs : okS S st) (H : ∀ h' r, Fr S h h' → NP S h' → okS S r → k h' r → k' h' r) : putf f st h k → putf f st h k' := by
  unfold putf; split
  · exact nn_E (ok_h (ok_t hs)) fun _ ha => and2 (H _ _ (fr_FI ha) hI (ok_t (ok_t hs)))
  · exact nn_E (ok_h (ok_t hs)) fun _ ha => and2 (and2 (H _ _ (fr_FI ha) hI (ok_t (ok_t hs))))
  · exact nn_E (ok_h (ok_t hs)) fun _ ha => and2 (H _ _ (fr_FJ ha) hI (ok_t (ok_t hs)))
  · exact nn_E (ok_h (ok_t hs)) fun _ ha => and2 (H _ _ (fr_FP ha) (np_FP hI (fun b e => ok_h hs b (by rw [e]))) (ok_t (ok_t hs)))
  · exact id
set_option maxHeartbeats 4000000 in
theorem stepC_inv {S : Nat → Prop} {ins : ClassFile.Instr} {i : Nat} {st : List V} {ls : Ls} {h : AH} {K K' : Nat → List V → Ls → AH → Prop} {C C' : Nat → List V → List V → Prop} {R R' : Option V → AH → Prop} (hI : NP S h) (hst : okS S st) (hls : okL S ls)
    (hK : ∀ i st' ls' h', Fr S h h' → NP S h' → okS S st' → okL S ls' → K i st' ls' h' → K' i st' ls' h') (hC : ∀ m a r, okS S a → okS S r → C m a r → C' m a r) (hR : ∀ v, (∀ x, v = some x → okV S x) → R v h → R' v h) : stepC ins i st ls h K C R → stepC ins i st ls h K' C' R' := by
  have hP : ∀ {f n : Nat}, 90 ≤ f / 100 % 100 → okV S (vr (fP h f n)) := fun hf => ok_o fun b e => hI.1 _ _ b (Or.inr hf) e
  have hT : okV S (vr (some (tp h))) := ok_s (hI.2.2 _ (Nat.le_refl _))
  unfold stepC
  split
  all_goals first
    | exact id
    | exact hK _ _ _ _ Fr.rf hI (ok_c ok_i hst) hls
    | exact hK _ _ _ _ Fr.rf hI (ok_c ok_l hst) hls
    | exact hK _ _ _ _ Fr.rf hI (ok_c ok_n hst) hls
    | exact hK _ _ _ _ Fr.rf hI (ok_c (hP (by decide)) hst) hls
    | exact hK _ _ _ _ Fr.rf hI hst hls
    | exact bI_mono (hK _ _ _ _ Fr.rf hI (ok_c ok_i hst) hls) (hK _ _ _ _ Fr.rf hI (ok_c (hP (by decide)) hst) hls)
    | exact ldI_mono fun _ => hK _ _ _ _ Fr.rf hI (ok_c ok_i hst) hls
    | exact ldL_mono fun _ => hK _ _ _ _ Fr.rf hI (ok_c ok_l hst) hls
    | exact ldP_E hls fun _ hx => hK _ _ _ _ Fr.rf hI (ok_c hx hst) hls
    | exact i1_E hst fun _ _ hr => hK _ _ _ _ Fr.rf hI hr (ok_st1 hls ok_i _)
    | exact l1_E hst fun _ _ hr => hK _ _ _ _ Fr.rf hI hr (ok_st2 hls ok_l _)
    | exact p1_E hst fun _ _ hx hr => hK _ _ _ _ Fr.rf hI hr (ok_st1 hls hx _)
    | exact ldI_mono fun _ => hK _ _ _ _ Fr.rf hI hst (ok_st1 hls ok_i _)
    | exact i2_E hst fun _ _ _ hr => hK _ _ _ _ Fr.rf hI (ok_c ok_i hr) hls
    | exact i2_E hst fun _ _ _ hr => and2 (hK _ _ _ _ Fr.rf hI (ok_c ok_i hr) hls)
    | exact i2_E hst fun _ _ _ hr => gB_mono (hK _ _ _ _ Fr.rf hI (ok_c ok_i hr) hls)
    | exact l2_E hst fun _ _ _ hr => hK _ _ _ _ Fr.rf hI (ok_c ok_l hr) hls
    | exact l2_E hst fun _ _ _ hr => and2 (hK _ _ _ _ Fr.rf hI (ok_c ok_l hr) hls)
    | exact l2_E hst fun _ _ _ hr => hK _ _ _ _ Fr.rf hI (ok_c ok_i hr) hls
    | exact li_E hst fun _ _ _ hr => hK _ _ _ _ Fr.rf hI (ok_c ok_l hr) hls
    | exact i1_E hst fun _ _ hr => hK _ _ _ _ Fr.rf hI (ok_c ok_l hr) hls
    | exact i1_E hst fun _ _ hr => hK _ _ _ _ Fr.rf hI (ok_c ok_i hr) hls
    | exact l1_E hst fun _ _ hr => hK _ _ _ _ Fr.rf hI (ok_c ok_i hr) hls
    | exact i1_E hst fun _ _ hr => br2 (hK _ _ _ _ Fr.rf hI hr hls) (hK _ _ _ _ Fr.rf hI hr hls)
    | exact i2_E hst fun _ _ _ hr => br2 (hK _ _ _ _ Fr.rf hI hr hls) (hK _ _ _ _ Fr.rf hI hr hls)
    | exact p1_E hst fun _ _ _ hr => p1_E hr fun _ _ _ hr => br2 (hK _ _ _ _ Fr.rf hI hr hls) (hK _ _ _ _ Fr.rf hI hr hls)
    | exact p1_E hst fun _ _ _ hr => br2 (hK _ _ _ _ Fr.rf hI hr hls) (hK _ _ _ _ Fr.rf hI hr hls)
    | exact p1_E hst fun _ _ _ hr => br3 (hK _ _ _ _ Fr.rf hI hr hls) (hK _ _ _ _ Fr.rf hI hr hls)
    | exact i1_E hst fun _ _ hr H => ⟨fun z => hK _ _ _ _ Fr.rf hI hr hls (H.1 z), fun j hj z => hK _ _ _ _ Fr.rf hI hr hls (H.2 j hj z)⟩
    | exact p1_E hst fun _ _ hx hr => nn_E hx fun _ ha => and2 (hK _ _ _ _ Fr.rf hI (ok_c (ok_getf hI ha) hr) hls)
    | exact pi_E hst fun _ _ _ hx hr => nn_E hx fun _ ha => and2 (and2 (hK _ _ _ _ Fr.rf hI (ok_c ok_i hr) hls))
    | exact pi_E hst fun _ _ _ hx hr => nn_E hx fun _ ha => and2 (and2 (hK _ _ _ _ Fr.rf hI (ok_c ok_l hr) hls))
    | exact pi_E hst fun _ _ _ hx hr => nn_E hx fun _ ha => and2 (and2 (hK _ _ _ _ Fr.rf hI (ok_c (ok_o fun b e => hI.2.1 _ _ b ha e) hr) hls))
    | exact i1_E hst fun _ _ hr => pi_E hr fun _ _ _ hx hr => nn_E hx fun _ ha => and2 (and2 (hK _ _ _ _ (fr_AI ha) hI hr hls))
    | exact l1_E hst fun _ _ hr => pi_E hr fun _ _ _ hx hr => nn_E hx fun _ ha => and2 (and2 (hK _ _ _ _ (fr_AJ ha) hI hr hls))
    | exact p1_E hst fun _ _ hv hr => nn_E hv fun _ hx => pi_E hr fun _ _ _ hp hr => nn_E hp fun _ ha => and2 (and2 (and2 (hK _ _ _ _ (fr_AP ha) (np_AP hI (fun b e => by cases e; exact hx)) hr hls)))
    | exact p1_E hst fun _ _ hx hr => nn_E hx fun _ ha => and2 (hK _ _ _ _ Fr.rf hI (ok_c ok_i hr) hls)
    | exact i1_E hst fun _ _ hr => and2 (and2 (and2 (gB_mono (hK _ _ _ _ (fr_A hI) (np_A hI) (ok_c hT hr) hls))))
    | exact i1_E hst fun _ _ hr => and2 (and2 (and2 (hK _ _ _ _ (fr_A hI) (np_A hI) (ok_c hT hr) hls)))
    | exact and2 (and2 (hK _ _ _ _ (fr_O hI) (np_O hI) (ok_c hT hst) hls))
    | exact p1_E hst fun _ _ hx hr => and2 (hK _ _ _ _ Fr.rf hI (ok_c hx hr) hls)
    | exact p1_E hst fun _ _ hx hr => nn_E hx fun _ _ => gB_mono (hK _ _ _ _ Fr.rf hI hr hls)
    | exact gB_mono (hC _ _ _ (ok_rev hst _) (ok_drop hst _))
    | exact p1_E hst fun _ _ hx hr => nn_E hx fun _ _ => and2 (gB_mono (hK _ _ _ _ Fr.rf hI (ok_c (hP (by decide)) hr) hls))
    | exact putf_E hI hst fun _ _ f n o => hK _ _ _ _ f n o hls
    | skip
  all_goals first
    | (split <;> first
      | exact id
      | exact gB_mono (hK _ _ _ _ Fr.rf hI (ok_c (ok_h hst) hst) hls)
      | exact gB_mono (hK _ _ _ _ Fr.rf hI (ok_t hst) hls)
      | exact gB_mono (hK _ _ _ _ Fr.rf hI (ok_c (ok_h hst) (ok_c (ok_h (ok_t hst)) (ok_c (ok_h hst) (ok_t (ok_t hst))))) hls)
      | exact gB_mono (hK _ _ _ _ Fr.rf hI (ok_c (ok_h hst) (ok_c (ok_h (ok_t hst)) hst)) hls)
      | exact hR none (fun x e => nomatch e)
      | exact hR _ (fun x e => by cases e; exact ok_h hst)
      | exact and2 (hR _ (fun x e => by cases e; exact ok_h hst))
      | exact nn_E (ok_h (ok_t (ok_t (ok_t (ok_t hst))))) fun _ ha => nn_E (ok_h (ok_t (ok_t hst))) fun _ hb => and2 (and2 (and2 (and2 (hK _ _ _ _ (fr_C hb) (np_C hI ha) (ok_t (ok_t (ok_t (ok_t (ok_t hst))))) hls)))))
theorem ok_psh {S : Nat → Prop} {v : Option V} {r : List V} (hv : ∀ x, v = some x → okV S x) (hr : okS S r) : okS S (psh v r) := by
  cases v with
  | none => exact hr
  | some x => exact ok_c (hv x rfl) hr
theorem frame0 {S : Nat → Prop} {d k i : Nat} {st : List V} {ls : Ls} {h : AH} {Q : Option V → AH → Prop} (H : wp d k i st ls h Q) : ∀ h0, Fr S h0 h → NP S h → okS S st → okL S ls → wp d k i st ls h (fun v h' => Q v h' ∧ Fr S h0 h' ∧ NP S h' ∧ ∀ x, v = some x → okV S x) := by
  refine H (fun d k i st ls h Q => ∀ h0, Fr S h0 h → NP S h → okS S st → okL S ls → wp d k i st ls h (fun v h' => Q v h' ∧ Fr S h0 h' ∧ NP S h' ∧ ∀ x, v = some x → okV S x)) ?_ ?_
  · intro d k i st ls h Q Q' hQ z h0 a1 a2 a3 a4
    exact wp_mono _ _ _ _ _ _ _ _ (fun v h' q => ⟨hQ _ _ q.1, q.2⟩) (z h0 a1 a2 a3 a4)
  · intro d k i st ls h Q z h0 a1 a2 a3 a4
    rw [wp_eq]
    unfold wpStep at z ⊢
    refine insOf_mono (fun ins => stepC_inv a2 a3 a4 (fun i' st' ls' h' f n os ol y => y h0 (Fr.tr a1 f) n os ol) (fun m a r oa or y => ?_) (fun v ov y => ⟨y, a1, a2, ov⟩)) z
    unfold callP at y ⊢
    split at y
    · exact y.elim
    · exact recOk_mono (fun y => wp_mono _ _ _ _ _ _ _ _ (fun v h' q => q.1 h0 (Fr.tr a1 q.2.1) q.2.2.1 (ok_psh q.2.2.2 or) a4) (y h Fr.rf a2 (fun v hv => by cases hv) (ok_ent 0 oa))) y
/-- a run leaves alone what it holds no pointer into -/
theorem frame {S : Nat → Prop} {d k i : Nat} {st : List V} {ls : Ls} {h : AH} {Q : Option V → AH → Prop} (H : wp d k i st ls h Q) (hI : NP S h) (hst : okS S st) (hls : okL S ls) : wp d k i st ls h (fun v h' => Q v h' ∧ Fr S h h' ∧ NP S h' ∧ ∀ x, v = some x → okV S x) := frame0 H h Fr.rf hI hst hls
