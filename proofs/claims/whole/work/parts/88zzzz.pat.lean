/-! A run of the reference beside other cells -/
def pat (ar : Nat) (o h : AH) : AH := (fun f a => if a = ar ∧ f / 100 % 100 = 14 then fI h f a else fI o f a, fun f a => if a = ar ∧ f / 100 % 100 = 14 then fJ h f a else fJ o f a, fun f a => if a = ar ∧ f / 100 % 100 = 14 then fP h f a else fP o f a, fun a i => if ar ≤ a ∧ a ≤ ar + 56 then aI h a i else aI o a i, fun a i => if ar ≤ a ∧ a ≤ ar + 56 then aJ h a i else aJ o a i, aP o, tg o, ln o, tp o, rc o, rs o)
/-- not the reference's cells -/
def NRC (ar y : Nat) : Prop := ¬ (ar ≤ y ∧ y ≤ ar + 56)
def refG (f : Nat) : Bool := Nat.beq (f / 100 % 100) 14 && (!(Nat.beq (f / 10000) 3) || refA.any (fun q => Nat.beq q.1 f))
def okQ : ClassFile.Instr → Bool
  | .jsr_w _ => false
  | .getstatic _ => false
  | .monitorenter => false
  | .monitorexit => false
  | .newarray _ => false
  | .anewarray _ => false
  | .new _ => false
  | .aaload => false
  | .aastore => false
  | .checkcast _ => false
  | .getfield f => refG f
  | .putfield f => Nat.beq (f / 100 % 100) 14 && Nat.ble (f / 10000) 2
  | .invokespecial m => Nat.beq m 0 || refM m
  | .invokevirtual m => refM m
  | .invokestatic m => refM m
  | _ => true
theorem okQ_all : ∀ n, n < 242 → 116 ≤ n → n ≤ 192 → (codeN n).all okQ = true := by decide +kernel
/-- the two heaps fit at the reference's cells -/
def AGR (ar : Nat) (o h : AH) : Prop := (∀ x, ar ≤ x → x ≤ ar + 56 → tg o x = tg h x ∧ ln o x = ln h x ∧ fI o 9901 x = fI h 9901 x ∧ (¬ x = ar → ¬ tg h x = 15)) ∧ ∀ q, q ∈ refA → ∀ b, fP h q.1 ar = some b → ar ≤ b ∧ b ≤ ar + 56
section
variable {ar : Nat} {o h : AH}
theorem AGR.x (A : AGR ar o h) {a : Nat} (ha : ¬ NRC ar a) : tg (pat ar o h) a = tg h a ∧ ln (pat ar o h) a = ln h a ∧ fI (pat ar o h) 9901 a = fI h 9901 a ∧ (∀ i, aI (pat ar o h) a i = aI h a i) ∧ (∀ i, aJ (pat ar o h) a i = aJ h a i) ∧ (tg h a = 15 → a = ar) := by
  have ha := Classical.not_not.mp ha
  obtain ⟨x1, x2, x3, x4⟩ := A.1 a ha.1 ha.2
  refine ⟨x1, x2, ?_, fun i => ?_, fun i => ?_, fun z => ?_⟩
  · show (if a = ar ∧ 9901 / 100 % 100 = 14 then fI h 9901 a else fI o 9901 a) = _
    rw [if_neg (fun z => absurd z.2 (by decide))]; exact x3
  · show (if ar ≤ a ∧ a ≤ ar + 56 then aI h a i else aI o a i) = _
    rw [if_pos ha]
  · show (if ar ≤ a ∧ a ≤ ar + 56 then aJ h a i else aJ o a i) = _
    rw [if_pos ha]
  · by_cases c : a = ar
    · exact c
    · exact absurd z (x4 c)
theorem AGR.gf (A : AGR ar o h) {f a : Nat} (ok : refG f = true) (ha : ¬ NRC ar a) (ht : tg h a = f / 100 % 100 + 1) : tg (pat ar o h) a = f / 100 % 100 + 1 ∧ getf f a (pat ar o h) = getf f a h ∧ okV (NRC ar) (getf f a h) := by
  obtain ⟨x1, x2, x3, x4, x5, x6⟩ := A.x ha
  unfold refG at ok
  rw [Bool.and_eq_true] at ok
  have e14 := Nat.eq_of_beq_eq_true ok.1
  have ea : a = ar := x6 (by omega)
  have i1 : fI (pat ar o h) f ar = fI h f ar := if_pos ⟨rfl, e14⟩
  have i2 : fJ (pat ar o h) f ar = fJ h f ar := if_pos ⟨rfl, e14⟩
  have i3 : fP (pat ar o h) f ar = fP h f ar := if_pos ⟨rfl, e14⟩
  refine ⟨by rw [x1]; exact ht, ?_, ?_⟩
  · rw [ea]
    unfold getf
    split
    · rw [i2]
    · rw [i3]
    · rw [i1]
  · rw [ea]
    unfold getf
    split
    · exact ok_l
    · rename_i e3
      refine ok_o (fun b e => ?_)
      have q := ok.2
      rw [Bool.or_eq_true] at q
      rcases q with q | q
      · rw [e3] at q; exact absurd q (by decide)
      · obtain ⟨y, y1, y2⟩ := List.any_eq_true.mp q
        have y2 := Nat.eq_of_beq_eq_true y2
        have := A.2 y y1 b (by rw [y2]; exact e)
        exact fun z => z this
    · exact ok_i
theorem pat_FI {f : Nat} (hf : f / 100 % 100 = 14) (v : Int32) : setFI (pat ar o h) f ar v = pat ar o (setFI h f ar v) := by
  have e : (fun g b => if g = f ∧ b = ar then v else (if b = ar ∧ g / 100 % 100 = 14 then fI h g b else fI o g b)) = (fun g b => if b = ar ∧ g / 100 % 100 = 14 then (if g = f ∧ b = ar then v else fI h g b) else fI o g b) := by
    funext g b
    by_cases c : b = ar ∧ g / 100 % 100 = 14
    · rw [if_pos c, if_pos c]
    · rw [if_neg c, if_neg c, if_neg (fun z => c ⟨z.2, by rw [z.1]; exact hf⟩)]
  show (fun g b => if g = f ∧ b = ar then v else (if b = ar ∧ g / 100 % 100 = 14 then fI h g b else fI o g b), (pat ar o h).2) = (fun g b => if b = ar ∧ g / 100 % 100 = 14 then (if g = f ∧ b = ar then v else fI h g b) else fI o g b, (pat ar o h).2)
  rw [e]
theorem pat_FJ {f : Nat} (hf : f / 100 % 100 = 14) (v : Int64) : setFJ (pat ar o h) f ar v = pat ar o (setFJ h f ar v) := by
  have e : (fun g b => if g = f ∧ b = ar then v else (if b = ar ∧ g / 100 % 100 = 14 then fJ h g b else fJ o g b)) = (fun g b => if b = ar ∧ g / 100 % 100 = 14 then (if g = f ∧ b = ar then v else fJ h g b) else fJ o g b) := by
    funext g b
    by_cases c : b = ar ∧ g / 100 % 100 = 14
    · rw [if_pos c, if_pos c]
    · rw [if_neg c, if_neg c, if_neg (fun z => c ⟨z.2, by rw [z.1]; exact hf⟩)]
  show ((pat ar o h).1, fun g b => if g = f ∧ b = ar then v else (if b = ar ∧ g / 100 % 100 = 14 then fJ h g b else fJ o g b), (pat ar o h).2.2) = ((pat ar o h).1, fun g b => if b = ar ∧ g / 100 % 100 = 14 then (if g = f ∧ b = ar then v else fJ h g b) else fJ o g b, (pat ar o h).2.2)
  rw [e]
theorem pat_AI {a : Nat} (ha : ¬ NRC ar a) (j : Nat) (v : Int32) : setAI (pat ar o h) a j v = pat ar o (setAI h a j v) := by
  have ha := Classical.not_not.mp ha
  have e : (fun b i => if b = a ∧ i = j then v else (if ar ≤ b ∧ b ≤ ar + 56 then aI h b i else aI o b i)) = (fun b i => if ar ≤ b ∧ b ≤ ar + 56 then (if b = a ∧ i = j then v else aI h b i) else aI o b i) := by
    funext b i
    by_cases c : ar ≤ b ∧ b ≤ ar + 56
    · rw [if_pos c, if_pos c]
    · rw [if_neg c, if_neg c, if_neg (fun z => c (by rw [z.1]; exact ha))]
  show ((pat ar o h).1, (pat ar o h).2.1, (pat ar o h).2.2.1, fun b i => if b = a ∧ i = j then v else (if ar ≤ b ∧ b ≤ ar + 56 then aI h b i else aI o b i), (pat ar o h).2.2.2.2) = ((pat ar o h).1, (pat ar o h).2.1, (pat ar o h).2.2.1, fun b i => if ar ≤ b ∧ b ≤ ar + 56 then (if b = a ∧ i = j then v else aI h b i) else aI o b i, (pat ar o h).2.2.2.2)
  rw [e]
theorem pat_AJ {a : Nat} (ha : ¬ NRC ar a) (j : Nat) (v : Int64) : setAJ (pat ar o h) a j v = pat ar o (setAJ h a j v) := by
  have ha := Classical.not_not.mp ha
  have e : (fun b i => if b = a ∧ i = j then v else (if ar ≤ b ∧ b ≤ ar + 56 then aJ h b i else aJ o b i)) = (fun b i => if ar ≤ b ∧ b ≤ ar + 56 then (if b = a ∧ i = j then v else aJ h b i) else aJ o b i) := by
    funext b i
    by_cases c : ar ≤ b ∧ b ≤ ar + 56
    · rw [if_pos c, if_pos c]
    · rw [if_neg c, if_neg c, if_neg (fun z => c (by rw [z.1]; exact ha))]
  show ((pat ar o h).1, (pat ar o h).2.1, (pat ar o h).2.2.1, (pat ar o h).2.2.2.1, fun b i => if b = a ∧ i = j then v else (if ar ≤ b ∧ b ≤ ar + 56 then aJ h b i else aJ o b i), (pat ar o h).2.2.2.2.2) = ((pat ar o h).1, (pat ar o h).2.1, (pat ar o h).2.2.1, (pat ar o h).2.2.2.1, fun b i => if ar ≤ b ∧ b ≤ ar + 56 then (if b = a ∧ i = j then v else aJ h b i) else aJ o b i, (pat ar o h).2.2.2.2.2)
  rw [e]
theorem AGR.FI (A : AGR ar o h) {f : Nat} (hf : f / 100 % 100 = 14) (v : Int32) : AGR ar o (setFI h f ar v) := by
  refine ⟨fun x h1 h2 => ?_, A.2⟩
  obtain ⟨x1, x2, x3, x4⟩ := A.1 x h1 h2
  refine ⟨x1, x2, ?_, x4⟩
  rw [fI_setFI, if_neg (fun y => by rw [← y.1] at hf; exact absurd hf (by decide))]
  exact x3
theorem putf_P {f : Nat} {st : List V} {k k' : AH → List V → Prop} (A : AGR ar o h) (ok : (Nat.beq (f / 100 % 100) 14 && Nat.ble (f / 10000) 2) = true) (hs : okS (NRC ar) st) (H : ∀ h' r, AGR ar o h' → okS (NRC ar) r → k h' r → k' (pat ar o h') r) : putf f st h k → putf f st (pat ar o h) k' := by
  rw [Bool.and_eq_true] at ok
  have e14 := Nat.eq_of_beq_eq_true ok.1
  have l2 := Nat.le_of_ble_eq_true ok.2
  unfold putf; split
  · refine nn_E (ok_h (ok_t hs)) fun a ha z => ?_
    have x := A.x ha
    have ea := x.2.2.2.2.2 (by rw [z.1]; omega)
    rw [ea] at x z ⊢
    refine ⟨by rw [x.1]; exact z.1, ?_⟩
    rw [pat_FI e14]
    exact H _ _ (A.FI e14 _) (ok_t (ok_t hs)) z.2
  · refine nn_E (ok_h (ok_t hs)) fun a ha z => ?_
    have x := A.x ha
    have ea := x.2.2.2.2.2 (by rw [z.1]; omega)
    rw [ea] at x z ⊢
    refine ⟨by rw [x.1]; exact z.1, z.2.1, ?_⟩
    rw [pat_FI e14]
    exact H _ _ (A.FI e14 _) (ok_t (ok_t hs)) z.2.2
  · refine nn_E (ok_h (ok_t hs)) fun a ha z => ?_
    have x := A.x ha
    have ea := x.2.2.2.2.2 (by rw [z.1]; omega)
    rw [ea] at x z ⊢
    refine ⟨by rw [x.1]; exact z.1, ?_⟩
    rw [pat_FJ e14]
    exact H _ _ A (ok_t (ok_t hs)) z.2
  · exfalso
    omega
  · exact id
theorem recOk_P {m : Nat} {args : List V} {X X' : Prop} (A : AGR ar o h) (hs : okS (NRC ar) args) (H : X → X') : recOk m args h X → recOk m args (pat ar o h) X' := by
  unfold recOk
  split
  · exact gB_mono H
  · exact gB_mono (nn_E (ok_h hs) fun a ha z => ⟨by rw [(A.x ha).1]; exact z.1, H z.2⟩)
  · exact id
set_option maxHeartbeats 4000000 in
theorem stepC_pat {ins : ClassFile.Instr} {i : Nat} {st : List V} {ls : Ls} {K K' : Nat → List V → Ls → AH → Prop} {C C' : Nat → List V → List V → Prop} {R R' : Option V → AH → Prop} (A : AGR ar o h) (ok : okQ ins = true) (hst : okS (NRC ar) st) (hls : okL (NRC ar) ls)
    (hK : ∀ i st' ls' h', AGR ar o h' → okS (NRC ar) st' → okL (NRC ar) ls' → K i st' ls' h' → K' i st' ls' (pat ar o h')) (hC : ∀ m a r, refM m = true → okS (NRC ar) a → okS (NRC ar) r → C m a r → C' m a r) (hR : ∀ v, (∀ x, v = some x → okV (NRC ar) x) → R v h → R' v (pat ar o h)) : stepC ins i st ls h K C R → stepC ins i st ls (pat ar o h) K' C' R' := by
  have hk : ∀ i st' ls', okS (NRC ar) st' → okL (NRC ar) ls' → K i st' ls' h → K' i st' ls' (pat ar o h) := fun i st' ls' => hK i st' ls' h A
  unfold stepC
  split
  all_goals first
    | exact id
    | exact fun _ => absurd (show false = true from ok) (by decide)
    | exact hk _ _ _ (ok_c ok_i hst) hls
    | exact hk _ _ _ (ok_c ok_l hst) hls
    | exact hk _ _ _ (ok_c ok_n hst) hls
    | exact hk _ _ _ hst hls
    | exact ldI_mono fun _ => hk _ _ _ (ok_c ok_i hst) hls
    | exact ldL_mono fun _ => hk _ _ _ (ok_c ok_l hst) hls
    | exact ldP_E hls fun _ hx => hk _ _ _ (ok_c hx hst) hls
    | exact i1_E hst fun _ _ hr => hk _ _ _ hr (ok_st1 hls ok_i _)
    | exact l1_E hst fun _ _ hr => hk _ _ _ hr (ok_st2 hls ok_l _)
    | exact p1_E hst fun _ _ hx hr => hk _ _ _ hr (ok_st1 hls hx _)
    | exact ldI_mono fun _ => hk _ _ _ hst (ok_st1 hls ok_i _)
    | exact i2_E hst fun _ _ _ hr => hk _ _ _ (ok_c ok_i hr) hls
    | exact i2_E hst fun _ _ _ hr => and2 (hk _ _ _ (ok_c ok_i hr) hls)
    | exact i2_E hst fun _ _ _ hr => gB_mono (hk _ _ _ (ok_c ok_i hr) hls)
    | exact l2_E hst fun _ _ _ hr => hk _ _ _ (ok_c ok_l hr) hls
    | exact l2_E hst fun _ _ _ hr => and2 (hk _ _ _ (ok_c ok_l hr) hls)
    | exact l2_E hst fun _ _ _ hr => hk _ _ _ (ok_c ok_i hr) hls
    | exact li_E hst fun _ _ _ hr => hk _ _ _ (ok_c ok_l hr) hls
    | exact i1_E hst fun _ _ hr => hk _ _ _ (ok_c ok_l hr) hls
    | exact i1_E hst fun _ _ hr => hk _ _ _ (ok_c ok_i hr) hls
    | exact l1_E hst fun _ _ hr => hk _ _ _ (ok_c ok_i hr) hls
    | exact i1_E hst fun _ _ hr => br2 (hk _ _ _ hr hls) (hk _ _ _ hr hls)
    | exact i2_E hst fun _ _ _ hr => br2 (hk _ _ _ hr hls) (hk _ _ _ hr hls)
    | exact p1_E hst fun _ _ _ hr => p1_E hr fun _ _ _ hr => br2 (hk _ _ _ hr hls) (hk _ _ _ hr hls)
    | exact p1_E hst fun _ _ _ hr => br2 (hk _ _ _ hr hls) (hk _ _ _ hr hls)
    | exact p1_E hst fun _ _ _ hr => br3 (hk _ _ _ hr hls) (hk _ _ _ hr hls)
    | exact i1_E hst fun _ _ hr H => ⟨fun z => hk _ _ _ hr hls (H.1 z), fun j hj z => hk _ _ _ hr hls (H.2 j hj z)⟩
    | exact p1_E hst fun _ _ hx hr => nn_E hx fun _ ha z => ⟨(A.gf ok ha z.1).1, by rw [(A.gf ok ha z.1).2.1]; exact hk _ _ _ (ok_c (A.gf ok ha z.1).2.2 hr) hls z.2⟩
    | exact pi_E hst fun _ _ _ hx hr => nn_E hx fun _ ha z => ⟨by rw [(A.x ha).1]; exact z.1, by rw [(A.x ha).2.1]; exact z.2.1, by rw [(A.x ha).2.2.2.1]; exact hk _ _ _ (ok_c ok_i hr) hls z.2.2⟩
    | exact pi_E hst fun _ _ _ hx hr => nn_E hx fun _ ha z => ⟨by rw [(A.x ha).1, (A.x ha).2.2.1]; exact z.1, by rw [(A.x ha).2.1]; exact z.2.1, by rw [(A.x ha).2.2.2.1]; exact hk _ _ _ (ok_c ok_i hr) hls z.2.2⟩
    | exact pi_E hst fun _ _ _ hx hr => nn_E hx fun _ ha z => ⟨by rw [(A.x ha).1]; exact z.1, by rw [(A.x ha).2.1]; exact z.2.1, by rw [(A.x ha).2.2.2.2.1]; exact hk _ _ _ (ok_c ok_l hr) hls z.2.2⟩
    | exact i1_E hst fun _ _ hr => pi_E hr fun _ _ _ hx hr => nn_E hx fun _ ha z => ⟨by rw [(A.x ha).1]; exact z.1, by rw [(A.x ha).2.1]; exact z.2.1, by rw [pat_AI ha]; exact hK _ _ _ _ A hr hls z.2.2⟩
    | exact l1_E hst fun _ _ hr => pi_E hr fun _ _ _ hx hr => nn_E hx fun _ ha z => ⟨by rw [(A.x ha).1]; exact z.1, by rw [(A.x ha).2.1]; exact z.2.1, by rw [pat_AJ ha]; exact hK _ _ _ _ A hr hls z.2.2⟩
    | exact p1_E hst fun _ _ hx hr => nn_E hx fun _ ha z => ⟨by rw [(A.x ha).1, (A.x ha).2.2.1]; exact z.1, by rw [(A.x ha).2.1]; exact hk _ _ _ (ok_c ok_i hr) hls z.2⟩
    | exact p1_E hst fun _ _ hx hr => nn_E hx fun _ _ => gB_mono (hk _ _ _ hr hls)
    | exact gB_mono (hC _ _ _ ok (ok_rev hst _) (ok_drop hst _))
    | exact gB_mono (hC _ _ _ (by rename_i m x; have ok' : (Nat.beq m 0 || refM m) = true := ok; rcases (Bool.or_eq_true _ _).mp ok' with q | q; exact absurd (Nat.eq_of_beq_eq_true q) x; exact q) (ok_rev hst _) (ok_drop hst _))
    | exact putf_P A ok hst fun _ _ a o => hK _ _ _ _ a o hls
    | skip
  all_goals first
    | (split <;> first
      | exact id
      | exact gB_mono (hk _ _ _ (ok_c (ok_h hst) hst) hls)
      | exact gB_mono (hk _ _ _ (ok_t hst) hls)
      | exact gB_mono (hk _ _ _ (ok_c (ok_h hst) (ok_c (ok_h (ok_t hst)) (ok_c (ok_h hst) (ok_t (ok_t hst))))) hls)
      | exact gB_mono (hk _ _ _ (ok_c (ok_h hst) (ok_c (ok_h (ok_t hst)) hst)) hls)
      | exact hR none (fun x e => nomatch e)
      | exact hR _ (fun x e => by cases e; exact ok_h hst)
      | exact and2 (hR _ (fun x e => by cases e; exact ok_h hst))
      | exact fun _ => absurd (show false = true from ok) (by decide))
theorem pat_run {d k i : Nat} {st : List V} {ls : Ls} {Q : Option V → AH → Prop} (H : wp d k i st ls h Q) (hk : refM k = true) (A : AGR ar o h) (hst : okS (NRC ar) st) (hls : okL (NRC ar) ls) : wp d k i st ls (pat ar o h) (fun v h' => ∃ h1, h' = pat ar o h1 ∧ Q v h1 ∧ AGR ar o h1 ∧ ∀ x, v = some x → okV (NRC ar) x) := by
  refine H (fun d k i st ls h Q => refM k = true → AGR ar o h → okS (NRC ar) st → okL (NRC ar) ls → wp d k i st ls (pat ar o h) (fun v h' => ∃ h1, h' = pat ar o h1 ∧ Q v h1 ∧ AGR ar o h1 ∧ ∀ x, v = some x → okV (NRC ar) x)) ?_ ?_ hk A hst hls
  · intro d k i st ls h Q Q' hQ z a1 a2 a3 a4
    exact wp_mono _ _ _ _ _ _ _ _ (fun v h' ⟨h1, q1, q2, q3⟩ => ⟨h1, q1, hQ _ _ q2, q3⟩) (z a1 a2 a3 a4)
  · intro d k i st ls h Q z a1 a2 a3 a4
    rw [wp_eq]
    unfold wpStep at z ⊢
    unfold insOf at z ⊢
    cases e : (codeOf k)[i]? with
    | none => rw [e] at z; exact z.elim
    | some ins =>
      rw [e] at z
      have oq : okQ ins = true := by
        have m := List.mem_of_getElem? e
        unfold codeOf at m
        have a1' := a1
        unfold refM at a1'
        rw [Bool.and_eq_true] at a1'
        have z1 := Nat.le_of_ble_eq_true a1'.1
        have z2 := Nat.le_of_ble_eq_true a1'.2
        exact List.all_eq_true.mp (okQ_all _ (by omega) z1 z2) ins m
      refine stepC_pat a2 oq a3 a4 (fun i' st' ls' h' f os ol y => y a1 f os ol) (fun m a r om oa or y => ?_) (fun v ov y => ⟨h, rfl, y, a2, ov⟩) z
      unfold callP at y ⊢
      split at y
      · exact y.elim
      · exact recOk_P a2 oa (fun y => wp_mono _ _ _ _ _ _ _ _ (fun v h' ⟨h1, q1, q2, q3, q4⟩ => by rw [q1]; exact q2 a1 q3 (ok_psh q4 or) a4) (y om a2 (fun v hv => by cases hv) (ok_ent 0 oa))) y
end
