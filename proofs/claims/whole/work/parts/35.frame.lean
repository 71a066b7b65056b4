/-! THE FRAME: a run that holds no pointer into a set of addresses leaves it alone -/
def okV (S : Nat → Prop) (v : V) : Prop := ∀ b, v = vr (some b) → ¬ S b
def okS (S : Nat → Prop) (st : List V) : Prop := ∀ v ∈ st, okV S v
def okL (S : Nat → Prop) (ls : Ls) : Prop := ∀ q ∈ ls, okV S q.2
def NP (S : Nat → Prop) (h : AH) : Prop := (∀ f a b, (¬ S a ∨ 90 ≤ f / 100 % 100) → fP h f a = some b → ¬ S b) ∧ (∀ a i b, ¬ S a → aP h a i = some b → ¬ S b) ∧ ∀ a, tp h ≤ a → ¬ S a
def Fr (S : Nat → Prop) (h h' : AH) : Prop := (∀ a, S a → (∀ f, fI h' f a = fI h f a) ∧ (∀ f, fJ h' f a = fJ h f a) ∧ (∀ f, fP h' f a = fP h f a) ∧ (∀ i, aI h' a i = aI h a i) ∧ (∀ i, aJ h' a i = aJ h a i) ∧ (∀ i, aP h' a i = aP h a i) ∧ tg h' a = tg h a ∧ ln h' a = ln h a) ∧ tp h ≤ tp h'
section FRM
variable {S : Nat → Prop} {h h' h'' : AH} {st r : List V} {ls : Ls} {v : V}
theorem Fr.rf : Fr S h h := ⟨fun _ _ => ⟨fun _ => rfl, fun _ => rfl, fun _ => rfl, fun _ => rfl, fun _ => rfl, fun _ => rfl, rfl, rfl⟩, Nat.le_refl _⟩
theorem Fr.tr (a : Fr S h h') (b : Fr S h' h'') : Fr S h h'' := ⟨fun x hx => by
  obtain ⟨a1, a2, a3, a4, a5, a6, a7, a8⟩ := a.1 x hx
  obtain ⟨b1, b2, b3, b4, b5, b6, b7, b8⟩ := b.1 x hx
  exact ⟨fun f => (b1 f).trans (a1 f), fun f => (b2 f).trans (a2 f), fun f => (b3 f).trans (a3 f), fun f => (b4 f).trans (a4 f), fun f => (b5 f).trans (a5 f), fun f => (b6 f).trans (a6 f), b7.trans a7, b8.trans a8⟩, Nat.le_trans a.2 b.2⟩
theorem ok_i {x : Int32} : okV S (vi x) := fun b e => by cases e
theorem ok_l {x : Int64} : okV S (vl x) := fun b e => by cases e
theorem ok_n : okV S (vr none) := fun b e => by cases e
theorem ok_s {a : Nat} (ha : ¬ S a) : okV S (vr (some a)) := fun b e => by cases e; exact ha
theorem ok_o {o : Option Nat} (ho : ∀ b, o = some b → ¬ S b) : okV S (vr o) := fun b e => ho b (by cases e; rfl)
theorem ok_c (hv : okV S v) (hr : okS S r) : okS S (v :: r) := fun x hx => by
  rcases List.mem_cons.mp hx with rfl | hx
  · exact hv
  · exact hr x hx
theorem ok_h (hr : okS S (v :: r)) : okV S v := hr v List.mem_cons_self
theorem ok_t (hr : okS S (v :: r)) : okS S r := fun x hx => hr x (List.mem_cons_of_mem _ hx)
theorem ok_ld (hl : okL S ls) {i : Nat} (e : ld ls i = some v) : okV S v := hl (i, v) (ld_mem e)
theorem ok_st1 (hl : okL S ls) (hv : okV S v) (i : Nat) : okL S (st1 ls i v) := fun q hq => by
  rcases insL_mem hq with z | z
  · rw [z]; exact hv
  · exact hl q (List.mem_filter.mp z).1
theorem ok_st2 (hl : okL S ls) (hv : okV S v) (i : Nat) : okL S (st2 ls i v) := fun q hq => by
  rcases insL_mem hq with z | z
  · rw [z]; exact hv
  · exact hl q (List.mem_filter.mp z).1
theorem ok_ent : ∀ {st : List V} (i : Nat), okS S st → okL S (ent i st) := by
  intro st
  induction st with
  | nil => intro i _ q hq; cases hq
  | cons v r ih =>
    intro i hs q hq
    rcases List.mem_cons.mp hq with z | z
    · rw [z]; exact ok_h hs
    · exact ih _ (ok_t hs) q z
theorem ok_rev (hs : okS S st) (n : Nat) : okS S (st.take n).reverse := fun x hx => hs x (List.mem_of_mem_take (List.mem_reverse.mp hx))
theorem ok_drop (hs : okS S st) (n : Nat) : okS S (st.drop n) := fun x hx => hs x (List.mem_of_mem_drop hx)
theorem fr_FI {f a : Nat} {x : Int32} (ha : ¬ S a) : Fr S h (setFI h f a x) := ⟨fun b hb => ⟨fun g => by
  show (if g = f ∧ b = a then x else fI h g b) = _
  rw [if_neg (fun z : g = f ∧ b = a => ha (z.2 ▸ hb))], fun _ => rfl, fun _ => rfl, fun _ => rfl, fun _ => rfl, fun _ => rfl, rfl, rfl⟩, Nat.le_refl _⟩
theorem fr_FJ {f a : Nat} {x : Int64} (ha : ¬ S a) : Fr S h (setFJ h f a x) := ⟨fun b hb => ⟨fun _ => rfl, fun g => by
  show (if g = f ∧ b = a then x else fJ h g b) = _
  rw [if_neg (fun z : g = f ∧ b = a => ha (z.2 ▸ hb))], fun _ => rfl, fun _ => rfl, fun _ => rfl, fun _ => rfl, rfl, rfl⟩, Nat.le_refl _⟩
theorem fr_FP {f a : Nat} {x : Option Nat} (ha : ¬ S a) : Fr S h (setFP h f a x) := ⟨fun b hb => ⟨fun _ => rfl, fun _ => rfl, fun g => by
  show (if g = f ∧ b = a then x else fP h g b) = _
  rw [if_neg (fun z : g = f ∧ b = a => ha (z.2 ▸ hb))], fun _ => rfl, fun _ => rfl, fun _ => rfl, rfl, rfl⟩, Nat.le_refl _⟩
theorem fr_AI {a i : Nat} {x : Int32} (ha : ¬ S a) : Fr S h (setAI h a i x) := ⟨fun b hb => ⟨fun _ => rfl, fun _ => rfl, fun _ => rfl, fun j => by
  show (if b = a ∧ j = i then x else aI h b j) = _
  rw [if_neg (fun z : b = a ∧ j = i => ha (z.1 ▸ hb))], fun _ => rfl, fun _ => rfl, rfl, rfl⟩, Nat.le_refl _⟩
theorem fr_AJ {a i : Nat} {x : Int64} (ha : ¬ S a) : Fr S h (setAJ h a i x) := ⟨fun b hb => ⟨fun _ => rfl, fun _ => rfl, fun _ => rfl, fun _ => rfl, fun j => by
  show (if b = a ∧ j = i then x else aJ h b j) = _
  rw [if_neg (fun z : b = a ∧ j = i => ha (z.1 ▸ hb))], fun _ => rfl, rfl, rfl⟩, Nat.le_refl _⟩
theorem fr_AP {a i : Nat} {x : Option Nat} (ha : ¬ S a) : Fr S h (setAP h a i x) := ⟨fun b hb => ⟨fun _ => rfl, fun _ => rfl, fun _ => rfl, fun _ => rfl, fun _ => rfl, fun j => by
  show (if b = a ∧ j = i then x else aP h b j) = _
  rw [if_neg (fun z : b = a ∧ j = i => ha (z.1 ▸ hb))], rfl, rfl⟩, Nat.le_refl _⟩
theorem fr_O {c n : Nat} (hI : NP S h) : Fr S h (newO h c n) := ⟨fun b hb => by
  have ne : ¬ b = tp h := fun e => hI.2.2 b (by rw [e]; exact Nat.le_refl _) hb
  refine ⟨fun g => ?_, fun g => ?_, fun g => ?_, fun _ => rfl, fun _ => rfl, fun _ => rfl, ?_, rfl⟩
  · show (if b = tp h ∧ g / 100 % 100 = c then 0 else fI h g b) = _
    rw [if_neg (fun z => ne z.1)]
  · show (if b = tp h ∧ g / 100 % 100 = c then 0 else fJ h g b) = _
    rw [if_neg (fun z => ne z.1)]
  · show (if b = tp h ∧ g / 100 % 100 = c then none else fP h g b) = _
    rw [if_neg (fun z => ne z.1)]
  · show (if b = tp h then c + 1 else tg h b) = _
    rw [if_neg ne], Nat.le_succ _⟩
theorem fr_A {t n : Nat} (hI : NP S h) : Fr S h (newA h t n) := ⟨fun b hb => by
  have ne : ¬ b = tp h := fun e => hI.2.2 b (by rw [e]; exact Nat.le_refl _) hb
  refine ⟨fun _ => rfl, fun _ => rfl, fun _ => rfl, fun j => ?_, fun j => ?_, fun j => ?_, ?_, ?_⟩
  · show (if b = tp h then 0 else aI h b j) = _
    rw [if_neg ne]
  · show (if b = tp h then 0 else aJ h b j) = _
    rw [if_neg ne]
  · show (if b = tp h then none else aP h b j) = _
    rw [if_neg ne]
  · show (if b = tp h then 100 + t else tg h b) = _
    rw [if_neg ne]
  · show (if b = tp h then n else ln h b) = _
    rw [if_neg ne], Nat.le_succ _⟩
theorem fr_C {a i b j n : Nat} (hb : ¬ S b) : Fr S h (cpyP h a i b j n) := ⟨fun c hc => ⟨fun _ => rfl, fun _ => rfl, fun _ => rfl, fun _ => rfl, fun _ => rfl, fun k => by
  show (if c = b ∧ j ≤ k ∧ k < j + n then aP h a (i + (k - j)) else aP h c k) = _
  rw [if_neg (fun z : c = b ∧ j ≤ k ∧ k < j + n => hb (z.1 ▸ hc))], rfl, rfl⟩, Nat.le_refl _⟩
theorem np_FP {f a : Nat} {x : Option Nat} (hI : NP S h) (hx : ∀ b, x = some b → ¬ S b) : NP S (setFP h f a x) := ⟨fun g c b hc e => by
  have e : (if g = f ∧ c = a then x else fP h g c) = some b := e
  by_cases z : g = f ∧ c = a
  · rw [if_pos z] at e; exact hx b e
  · rw [if_neg z] at e; exact hI.1 g c b hc e, hI.2.1, hI.2.2⟩
theorem np_AP {a i : Nat} {x : Option Nat} (hI : NP S h) (hx : ∀ b, x = some b → ¬ S b) : NP S (setAP h a i x) := ⟨hI.1, fun c j b hc e => by
  have e : (if c = a ∧ j = i then x else aP h c j) = some b := e
  by_cases z : c = a ∧ j = i
  · rw [if_pos z] at e; exact hx b e
  · rw [if_neg z] at e; exact hI.2.1 c j b hc e, hI.2.2⟩
theorem np_O {c n : Nat} (hI : NP S h) : NP S (newO h c n) := ⟨fun g a b hc e => by
  have e : (if a = tp h ∧ g / 100 % 100 = c then none else fP h g a) = some b := e
  by_cases z : a = tp h ∧ g / 100 % 100 = c
  · rw [if_pos z] at e; cases e
  · rw [if_neg z] at e; exact hI.1 g a b hc e, hI.2.1, fun a ha => hI.2.2 a (Nat.le_of_succ_le ha)⟩
theorem np_A {t n : Nat} (hI : NP S h) : NP S (newA h t n) := ⟨hI.1, fun a j b hc e => by
  have e : (if a = tp h then none else aP h a j) = some b := e
  by_cases z : a = tp h
  · rw [if_pos z] at e; cases e
  · rw [if_neg z] at e; exact hI.2.1 a j b hc e, fun a ha => hI.2.2 a (Nat.le_of_succ_le ha)⟩
theorem np_C {a i b j n : Nat} (hI : NP S h) (ha : ¬ S a) : NP S (cpyP h a i b j n) := ⟨hI.1, fun c k d hc e => by
  have e : (if c = b ∧ j ≤ k ∧ k < j + n then aP h a (i + (k - j)) else aP h c k) = some d := e
  by_cases z : c = b ∧ j ≤ k ∧ k < j + n
  · rw [if_pos z] at e; exact hI.2.1 _ _ _ ha e
  · rw [if_neg z] at e; exact hI.2.1 c k d hc e, hI.2.2⟩
theorem ok_getf (hI : NP S h) {f a : Nat} (ha : ¬ S a) : okV S (getf f a h) := by
  unfold getf
  split
  · exact ok_l
  · exact ok_o (fun b e => hI.1 f a b (Or.inl ha) e)
  · exact ok_i
end FRM
section FR2
variable {S : Nat → Prop} {st : List V}
theorem i1_E {k k' : Int32 → List V → Prop} (hs : okS S st) (H : ∀ x r, okS S r → k x r → k' x r) : i1 st k → i1 st k' := by
  unfold i1; split
  · exact H _ _ (ok_t hs)
  · exact id
theorem i2_E {k k' : Int32 → Int32 → List V → Prop} (hs : okS S st) (H : ∀ x y r, okS S r → k x y r → k' x y r) : i2 st k → i2 st k' := by
  unfold i2; split
  · exact H _ _ _ (ok_t (ok_t hs))
  · exact id
theorem l1_E {k k' : Int64 → List V → Prop} (hs : okS S st) (H : ∀ x r, okS S r → k x r → k' x r) : l1 st k → l1 st k' := by
  unfold l1; split
  · exact H _ _ (ok_t hs)
  · exact id
theorem l2_E {k k' : Int64 → Int64 → List V → Prop} (hs : okS S st) (H : ∀ x y r, okS S r → k x y r → k' x y r) : l2 st k → l2 st k' := by
  unfold l2; split
  · exact H _ _ _ (ok_t (ok_t hs))
  · exact id
theorem li_E {k k' : Int64 → Int32 → List V → Prop} (hs : okS S st) (H : ∀ x y r, okS S r → k x y r → k' x y r) : li st k → li st k' := by
  unfold li; split
  · exact H _ _ _ (ok_t (ok_t hs))
  · exact id
theorem p1_E {k k' : Option Nat → List V → Prop} (hs : okS S st) (H : ∀ x r, okV S (vr x) → okS S r → k x r → k' x r) : p1 st k → p1 st k' := by
  unfold p1; split
  · exact H _ _ (ok_h hs) (ok_t hs)
  · exact id
theorem pi_E {k k' : Option Nat → Int32 → List V → Prop} (hs : okS S st) (H : ∀ x y r, okV S (vr x) → okS S r → k x y r → k' x y r) : pi st k → pi st k' := by
  unfold pi; split
  · exact H _ _ _ (ok_h (ok_t hs)) (ok_t (ok_t hs))
  · exact id
theorem nn_E {o : Option Nat} {k k' : Nat → Prop} (ho : okV S (vr o)) (H : ∀ a, ¬ S a → k a → k' a) : nn o k → nn o k' := by
  unfold nn; split
  · exact H _ (ho _ rfl)
  · exact id
theorem ldP_E {ls : Ls} (hl : okL S ls) {i : Nat} {k k' : Option Nat → Prop} (H : ∀ x, okV S (vr x) → k x → k' x) : ldP (ld ls i) k → ldP (ld ls i) k' := by
  unfold ldP; split
  · rename_i e; exact H _ (ok_ld hl e)
  · exact id
end FR2
