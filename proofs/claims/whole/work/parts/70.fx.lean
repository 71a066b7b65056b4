/-! What a run of the class's leaves alone; lists -/
/-- h' is h but for new cells and the exceptions E (field or 90001, 90003 for arrays; address) -/
def FX (E : Nat → Nat → Prop) (h h' : AH) : Prop := tp h ≤ tp h' ∧ (∀ x, x < tp h → tg h' x = tg h x ∧ ln h' x = ln h x) ∧
  (∀ f x, (x < tp h ∨ 90 ≤ f / 100 % 100) → ¬ E f x → fI h' f x = fI h f x ∧ fJ h' f x = fJ h f x ∧ fP h' f x = fP h f x) ∧
  (∀ x, x < tp h → ¬ E 90001 x → ∀ i, aI h' x i = aI h x i ∧ aJ h' x i = aJ h x i) ∧ ∀ x, x < tp h → ¬ E 90003 x → ∀ i, aP h' x i = aP h x i
section
variable {E E' : Nat → Nat → Prop} {h h' h'' : AH}
theorem FX.rf : FX E h h := ⟨Nat.le_refl _, fun _ _ => ⟨rfl, rfl⟩, fun _ _ _ _ => ⟨rfl, rfl, rfl⟩, fun _ _ _ _ => ⟨rfl, rfl⟩, fun _ _ _ _ => rfl⟩
theorem FX.tr (a : FX E h h') (b : FX E h' h'') : FX E h h'' := by
  obtain ⟨a1, a2, a3, a4, a5⟩ := a
  obtain ⟨b1, b2, b3, b4, b5⟩ := b
  refine ⟨Nat.le_trans a1 b1, fun x hx => ?_, fun f x hx he => ?_, fun x hx he i => ?_, fun x hx he i => ?_⟩
  · have := a2 x hx
    have q := b2 x (by omega)
    exact ⟨q.1.trans this.1, q.2.trans this.2⟩
  · have p := a3 f x hx he
    have q := b3 f x (hx.imp (fun z => by omega) id) he
    exact ⟨q.1.trans p.1, q.2.1.trans p.2.1, q.2.2.trans p.2.2⟩
  · have p := a4 x hx he i
    have q := b4 x (by omega) he i
    exact ⟨q.1.trans p.1, q.2.trans p.2⟩
  · exact (b5 x (by omega) he i).trans (a5 x hx he i)
theorem FX.mono (m : ∀ f x, E f x → E' f x) (a : FX E h h') : FX E' h h' := ⟨a.1, a.2.1, fun f x hx he => a.2.2.1 f x hx (fun z => he (m _ _ z)), fun x hx he => a.2.2.2.1 x hx (fun z => he (m _ _ z)), fun x hx he => a.2.2.2.2 x hx (fun z => he (m _ _ z))⟩
/-- the exceptions need only be given where there is something old -/
theorem FX.less (a : FX E h h') (m : ∀ f x, x < tp h ∨ 90 ≤ f / 100 % 100 → E f x → E' f x) (m2 : ∀ x, x < tp h → E 90001 x → E' 90001 x) (m3 : ∀ x, x < tp h → E 90003 x → E' 90003 x) : FX E' h h' := ⟨a.1, a.2.1, fun f x hx he => a.2.2.1 f x hx (fun z => he (m _ _ hx z)), fun x hx he => a.2.2.2.1 x hx (fun z => he (m2 _ hx z)), fun x hx he => a.2.2.2.2 x hx (fun z => he (m3 _ hx z))⟩
theorem FX.FI {f a : Nat} {v : Int32} (he : E f a) : FX E h (setFI h f a v) := ⟨Nat.le_refl _, fun _ _ => ⟨rfl, rfl⟩, fun g x _ ne => ⟨by
  rw [fI_setFI, if_neg]; rintro ⟨rfl, rfl⟩; exact ne he, rfl, rfl⟩, fun _ _ _ _ => ⟨rfl, rfl⟩, fun _ _ _ _ => rfl⟩
theorem FX.FJ {f a : Nat} {v : Int64} (he : E f a) : FX E h (setFJ h f a v) := ⟨Nat.le_refl _, fun _ _ => ⟨rfl, rfl⟩, fun g x _ ne => ⟨rfl, by
  rw [fJ_setFJ, if_neg]; rintro ⟨rfl, rfl⟩; exact ne he, rfl⟩, fun _ _ _ _ => ⟨rfl, rfl⟩, fun _ _ _ _ => rfl⟩
theorem FX.FP {f a : Nat} {v : Option Nat} (he : E f a) : FX E h (setFP h f a v) := ⟨Nat.le_refl _, fun _ _ => ⟨rfl, rfl⟩, fun g x _ ne => ⟨rfl, rfl, by
  show (if g = f ∧ x = a then v else _) = _
  rw [if_neg]; rfl; rintro ⟨rfl, rfl⟩; exact ne he⟩, fun _ _ _ _ => ⟨rfl, rfl⟩, fun _ _ _ _ => rfl⟩
theorem FX.AI {a j : Nat} {v : Int32} (he : E 90001 a) : FX E h (setAI h a j v) := ⟨Nat.le_refl _, fun _ _ => ⟨rfl, rfl⟩, fun g x _ ne => ⟨rfl, rfl, rfl⟩, fun x _ ne i => ⟨by
  rw [aI_setAI, if_neg]; rintro ⟨rfl, -⟩; exact ne he, rfl⟩, fun _ _ _ _ => rfl⟩
theorem FX.AJ {a j : Nat} {v : Int64} (he : E 90001 a) : FX E h (setAJ h a j v) := ⟨Nat.le_refl _, fun _ _ => ⟨rfl, rfl⟩, fun g x _ ne => ⟨rfl, rfl, rfl⟩, fun x _ ne i => ⟨rfl, by
  rw [aJ_setAJ, if_neg]; rintro ⟨rfl, -⟩; exact ne he⟩, fun _ _ _ _ => rfl⟩
theorem FX.AP {a j : Nat} {v : Option Nat} (he : E 90003 a) : FX E h (setAP h a j v) := ⟨Nat.le_refl _, fun _ _ => ⟨rfl, rfl⟩, fun g x _ ne => ⟨rfl, rfl, rfl⟩, fun x _ ne i => ⟨rfl, rfl⟩, fun x _ ne i => by
  show (if x = a ∧ i = j then v else _) = _
  rw [if_neg]; rfl; rintro ⟨rfl, -⟩; exact ne he⟩
theorem FX.C {a i b j n : Nat} (he : E 90003 b) : FX E h (cpyP h a i b j n) := ⟨Nat.le_refl _, fun _ _ => ⟨rfl, rfl⟩, fun g x _ ne => ⟨rfl, rfl, rfl⟩, fun x _ ne i => ⟨rfl, rfl⟩, fun x _ ne k => by
  show (if x = b ∧ j ≤ k ∧ k < j + n then _ else _) = _
  rw [if_neg]
  rintro ⟨rfl, -⟩; exact ne he⟩
theorem FX.O {c n : Nat} (hc : c < 90) : FX E h (newO h c n) := ⟨Nat.le_succ _, fun x hx => ⟨by
    show (if x = tp h then c + 1 else tg h x) = _
    rw [if_neg (by omega)], rfl⟩, fun g x hx ne => ⟨by
    show (if x = tp h ∧ g / 100 % 100 = c then 0 else fI h g x) = _
    rw [if_neg (by omega)], by
    show (if x = tp h ∧ g / 100 % 100 = c then 0 else fJ h g x) = _
    rw [if_neg (by omega)], by
    show (if x = tp h ∧ g / 100 % 100 = c then none else fP h g x) = _
    rw [if_neg (by omega)]⟩, fun x _ ne i => ⟨rfl, rfl⟩, fun x _ ne i => rfl⟩
theorem FX.A {t n : Nat} : FX E h (newA h t n) := ⟨Nat.le_succ _, fun x hx => ⟨by
    show (if x = tp h then 100 + t else tg h x) = _
    rw [if_neg (by omega)], by
    show (if x = tp h then n else ln h x) = _
    rw [if_neg (by omega)]⟩, fun g x hx ne => ⟨rfl, rfl, rfl⟩, fun x hx ne i => ⟨by
    show (if x = tp h then 0 else aI h x i) = _
    rw [if_neg (by omega)], by
    show (if x = tp h then 0 else aJ h x i) = _
    rw [if_neg (by omega)]⟩, fun x hx ne i => by
    show (if x = tp h then none else aP h x i) = _
    rw [if_neg (by omega)]⟩
theorem FX.tg (a : FX E h h') {x : Nat} (hx : x < tp h) : tg h' x = tg h x := (a.2.1 x hx).1
theorem FX.ln (a : FX E h h') {x : Nat} (hx : x < tp h) : ln h' x = ln h x := (a.2.1 x hx).2
theorem FX.fI (a : FX E h h') {f x : Nat} (hx : x < tp h) (ne : ¬ E f x) : fI h' f x = fI h f x := (a.2.2.1 f x (Or.inl hx) ne).1
theorem FX.fJ (a : FX E h h') {f x : Nat} (hx : x < tp h) (ne : ¬ E f x) : fJ h' f x = fJ h f x := (a.2.2.1 f x (Or.inl hx) ne).2.1
theorem FX.fP (a : FX E h h') {f x : Nat} (hx : x < tp h) (ne : ¬ E f x) : fP h' f x = fP h f x := (a.2.2.1 f x (Or.inl hx) ne).2.2
theorem FX.aI (a : FX E h h') {x : Nat} (hx : x < tp h) (ne : ¬ E 90001 x) (i : Nat) : aI h' x i = aI h x i := (a.2.2.2.1 x hx ne i).1
theorem FX.aJ (a : FX E h h') {x : Nat} (hx : x < tp h) (ne : ¬ E 90001 x) (i : Nat) : aJ h' x i = aJ h x i := (a.2.2.2.1 x hx ne i).2
theorem FX.aP (a : FX E h h') {x : Nat} (hx : x < tp h) (ne : ¬ E 90003 x) (i : Nat) : aP h' x i = aP h x i := a.2.2.2.2 x hx ne i
end
/-- old things: the empty array of lists, its class, the ints that are kept -/
def STK (h : AH) (e0 : Nat) : Prop := fP h 39900 50 = some e0 ∧ fI h 9901 e0 = 153 ∧ ln h e0 = 0 ∧ e0 < tp h ∧ fI h 9900 2 = 127 ∧ ∃ k, fP h 39900 60 = some k
theorem STK.fx {E : Nat → Nat → Prop} {h h' : AH} {e0 : Nat} (s : STK h e0) (a : FX E h h') (n1 : ∀ x, ¬ E 39900 x) (n2 : ∀ x, ¬ E 9900 x) (n3 : ∀ x, ¬ E 9901 x) : STK h' e0 := by
  obtain ⟨s1, s2, s3, s4, s5, k, s6⟩ := s
  refine ⟨?_, ?_, ?_, Nat.lt_of_lt_of_le s4 a.1, ?_, k, ?_⟩
  · rw [(a.2.2.1 39900 50 (Or.inr (by decide)) (n1 _)).2.2]; exact s1
  · rw [(a.2.2.1 9901 e0 (Or.inr (by decide)) (n3 _)).1]; exact s2
  · rw [a.ln s4]; exact s3
  · rw [(a.2.2.1 9900 2 (Or.inr (by decide)) (n2 _)).1]; exact s5
  · rw [(a.2.2.1 39900 60 (Or.inr (by decide)) (n1 _)).2.2]; exact s6
/-- tags that may stand in lists: ints, statements, methods -/
def lTg (t : Nat) : Prop := t = 1 ∨ t = 9 ∨ t = 13
/-- L is a list: its array e, n things, the i-th at f i -/
def AL (h : AH) (e0 L e n : Nat) (f : Nat → Nat) : Prop := tg h L = 2 ∧ L < tp h ∧ fP h 30101 L = some e ∧ e < tp h ∧ fI h 102 L = nI n ∧ n ≤ ln h e ∧ ln h e ≤ 2 * n + 10 ∧ (tg h e = 109 ∧ 10 ≤ ln h e ∨ e = e0 ∧ n = 0) ∧ ∀ i, i < n → aP h e i = some (f i) ∧ lTg (tg h (f i)) ∧ f i < tp h
theorem AL.fx {E : Nat → Nat → Prop} {h h' : AH} {e0 L e n : Nat} {f : Nat → Nat} (a : AL h e0 L e n f) (x : FX E h h') (n1 : ¬ E 30101 L) (n2 : ¬ E 102 L) (n3 : n = 0 ∨ ¬ E 90003 e) : AL h' e0 L e n f := by
  obtain ⟨a1, a2, a3, a4, a5, a6, a7, a8, a9⟩ := a
  refine ⟨?_, Nat.lt_of_lt_of_le a2 x.1, ?_, Nat.lt_of_lt_of_le a4 x.1, ?_, ?_, ?_, ?_, fun i hi => ?_⟩
  · rw [x.tg a2]; exact a1
  · rw [x.fP a2 n1]; exact a3
  · rw [x.fI a2 n2]; exact a5
  · rw [x.ln a4]; exact a6
  · rw [x.ln a4]; exact a7
  · rw [x.tg a4, x.ln a4]; exact a8
  · obtain ⟨b1, b2, b3⟩ := a9 i hi
    rcases n3 with q | q
    · omega
    · refine ⟨?_, ?_, Nat.lt_of_lt_of_le b3 x.1⟩
      · rw [x.aP a4 q]; exact b1
      · rw [x.tg b3]; exact b2
def EL (L e : Nat) (g x : Nat) : Prop := (x = L ∧ (g = 100 ∨ g = 102 ∨ g = 30101)) ∨ (g = 90003 ∧ x = e)
/-- one thing more in a list -/
def ALp (h h' : AH) (e0 L e n : Nat) (f : Nat → Nat) : Prop := ∃ e', AL h' e0 L e' (n + 1) f ∧ FX (EL L e) h h' ∧ (e' = e ∧ tg h e = 109 ∨ e' = tp h) ∧ rc h + ln h e ≤ rc h' + ln h' e' ∧ rs h + 4 * ln h e ≤ rs h' + 4 * ln h' e' ∧ tp h' ≤ tp h + 1
section
variable {d : Nat} {h : AH} {Q : Option V → AH → Prop} {e0 L e n : Nat} {f : Nat → Nat}
theorem l_size (A : AL h e0 L e n f) : wp d K_Jx4a65c_size_8abf5 0 [] [(0, vr (some L))] h Q = Q (some (vi (nI n))) h := by
  rw [bk_Jx4a65c_size_8abf5_0, A.2.2.2.2.1]
  exact propext (and_iff_right A.1)
theorem l_get (A : AL h e0 L e n f) {i : Nat} (hi : i < n) (hn : n < 2 ^ 20) : wp (d + 2) K_Jx4a65c_get_915e3 0 [] [(0, vr (some L)), (1, vi (nI i))] h Q = Q (some (vr (some (f i)))) h := by
  obtain ⟨a1, a2, a3, a4, a5, a6, a7, a8, a9⟩ := A
  have t9 : tg h e = 109 := by
    rcases a8 with q | q
    · exact q.1
    · omega
  rw [bk_Jx4a65c_get_915e3_0, a5, bk_J15_checkIndex_7cf53_0, bk_J3_checkIndex_8e157_0, bk_J3_checkIndex_8e157_2, bk_J3_checkIndex_8e157_10]
  simp (disch := omega) only [nI_pos, nI_clamp, nI_leI, nI_ltI, nI_eq, nI_add, pk_mul, vp_in_nI, nI_1, true_and, and_true, true_implies, implies_true, not_true_eq_false, not_false_eq_true, false_implies, psh, nn_some, forall_const, hi, bk_J15_checkIndex_7cf53_4, bk_Jx4a65c_get_915e3_4, bk_Jx4a65c_elementData_915e3_0, a1, a3, t9, bk_Jx4a65c_get_915e3_8]
  rw [(a9 i hi).1]
end
