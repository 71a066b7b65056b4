/-! THE START'S HEAP -/
def fnd (g : Nat → Nat) (a : Nat) : Option Nat := (List.range 6).find? (fun i => g i == a)
theorem fnd_some {g : Nat → Nat} {a i : Nat} (h : fnd g a = some i) : i < 6 ∧ g i = a := by
  have h1 := List.find?_some h
  have h2 := List.mem_of_find?_eq_some h
  exact ⟨List.mem_range.mp h2, by simpa using h1⟩
theorem fnd_none {g : Nat → Nat} {a : Nat} (h : fnd g a = none) : ∀ i, i < 6 → g i ≠ a := by
  intro i hi
  have h1 := List.find?_eq_none.mp h i (List.mem_range.mpr hi)
  simpa using h1
theorem fnd_at {g : Nat → Nat} {i : Nat} (hi : i < 6) (hinj : ∀ i j, i < 6 → j < 6 → g i = g j → i = j) : fnd g (g i) = some i := by
  cases h : fnd g (g i) with
  | none => exact absurd rfl (fnd_none h i hi)
  | some j =>
    obtain ⟨hj, e⟩ := fnd_some h
    rw [hinj j i hj hi e]
theorem fnd_no {g : Nat → Nat} {a : Nat} (h : ∀ i, i < 6 → g i ≠ a) : fnd g a = none := by
  cases e : fnd g a with
  | none => rfl
  | some j =>
    obtain ⟨hj, e⟩ := fnd_some e
    exact absurd e (h j hj)
def h0F (b L : Nat) (xs : Nat → Int32) (sz : Nat) (ex : Nat → Nat) : AH :=
  (fun f a => if f = 9900 then (if a = 1 then 1 else if a = 2 then 127 else 0) else if f = 9901 then (match fnd (fun i => ex (10 + i)) a with
    | some _ => 152
    | none => if a = ex 20 then 153 else 0) else 0,
   fun _ _ => 0,
   fun f a => if f = 39800 then (if a < 6 then some (ex a) else none) else if f = 39900 then (if a = 50 then some (ex 20) else if a = 51 then some (ex 22) else if a = 52 then (if ex 23 = 0 then none else some (ex 23 - 1)) else if a = 60 then some (ex 21) else none) else if f = 36900 then (match fnd ex a with
    | some i => some (ex (10 + i))
    | none => none) else none,
   fun a j => match fnd (fun i => ex (10 + i)) a with
    | some k => (bytS.getD k []).getD j 0
    | none => xs j,
   fun _ _ => 0, fun _ _ => none,
   fun a => match fnd ex a with
    | some _ => 70
    | none => if a = b then 151 else 0,
   fun a => match fnd (fun i => ex (10 + i)) a with
    | some k => lenS.getD k 0
    | none => if a = b then L else 0,
   sz, 600000, 7302250)
def Start (h : AH) (b L : Nat) (xs : Nat → Int32) : Prop := ∃ ex : Nat → Nat, (tg h b = 151 ∧ ln h b = L ∧ (∀ j, aI h b j = xs j) ∧ b < tp h) ∧
  (∀ i, i < 6 → fP h 39800 i = some (ex i) ∧ tg h (ex i) = 70 ∧ fP h 36900 (ex i) = some (ex (10 + i)) ∧ fI h 46901 (ex i) = 0 ∧ fI h 9901 (ex (10 + i)) = 152 ∧ ln h (ex (10 + i)) = lenS.getD i 0 ∧ (∀ j, aI h (ex (10 + i)) j = (bytS.getD i []).getD j 0) ∧ ex i < tp h ∧ ex (10 + i) < tp h) ∧
  (fI h 9900 1 = 1 ∧ fI h 9900 2 = 127 ∧ fP h 39900 50 = some (ex 20) ∧ fI h 9901 (ex 20) = 153 ∧ ln h (ex 20) = 0 ∧ ex 20 < tp h ∧ fP h 39900 60 = some (ex 21)) ∧ (∀ a, tp h ≤ a → tg h a = 0) ∧ rc h = 600000 ∧ rs h = 7302250
theorem len_inj : ∀ i, i < 6 → ∀ j, j < 6 → Int32.ofNat (lenS.getD i 0) = Int32.ofNat (lenS.getD j 0) → (bytS.getD i []).getD 0 0 = (bytS.getD j []).getD 0 0 → i = j := by decide +kernel
theorem len_pos : ∀ i, i < 6 → 0 < lenS.getD i 0 := by decide +kernel
theorem kind_ne {s : State} {c : Cell} {t1 t2 : FieldType} (h1 : s.isArrayOf c t1) (h2 : s.isArrayOf c t2) : t1 = t2 := by
  obtain ⟨-, k1, e1, c1, q1⟩ := h1
  obtain ⟨-, k2, e2, c2, q2⟩ := h2
  cases e1.symm.trans e2
  have := q1.symm.trans q2
  injection this
set_option maxHeartbeats 1000000 in
theorem start_ex {s : State} {args : Array Value} {b L : Nat} {xs : Nat → Int32} (hts : ∀ x ∈ lw_tbl, x.before args s = true) (hgv : (Jvm.Cond.and given_1 narrow_1).before args s = true) (hX : va_X b L xs s s.heap) (hbl : b < s.heap.size) :
    ∃ (w : Wd) (h : AH), bs w = s.heap.size ∧ HR w h s.heap ∧ KW w s ∧ Start h b L xs := by
  obtain ⟨ex, hKX⟩ := start_KX hts hgv
  obtain ⟨D, cA, hK⟩ := start_K hts
  obtain ⟨scr, x1, x2, x3, x4, x5⟩ := hX
  have hk := hKX D cA scr
  obtain ⟨⟨k1, k2⟩, -, -, k4, -⟩ := id hk
  have d10 : ∀ i, i < 6 → ex (10 + i) ≠ b := by
    intro i hi e
    obtain ⟨cell, c1, c2, -⟩ := (k1 i hi).2.2.2
    have c1 : s.heap[ex (10 + i)]? = some cell := c1
    rw [e] at c1
    cases x1.symm.trans c1
    cases kind_ne x2 c2
  have d0 : ∀ i, i < 6 → ex i ≠ b := by
    intro i hi e
    obtain ⟨cf, k, fi, f, cell, -, -, c1, -, c2, -⟩ := (k1 i hi).2.2.1
    have c1 : s.heap[ex i]? = some cell := c1
    rw [e] at c1
    cases x1.symm.trans c1
    have hlt : f.slot < scr.slots.size := (Array.getElem?_eq_some_iff.mp c2).1
    rw [x5 f.slot (by omega)] at c2
    cases c2
  have d20 : ex 20 ≠ b := by
    intro e
    obtain ⟨cell, c1, c2, -⟩ := k4
    have c1 : s.heap[ex 20]? = some cell := c1
    rw [e] at c1
    cases x1.symm.trans c1
    cases kind_ne x2 c2
  have d2010 : ∀ i, i < 6 → ex (10 + i) ≠ ex 20 := by
    intro i hi e
    obtain ⟨cell, c1, c2, -⟩ := k4
    obtain ⟨cell2, e1, e2, -⟩ := (k1 i hi).2.2.2
    have c1 : s.heap[ex 20]? = some cell := c1
    have e1 : s.heap[ex (10 + i)]? = some cell2 := e1
    rw [e] at e1
    cases c1.symm.trans e1
    cases kind_ne c2 e2
  have i10 : ∀ i j, i < 6 → j < 6 → ex (10 + i) = ex (10 + j) → i = j := by
    intro i j hi hj e
    obtain ⟨cell, c1, -, -, -, c5, c6, -⟩ := (k1 i hi).2.2.2
    obtain ⟨cell2, e1, -, -, -, e5, e6, -⟩ := (k1 j hj).2.2.2
    have c1 : s.heap[ex (10 + i)]? = some cell := c1
    have e1 : s.heap[ex (10 + j)]? = some cell2 := e1
    rw [e] at c1
    cases c1.symm.trans e1
    have q := (c6 0 (len_pos i hi)).symm.trans (e6 0 (len_pos j hj))
    simp only [Option.some.injEq, Value.int.injEq] at q
    exact len_inj i hi j hj (c5.symm.trans e5) q
  have l0 : ∀ i, i < 6 → ex i < s.heap.size := fun i hi => by
    obtain ⟨-, -, -, -, z⟩ := (k1 i hi).1
    exact Nat.not_le.mp z
  have l10 : ∀ i, i < 6 → ex (10 + i) < s.heap.size := fun i hi => by
    obtain ⟨-, -, -, -, -, -, -, z⟩ := (k1 i hi).2.2.2
    exact Nat.not_le.mp z
  have l20 : ex 20 < s.heap.size := by
    obtain ⟨-, -, -, -, -, -, -, z⟩ := k4
    exact Nat.not_le.mp z
  have tgz : ∀ a, s.heap.size ≤ a → tg (h0F b L xs s.heap.size ex) a = 0 := by
    intro a ha
    show (match fnd ex a with | some _ => 70 | none => if a = b then 151 else 0) = 0
    rw [fnd_no (fun i hi e => by have := l0 i hi; omega)]
    show (if a = b then 151 else 0) = 0
    rw [if_neg (by omega)]
  refine ⟨(D, cA, s.heap.size, s.heap, scr, ex), h0F b L xs s.heap.size ex, rfl, ⟨rfl, Nat.le_refl _, fun _ _ => rfl, fun a => ?_, tgz, ?_⟩, ⟨hK, ⟨fun _ _ _ _ _ _ hm => va_Nw.of rfl (hts _ hm), fun _ _ _ _ hm => va_Nw.of rfl (hts _ hm)⟩, ⟨x2, x3⟩, hk⟩, ex, ⟨?_, ?_, ?_, hbl⟩, fun i hi => ⟨?_, ?_, ?_, rfl, ?_, ?_, ?_, l0 i hi, l10 i hi⟩, ⟨rfl, rfl, rfl, ?_, ?_, l20, rfl⟩, tgz, rfl, rfl⟩
  · have htg : tg (h0F b L xs s.heap.size ex) a = (match fnd ex a with | some _ => 70 | none => if a = b then 151 else 0) := rfl
    have hfl : fI (h0F b L xs s.heap.size ex) 9901 a = (match fnd (fun i => ex (10 + i)) a with | some _ => 152 | none => if a = ex 20 then 153 else 0) := rfl
    have hln : ln (h0F b L xs s.heap.size ex) a = (match fnd (fun i => ex (10 + i)) a with | some k => lenS.getD k 0 | none => if a = b then L else 0) := rfl
    refine ⟨fun ci C T N ht hv => ?_, fun t hs ht => ?_, fun ht => ?_, fun ht => ?_, fun ht => ?_, fun ht => ?_, fun ht => ?_⟩
    · have := (vw_at hv).2
      rw [htg] at ht
      exfalso
      split at ht
      · omega
      · split at ht <;> omega
    · rw [htg] at ht
      exfalso
      split at ht
      · rcases hs with q | q | q | q | q <;> omega
      · split at ht <;> rcases hs with q | q | q | q | q <;> omega
    · rw [htg] at ht
      split at ht
      · omega
      · split at ht
        · rename_i e
          subst e
          have hn : fnd (fun i => ex (10 + i)) a = none := fnd_no d10
          refine ⟨hbl, x1, ?_, fun j hj => ?_⟩
          · rw [hln, hn]
            show scr.slots.size = if a = a then L else 0
            rw [if_pos rfl]
            exact x4
          · rw [hln, hn] at hj
            have hj : j < if a = a then L else 0 := hj
            rw [if_pos rfl] at hj
            have he : aI (h0F a L xs s.heap.size ex) a j = xs j := by
              show (match fnd (fun i => ex (10 + i)) a with | some k => (bytS.getD k []).getD j 0 | none => xs j) = xs j
              rw [hn]
            rw [he]
            exact x5 j hj
        · omega
    · rw [htg] at ht
      split at ht
      · rename_i i e
        obtain ⟨q1, q2⟩ := fnd_some e
        refine ⟨i, q1, q2.symm, ?_, rfl⟩
        show (match fnd ex a with | some i => some (ex (10 + i)) | none => none) = some (ex (10 + i))
        rw [e]
      · split at ht <;> omega
    · rw [hfl] at ht
      split at ht
      · rename_i i e
        obtain ⟨q1, q2⟩ := fnd_some e
        refine ⟨i, q1, q2.symm, ?_, fun j _ => ?_⟩
        · rw [hln, e]
        · show (match fnd (fun i => ex (10 + i)) a with | some k => (bytS.getD k []).getD j 0 | none => xs j) = _
          rw [e]
      · split at ht <;> simp at ht
    · rw [hfl] at ht
      split at ht
      · simp at ht
      · rename_i e
        split at ht
        · rename_i e2
          refine ⟨e2, ?_⟩
          rw [hln, e]
          show (if a = b then L else 0) = 0
          rw [if_neg (by rw [e2]; exact d20)]
        · simp at ht
    · rcases ht with ht | ht | ht
      · rw [htg] at ht
        split at ht
        · rename_i i e
          obtain ⟨q1, q2⟩ := fnd_some e
          rw [← q2]
          exact l0 i q1
        · split at ht <;> omega
      · rw [hfl] at ht
        split at ht
        · rename_i i e
          obtain ⟨q1, q2⟩ := fnd_some e
          rw [← q2]
          exact l10 i q1
        · split at ht <;> simp at ht
      · rw [hfl] at ht
        split at ht
        · simp at ht
        · split at ht
          · rename_i e2
            rw [e2]
            exact l20
          · simp at ht
  · refine ⟨fun i hi => ?_, rfl, rfl, rfl, rfl, rfl, rfl⟩
    show (if i < 6 then some (ex i) else none) = some (ex i)
    rw [if_pos hi]
  · show (match fnd ex b with | some _ => 70 | none => if b = b then 151 else 0) = 151
    rw [fnd_no d0]
    show (if b = b then 151 else 0) = 151
    rw [if_pos rfl]
  · show (match fnd (fun i => ex (10 + i)) b with | some k => lenS.getD k 0 | none => if b = b then L else 0) = L
    rw [fnd_no d10]
    show (if b = b then L else 0) = L
    rw [if_pos rfl]
  · intro j
    show (match fnd (fun i => ex (10 + i)) b with | some k => (bytS.getD k []).getD j 0 | none => xs j) = xs j
    rw [fnd_no d10]
  · show (if i < 6 then some (ex i) else none) = some (ex i)
    rw [if_pos hi]
  · show (match fnd ex (ex i) with | some _ => 70 | none => if ex i = b then 151 else 0) = 70
    rw [fnd_at hi k2]
  · show (match fnd ex (ex i) with | some i => some (ex (10 + i)) | none => none) = some (ex (10 + i))
    rw [fnd_at hi k2]
  · show (match fnd (fun i => ex (10 + i)) (ex (10 + i)) with | some _ => 152 | none => if ex (10 + i) = ex 20 then 153 else 0) = (152 : Int32)
    rw [fnd_at (g := fun i => ex (10 + i)) hi i10]
  · show (match fnd (fun i => ex (10 + i)) (ex (10 + i)) with | some k => lenS.getD k 0 | none => if ex (10 + i) = b then L else 0) = lenS.getD i 0
    rw [fnd_at (g := fun i => ex (10 + i)) hi i10]
  · intro j
    show (match fnd (fun i => ex (10 + i)) (ex (10 + i)) with | some k => (bytS.getD k []).getD j 0 | none => xs j) = _
    rw [fnd_at (g := fun i => ex (10 + i)) hi i10]
  · show (match fnd (fun i => ex (10 + i)) (ex 20) with | some _ => 152 | none => if ex 20 = ex 20 then 153 else 0) = (153 : Int32)
    rw [fnd_no d2010]
    show (if ex 20 = ex 20 then 153 else 0) = (153 : Int32)
    rw [if_pos rfl]
  · show (match fnd (fun i => ex (10 + i)) (ex 20) with | some k => lenS.getD k 0 | none => if ex 20 = b then L else 0) = 0
    rw [fnd_no d2010]
    show (if ex 20 = b then L else 0) = 0
    rw [if_neg d20]
