/-! THE WORLD: what of the machine's heap my heap says -/
/-- classes' numbers and slots; array classes by sort; first new address; the old heap; the script's cell; addresses of old things -/
abbrev Wd : Type := va_G × (Nat → ClassId) × Nat × Heap × Cell × (Nat → Nat)
def VA : V → Value
  | .inl x => .int x
  | .inr (.inl x) => .long x
  | .inr (.inr o) => va_rf o
def VL (ls : Ls) : List (Nat × Value) := ls.map (fun q => (q.1, VA q.2))
def fid (ci : Nat) (T : u_T) (k : Nat) : Nat := kdD (T k).2.2.1 * 10000 + ci * 100 + k
def objV (h : AH) (ci : Nat) (T : u_T) (a k : Nat) : Value := VA (getf (fid ci T k) a h)
def atys (w : Wd) : List (ClassId × FieldType) := [(w.2.1 1, .int), (w.2.1 2, .long), (w.2.1 3, .byte), (w.2.1 4, .boolean), (w.2.1 9, .object "java/lang/Object")]
def arV (h : AH) (t a j : Nat) : Value := if t = 2 then .long (aJ h a j) else if t = 9 then va_rf (aP h a j) else .int (aI h a j)
def arS (t : Nat) : Prop := t = 1 ∨ t = 2 ∨ t = 3 ∨ t = 4 ∨ t = 9
def lenS : List Nat := [3, 5, 5, 5, 104, 7]
def bytS : List (List Int32) := [[97, 108, 108], [112, 108, 97, 105, 110], [108, 111, 111, 115, 101], [101, 114, 114, 111, 114], [100, 111, 32, 99, 97, 108, 108, 32, 116, 104, 114, 111, 119, 32, 115, 101, 116, 32, 105, 102, 32, 119, 104, 105, 108, 101, 32, 108, 111, 111, 112, 32, 98, 114, 101, 97, 107, 32, 114, 101, 116, 117, 114, 110, 32, 116, 114, 121, 32, 114, 117, 110, 32, 107, 105, 110, 100, 32, 98, 101, 108, 111, 119, 32, 119, 97, 121, 32, 111, 118, 101, 114, 32, 102, 114, 101, 101, 32, 116, 104, 114, 111, 119, 115, 32, 101, 108, 115, 101, 32, 99, 97, 116, 99, 104, 32, 102, 105, 110, 97, 108, 108, 121, 32], [123, 125, 40, 41, 59, 44, 124]]
abbrev bs (w : Wd) : Nat := w.2.2.1
abbrev exA (w : Wd) : Nat → Nat := w.2.2.2.2.2
/-- old things by their tags: 70 a text, 152 its bytes, 153 the empty array of lists -/
def oldOk (w : Wd) (h : AH) (a : Nat) : Prop :=
  (tg h a = 70 → ∃ i, i < 6 ∧ a = exA w i ∧ fP h 36900 a = some (exA w (10 + i)) ∧ fI h 46901 a = 0) ∧
  (fI h 9901 a = 152 → ∃ i, i < 6 ∧ a = exA w (10 + i) ∧ ln h a = lenS.getD i 0 ∧ ∀ j, j < ln h a → aI h a j = (bytS.getD i []).getD j 0) ∧
  (fI h 9901 a = 153 → a = exA w 20 ∧ ln h a = 0) ∧ (tg h a = 70 ∨ fI h 9901 a = 152 ∨ fI h 9901 a = 153 → a < bs w)
def statOk (w : Wd) (h : AH) : Prop := (∀ i, i < 6 → fP h 39800 i = some (exA w i)) ∧ fI h 9900 1 = 1 ∧ fI h 9900 2 = 127 ∧ fP h 39900 50 = some (exA w 20) ∧ fP h 39900 51 = some (exA w 22) ∧ fP h 39900 52 = (if exA w 23 = 0 then none else some (exA w 23 - 1)) ∧ fP h 39900 60 = some (exA w 21)
def cellOk (w : Wd) (h : AH) (H : Heap) (a : Nat) : Prop :=
  (∀ ci C T N, tg h a = ci + 1 → vwCl[ci]? = some (C, T, N) → bs w ≤ a ∧ t_OB a (w.1.1 ci) N (w.1.2 ci) H (objV h ci T a)) ∧
  (∀ t, arS t → tg h a = 100 + t → bs w ≤ a ∧ H[a]? = some (arrV (w.2.1 t) (ln h a) (arV h t a))) ∧
  (tg h a = 151 → a < bs w ∧ H[a]? = some w.2.2.2.2.1 ∧ w.2.2.2.2.1.slots.size = ln h a ∧ ∀ j, j < ln h a → w.2.2.2.2.1.slots[j]? = some (.int (aI h a j))) ∧ oldOk w h a
def HR (w : Wd) (h : AH) (H : Heap) : Prop := H.size = tp h ∧ bs w ≤ tp h ∧ (∀ q, q < bs w → H[q]? = w.2.2.2.1[q]?) ∧ (∀ a, cellOk w h H a) ∧ (∀ a, tp h ≤ a → tg h a = 0) ∧ statOk w h
/-- the fields are the same but at one place -/
def sameF (h h' : AH) (f a : Nat) : Prop := (∀ g b, ¬ (g = f ∧ b = a) → fI h' g b = fI h g b) ∧ (∀ g b, ¬ (g = f ∧ b = a) → fJ h' g b = fJ h g b) ∧ ∀ g b, ¬ (g = f ∧ b = a) → fP h' g b = fP h g b
theorem sameF_getf {h h' : AH} {f a : Nat} (hs : sameF h h' f a) (g b : Nat) (hn : ¬ (g = f ∧ b = a)) : getf g b h' = getf g b h := by
  unfold getf
  rw [hs.1 g b hn, hs.2.1 g b hn, hs.2.2 g b hn]
/-- the arrays are the same but at one address -/
def sameA (h h' : AH) (a : Nat) : Prop := (∀ b j, b ≠ a → aI h' b j = aI h b j) ∧ (∀ b j, b ≠ a → aJ h' b j = aJ h b j) ∧ ∀ b j, b ≠ a → aP h' b j = aP h b j
theorem sameA_arV {h h' : AH} {a : Nat} (hs : sameA h h' a) (t b j : Nat) (hn : b ≠ a) : arV h' t b j = arV h t b j := by
  unfold arV
  rw [hs.1 b j hn, hs.2.1 b j hn, hs.2.2 b j hn]
theorem statOk.keep {w : Wd} {h h' : AH} (hs : statOk w h) (hI : ∀ g b, 90 ≤ g / 100 % 100 → fI h' g b = fI h g b) (hP : ∀ g b, 90 ≤ g / 100 % 100 → fP h' g b = fP h g b) : statOk w h' := by
  obtain ⟨a1, a2, a3, a4, a5, a6, a7⟩ := hs
  refine ⟨fun i hi => ?_, ?_, ?_, ?_, ?_, ?_, ?_⟩
  · rw [hP _ _ (by decide)]; exact a1 i hi
  · rw [hI _ _ (by decide)]; exact a2
  · rw [hI _ _ (by decide)]; exact a3
  · rw [hP _ _ (by decide)]; exact a4
  · rw [hP _ _ (by decide)]; exact a5
  · rw [hP _ _ (by decide)]; exact a6
  · rw [hP _ _ (by decide)]; exact a7
/-- a cell that nothing touches -/
theorem cellOk.keep {w : Wd} {h h' : AH} {H H' : Heap} {b : Nat} (hc : cellOk w h H b) (e : H'[b]? = H[b]?) (s1 : tg h' b = tg h b) (s2 : ln h' b = ln h b) (sI : ∀ g, fI h' g b = fI h g b) (sJ : ∀ g, fJ h' g b = fJ h g b) (sP : ∀ g, fP h' g b = fP h g b) (tI : ∀ j, aI h' b j = aI h b j) (tJ : ∀ j, aJ h' b j = aJ h b j) (tP : ∀ j, aP h' b j = aP h b j) : cellOk w h' H' b := by
  have hg : ∀ g, getf g b h' = getf g b h := fun g => by unfold getf; rw [sI, sJ, sP]
  have ha : ∀ t, arV h' t b = arV h t b := fun t => by funext j; unfold arV; rw [tI, tJ, tP]
  obtain ⟨c1, c2, c3, o1, o2, o3, o4⟩ := hc
  refine ⟨fun ci C T N ht hv => ?_, fun t hs ht => ?_, fun ht => ?_, fun ht => ?_, fun ht => ?_, fun ht => ?_, fun ht => ?_⟩
  · rw [s1] at ht
    obtain ⟨d1, d2⟩ := c1 ci C T N ht hv
    exact ⟨d1, (d2.kept e).to (fun j _ => by unfold objV; rw [hg])⟩
  · rw [s1] at ht
    obtain ⟨d1, d2⟩ := c2 t hs ht
    exact ⟨d1, by rw [e, d2, s2, ha]⟩
  · rw [s1] at ht
    obtain ⟨d1, d2, d3, d4⟩ := c3 ht
    refine ⟨d1, by rw [e]; exact d2, by rw [s2]; exact d3, fun j hj => ?_⟩
    rw [s2] at hj
    rw [tI]; exact d4 j hj
  · rw [s1] at ht
    rw [sP, sI]; exact o1 ht
  · rw [sI] at ht
    obtain ⟨i, d1, d2, d3, d4⟩ := o2 ht
    exact ⟨i, d1, d2, by rw [s2]; exact d3, fun j hj => by rw [s2] at hj; rw [tI]; exact d4 j hj⟩
  · rw [sI] at ht
    rw [s2]; exact o3 ht
  · rw [s1, sI] at ht; exact o4 ht
/-- one object's field changes -/
theorem HR_obj {w : Wd} {h h' : AH} {H H' : Heap} {a ci f : Nat} {C : String} {T : u_T} {N k : Nat} {v : Value} (hR : HR w h H) (ht : tg h a = ci + 1) (hc : vwCl[ci]? = some (C, T, N)) (hlt : ci < 15) (hf : f / 100 % 100 = ci)
    (e1 : t_OB a (w.1.1 ci) N (w.1.2 ci) H' (updV (objV h ci T a) k v)) (e2 : H'.size = H.size) (e3 : ∀ q, q ≠ a → H'[q]? = H[q]?) (s1 : tg h' = tg h) (s2 : ln h' = ln h) (s3 : tp h' = tp h)
    (s4 : ∀ j, j < N → updV (objV h ci T a) k v j = objV h' ci T a j) (s5 : sameF h h' f a) (tI : aI h' = aI h) (tJ : aJ h' = aJ h) (tP : aP h' = aP h) : HR w h' H' := by
  obtain ⟨r1, r2, r3, r4, r5, r6⟩ := hR
  have hba := ((r4 a).1 ci C T N ht hc).1
  refine ⟨by rw [e2, r1, s3], by rw [s3]; exact r2, fun q hq => by rw [e3 q (by omega)]; exact r3 q hq, fun b => ?_, by rw [s1, s3]; exact r5, r6.keep (fun g b hg => s5.1 g b (by omega)) (fun g b hg => s5.2.2 g b (by omega))⟩
  by_cases hb : b = a
  · subst hb
    obtain ⟨-, -, -, -, -, -, o4⟩ := r4 b
    have eI : fI h' 9901 b = fI h 9901 b := s5.1 9901 b (by omega)
    refine ⟨fun ci' C' T' N' ht' hc' => ?_, fun t hs ht' => ?_, fun ht' => ?_, fun ht' => ?_, fun ht' => ?_, fun ht' => ?_, fun ht' => ?_⟩
    · rw [s1] at ht'
      have : ci' = ci := by omega
      subst this
      cases hc.symm.trans hc'
      exact ⟨hba, e1.to s4⟩
    · rw [s1] at ht'; exfalso; rcases hs with h | h | h | h | h <;> omega
    · rw [s1] at ht'; omega
    · rw [s1] at ht'; omega
    · rw [eI] at ht'; exact absurd (o4 (Or.inr (Or.inl ht'))) (by omega)
    · rw [eI] at ht'; exact absurd (o4 (Or.inr (Or.inr ht'))) (by omega)
    · rw [s1, eI] at ht'; exact o4 ht'
  · exact (r4 b).keep (e3 b hb) (by rw [s1]) (by rw [s2]) (fun g => s5.1 g b (fun z => hb z.2)) (fun g => s5.2.1 g b (fun z => hb z.2)) (fun g => s5.2.2 g b (fun z => hb z.2)) (fun j => by rw [tI]) (fun j => by rw [tJ]) (fun j => by rw [tP])
/-- one array's place changes -/
theorem HR_arr {w : Wd} {h h' : AH} {H H' : Heap} {a t : Nat} {f : Nat → Value} (hR : HR w h H) (hs : arS t) (ht : tg h a = 100 + t)
    (e1 : H'[a]? = some (arrV (w.2.1 t) (ln h a) f)) (e2 : H'.size = H.size) (e3 : ∀ q, q ≠ a → H'[q]? = H[q]?) (s1 : tg h' = tg h) (s2 : ln h' = ln h) (s3 : tp h' = tp h)
    (s4 : ∀ j, f j = arV h' t a j) (sI : fI h' = fI h) (sJ : fJ h' = fJ h) (sP : fP h' = fP h) (s6 : sameA h h' a) : HR w h' H' := by
  obtain ⟨r1, r2, r3, r4, r5, r6⟩ := hR
  have hba := ((r4 a).2.1 t hs ht).1
  refine ⟨by rw [e2, r1, s3], by rw [s3]; exact r2, fun q hq => by rw [e3 q (by omega)]; exact r3 q hq, fun b => ?_, by rw [s1, s3]; exact r5, r6.keep (fun g b _ => by rw [sI]) (fun g b _ => by rw [sP])⟩
  by_cases hb : b = a
  · subst hb
    obtain ⟨-, -, -, -, -, -, o4⟩ := r4 b
    refine ⟨fun ci' C' T' N' ht' hc' => ?_, fun t' hs' ht' => ?_, fun ht' => ?_, fun ht' => ?_, fun ht' => ?_, fun ht' => ?_, fun ht' => ?_⟩
    · rw [s1] at ht'
      have h15 : ci' < vwCl.length := (List.getElem?_eq_some_iff.mp hc').1
      simp only [vwCl, List.length_cons, List.length_nil] at h15
      exfalso; rcases hs with h | h | h | h | h <;> omega
    · rw [s1] at ht'
      have : t' = t := by omega
      subst this
      refine ⟨hba, ?_⟩
      rw [e1, s2, show f = arV h' t' b from funext s4]
    · rw [s1] at ht'; exfalso; rcases hs with h | h | h | h | h <;> omega
    · rw [s1] at ht'; exfalso; rcases hs with h | h | h | h | h <;> omega
    · rw [sI] at ht'; exact absurd (o4 (Or.inr (Or.inl ht'))) (by omega)
    · rw [sI] at ht'; exact absurd (o4 (Or.inr (Or.inr ht'))) (by omega)
    · rw [s1, sI] at ht'; exact o4 ht'
  · exact (r4 b).keep (e3 b hb) (by rw [s1]) (by rw [s2]) (fun g => by rw [sI]) (fun g => by rw [sJ]) (fun g => by rw [sP]) (fun j => s6.1 b j hb) (fun j => s6.2.1 b j hb) (fun j => s6.2.2 b j hb)
/-- something new at the end -/
theorem HR_new {w : Wd} {h h' : AH} {H H' : Heap} (hR : HR w h H) (z1 : H'.size = H.size + 1) (o1 : ∀ q, q < H.size → H'[q]? = H[q]?) (s1 : ∀ b, b ≠ tp h → tg h' b = tg h b) (s2 : ∀ b, b ≠ tp h → ln h' b = ln h b) (s3 : tp h' = tp h + 1)
    (sI : ∀ g b, (b ≠ tp h ∨ 90 ≤ g / 100 % 100) → fI h' g b = fI h g b) (sJ : ∀ g b, b ≠ tp h → fJ h' g b = fJ h g b) (sP : ∀ g b, (b ≠ tp h ∨ 90 ≤ g / 100 % 100) → fP h' g b = fP h g b) (s6 : sameA h h' (tp h)) (hn : cellOk w h' H' (tp h)) : HR w h' H' := by
  obtain ⟨r1, r2, r3, r4, r5, r6⟩ := hR
  refine ⟨by rw [z1, r1, s3], by omega, fun q hq => by rw [o1 q (by omega)]; exact r3 q hq, fun b => ?_, fun b hb => by rw [s1 b (by omega)]; exact r5 b (by omega), r6.keep (fun g b hg => sI g b (Or.inr hg)) (fun g b hg => sP g b (Or.inr hg))⟩
  by_cases hb : b = tp h
  · rw [hb]; exact hn
  · rcases Nat.lt_or_ge b (tp h) with q | q
    · exact (r4 b).keep (o1 b (by omega)) (s1 b hb) (s2 b hb) (fun g => sI g b (Or.inl hb)) (fun g => sJ g b hb) (fun g => sP g b (Or.inl hb)) (fun j => s6.1 b j hb) (fun j => s6.2.1 b j hb) (fun j => s6.2.2 b j hb)
    · have hz : tg h' b = 0 := by rw [s1 b hb]; exact r5 b q
      obtain ⟨-, -, -, -, -, -, o4⟩ := r4 b
      have eI : fI h' 9901 b = fI h 9901 b := sI 9901 b (Or.inl hb)
      refine ⟨fun ci C T N ht _ => by omega, fun t hs ht => by omega, fun ht => by omega, fun ht => by omega, fun ht => ?_, fun ht => ?_, fun ht => ?_⟩
      · rw [eI] at ht; exact absurd (o4 (Or.inr (Or.inl ht))) (by omega)
      · rw [eI] at ht; exact absurd (o4 (Or.inr (Or.inr ht))) (by omega)
      · rcases ht with ht | ht
        · omega
        · rw [eI] at ht; exact o4 (Or.inr ht)
