/-! THE WORLD: what of the machine's heap my heap says -/
/-- classes' numbers and slots; array classes by sort; first new address; the old heap; the script's cell; addresses of old things -/
abbrev Wd : Type := va_G × (Nat → ClassId) × Nat × Heap × Cell × (Nat → Nat)
def VA : V → Value
  | .inl x => .int x
  | .inr (.inl x) => .long x
  | .inr (.inr o) => va_rf o
def VL (ls : Ls) : List (Nat × Value) := ls.map (fun q => (q.1, VA q.2))
def fid (ci : Nat) (T : u_T) (k : Nat) : Nat := kdD (T k).2.2.1 * 10000 + ci * 100 + k
def objV (h : AH) (ci : Nat) (T : u_T) (a k : Nat) : Value := VA (getf (fid ci T k) a h)
def atys (w : Wd) : List (ClassId × FieldType) := [(w.2.1 1, .int), (w.2.1 2, .long), (w.2.1 3, .byte), (w.2.1 4, .boolean), (w.2.1 9, .object "java/lang/Object")]
def arV (h : AH) (t a j : Nat) : Value := if t = 2 then .long (aJ h a j) else if t = 9 then va_rf (aP h a j) else .int (aI h a j)
def arS (t : Nat) : Prop := t = 1 ∨ t = 2 ∨ t = 3 ∨ t = 4 ∨ t = 9
/-- old things by their tags: 70 a text, 152 its bytes, 153 the empty array of lists -/
def oldOk (w : Wd) (h : AH) (a : Nat) : Prop := (tg h a = 70 ∨ tg h a = 152 ∨ tg h a = 153) → a < w.2.2.1
def cellOk (w : Wd) (h : AH) (H : Heap) (a : Nat) : Prop :=
  (∀ ci C T N, tg h a = ci + 1 → vwCl[ci]? = some (C, T, N) → w.2.2.1 ≤ a ∧ t_OB a (w.1.1 ci) N (w.1.2 ci) H (objV h ci T a)) ∧
  (∀ t, arS t → tg h a = 100 + t → w.2.2.1 ≤ a ∧ H[a]? = some (arrV (w.2.1 t) (ln h a) (arV h t a))) ∧
  (tg h a = 151 → a < w.2.2.1 ∧ H[a]? = some w.2.2.2.2.1 ∧ w.2.2.2.2.1.slots.size = ln h a ∧ ∀ j, j < ln h a → w.2.2.2.2.1.slots[j]? = some (.int (aI h a j))) ∧ oldOk w h a
def HR (w : Wd) (h : AH) (H : Heap) : Prop := H.size = tp h ∧ w.2.2.1 ≤ tp h ∧ (∀ q, q < w.2.2.1 → H[q]? = w.2.2.2.1[q]?) ∧ (∀ a, cellOk w h H a) ∧ ∀ a, tp h ≤ a → tg h a = 0
/-- one object's field changes -/
theorem HR_obj {w : Wd} {h h' : AH} {H H' : Heap} {a ci : Nat} {C : String} {T : u_T} {N k : Nat} {v : Value} (hR : HR w h H) (ht : tg h a = ci + 1) (hc : vwCl[ci]? = some (C, T, N)) (hlt : ci < 15)
    (e1 : t_OB a (w.1.1 ci) N (w.1.2 ci) H' (updV (objV h ci T a) k v)) (e2 : H'.size = H.size) (e3 : ∀ q, q ≠ a → H'[q]? = H[q]?) (s1 : tg h' = tg h) (s2 : ln h' = ln h) (s3 : tp h' = tp h)
    (s4 : ∀ j, j < N → updV (objV h ci T a) k v j = objV h' ci T a j) (s5 : ∀ ci T b j, b ≠ a → objV h' ci T b j = objV h ci T b j) (s6 : ∀ t b j, arV h' t b j = arV h t b j) : HR w h' H' := by
  obtain ⟨r1, r2, r3, r4, r5⟩ := hR
  have hba := ((r4 a).1 ci C T N ht hc).1
  refine ⟨by rw [e2, r1, s3], by rw [s3]; exact r2, fun q hq => by rw [e3 q (by omega)]; exact r3 q hq, fun b => ?_, by rw [s1, s3]; exact r5⟩
  obtain ⟨c1, c2, c3, c4⟩ := r4 b
  by_cases hb : b = a
  · subst hb
    refine ⟨fun ci' C' T' N' ht' hc' => ?_, fun t hs ht' => ?_, fun ht' => ?_, fun ht' => ?_⟩
    · rw [s1] at ht'
      have : ci' = ci := by omega
      subst this
      cases hc.symm.trans hc'
      exact ⟨hba, e1.to s4⟩
    · rw [s1] at ht'; exfalso; rcases hs with h | h | h | h | h <;> omega
    · rw [s1] at ht'; omega
    · rw [s1] at ht'; omega
  · refine ⟨fun ci' C' T' N' ht' hc' => ?_, fun t hs ht' => ?_, fun ht' => ?_, fun ht' => ?_⟩
    · rw [s1] at ht'
      obtain ⟨d1, d2⟩ := c1 ci' C' T' N' ht' hc'
      exact ⟨d1, (d2.kept (e3 b hb)).to (fun j _ => (s5 ci' T' b j hb).symm)⟩
    · rw [s1] at ht'
      obtain ⟨d1, d2⟩ := c2 t hs ht'
      refine ⟨d1, ?_⟩
      rw [e3 b hb, d2, s2, show arV h' t b = arV h t b from funext (s6 t b)]
    · rw [s1] at ht'
      obtain ⟨d1, d2, d3, d4⟩ := c3 ht'
      refine ⟨d1, by rw [e3 b hb]; exact d2, by rw [s2]; exact d3, fun j hj => ?_⟩
      rw [s2] at hj
      have e := s6 1 b j
      simp only [arV] at e
      rw [d4 j hj]
      simpa using e.symm
    · rw [s1] at ht'; exact c4 ht'
/-- one array's place changes -/
theorem HR_arr {w : Wd} {h h' : AH} {H H' : Heap} {a t k : Nat} {v : Value} (hR : HR w h H) (hs : arS t) (ht : tg h a = 100 + t)
    (e1 : H'[a]? = some (arrV (w.2.1 t) (ln h a) (updV (arV h t a) k v))) (e2 : H'.size = H.size) (e3 : ∀ q, q ≠ a → H'[q]? = H[q]?) (s1 : tg h' = tg h) (s2 : ln h' = ln h) (s3 : tp h' = tp h)
    (s4 : ∀ j, updV (arV h t a) k v j = arV h' t a j) (s5 : ∀ ci T b j, objV h' ci T b j = objV h ci T b j) (s6 : ∀ t b j, b ≠ a → arV h' t b j = arV h t b j) : HR w h' H' := by
  obtain ⟨r1, r2, r3, r4, r5⟩ := hR
  have hba := ((r4 a).2.1 t hs ht).1
  refine ⟨by rw [e2, r1, s3], by rw [s3]; exact r2, fun q hq => by rw [e3 q (by omega)]; exact r3 q hq, fun b => ?_, by rw [s1, s3]; exact r5⟩
  obtain ⟨c1, c2, c3, c4⟩ := r4 b
  by_cases hb : b = a
  · subst hb
    refine ⟨fun ci' C' T' N' ht' hc' => ?_, fun t' hs' ht' => ?_, fun ht' => ?_, fun ht' => ?_⟩
    · rw [s1] at ht'
      have h15 : ci' < vwCl.length := (List.getElem?_eq_some_iff.mp hc').1
      simp only [vwCl, List.length_cons, List.length_nil] at h15
      exfalso; rcases hs with h | h | h | h | h <;> omega
    · rw [s1] at ht'
      have : t' = t := by omega
      subst this
      refine ⟨hba, ?_⟩
      rw [e1, s2, show updV (arV h t' b) k v = arV h' t' b from funext s4]
    · rw [s1] at ht'; exfalso; rcases hs with h | h | h | h | h <;> omega
    · rw [s1] at ht'; exfalso; rcases hs with h | h | h | h | h <;> omega
  · refine ⟨fun ci' C' T' N' ht' hc' => ?_, fun t' hs' ht' => ?_, fun ht' => ?_, fun ht' => ?_⟩
    · rw [s1] at ht'
      obtain ⟨d1, d2⟩ := c1 ci' C' T' N' ht' hc'
      exact ⟨d1, (d2.kept (e3 b hb)).to (fun j _ => (s5 ci' T' b j).symm)⟩
    · rw [s1] at ht'
      obtain ⟨d1, d2⟩ := c2 t' hs' ht'
      refine ⟨d1, ?_⟩
      rw [e3 b hb, d2, s2, show arV h' t' b = arV h t' b from funext (fun j => s6 t' b j hb)]
    · rw [s1] at ht'
      obtain ⟨d1, d2, d3, d4⟩ := c3 ht'
      refine ⟨d1, by rw [e3 b hb]; exact d2, by rw [s2]; exact d3, fun j hj => ?_⟩
      rw [s2] at hj
      have e := s6 1 b j hb
      simp only [arV] at e
      rw [d4 j hj]
      simpa using e.symm
    · rw [s1] at ht'; exact c4 ht'
/-- something new at the end -/
theorem HR_new {w : Wd} {h h' : AH} {H H' : Heap} (hR : HR w h H) (z1 : H'.size = H.size + 1) (o1 : ∀ q, q < H.size → H'[q]? = H[q]?) (s1 : ∀ b, b ≠ tp h → tg h' b = tg h b) (s2 : ∀ b, b ≠ tp h → ln h' b = ln h b) (s3 : tp h' = tp h + 1)
    (s5 : ∀ ci T b j, b ≠ tp h → objV h' ci T b j = objV h ci T b j) (s6 : ∀ t b j, b ≠ tp h → arV h' t b j = arV h t b j) (hn : cellOk w h' H' (tp h)) : HR w h' H' := by
  obtain ⟨r1, r2, r3, r4, r5⟩ := hR
  refine ⟨by rw [z1, r1, s3], by omega, fun q hq => by rw [o1 q (by omega)]; exact r3 q hq, fun b => ?_, fun b hb => by rw [s1 b (by omega)]; exact r5 b (by omega)⟩
  by_cases hb : b = tp h
  · rw [hb]; exact hn
  · obtain ⟨c1, c2, c3, c4⟩ := r4 b
    have hlt : tg h b ≠ 0 → b < H.size := fun hz => by
      rcases Nat.lt_or_ge b (tp h) with q | q
      · omega
      · exact absurd (r5 b q) hz
    refine ⟨fun ci' C' T' N' ht' hc' => ?_, fun t' hs' ht' => ?_, fun ht' => ?_, fun ht' => ?_⟩
    · rw [s1 b hb] at ht'
      obtain ⟨d1, d2⟩ := c1 ci' C' T' N' ht' hc'
      exact ⟨d1, (d2.kept (o1 b (hlt (by omega)))).to (fun j _ => (s5 ci' T' b j hb).symm)⟩
    · rw [s1 b hb] at ht'
      obtain ⟨d1, d2⟩ := c2 t' hs' ht'
      refine ⟨d1, ?_⟩
      rw [o1 b (hlt (by omega)), d2, s2 b hb, show arV h' t' b = arV h t' b from funext (fun j => s6 t' b j hb)]
    · rw [s1 b hb] at ht'
      obtain ⟨d1, d2, d3, d4⟩ := c3 ht'
      refine ⟨d1, by rw [o1 b (hlt (by omega))]; exact d2, by rw [s2 b hb]; exact d3, fun j hj => ?_⟩
      rw [s2 b hb] at hj
      have e := s6 1 b j hb
      simp only [arV] at e
      rw [d4 j hj]
      simpa using e.symm
    · rw [s1 b hb] at ht'; exact c4 ht'
