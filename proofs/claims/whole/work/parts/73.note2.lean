/-! note: a mistake comes to its place in the list -/
/-- what note leaves: the list has one key more, in order -/
def MLp (h h' : AH) (e0 L e : Nat) (ks ks' : List Nat) (k : Nat) : Prop := ∃ e', ML h' e0 L e' ks' ∧ leL ks' ∧ ks'.Perm (k :: ks) ∧ FX (EL L e) h h' ∧ (e' = e ∧ tg h e = 109 ∨ tp h ≤ e') ∧ rc h + ln h e ≤ rc h' + ln h' e' + 1 ∧ rs h + 4 * ln h e ≤ rs h' + 4 * ln h' e' + 1 ∧ tp h' ≤ tp h + 2
theorem ML.fx {E : Nat → Nat → Prop} {h h' : AH} {e0 L e : Nat} {ks : List Nat} (a : ML h e0 L e ks) (x : FX E h h') (n1 : ¬ E 30101 L) (n2 : ¬ E 102 L) (n3 : ks.length = 0 ∨ ¬ E 90003 e) (n4 : ∀ y, ¬ E 0 y) : ML h' e0 L e ks := by
  obtain ⟨f, A, B⟩ := a
  refine ⟨f, A.fx x n1 n2 n3, fun i hi => ?_⟩
  obtain ⟨b1, b2⟩ := B i hi
  obtain ⟨-, -, b3⟩ := A.2.2.2.2.2.2.2.2 i hi
  rw [x.tg b3, x.fI b3 (n4 _)]
  exact ⟨b1, b2⟩
section
variable {d : Nat} {h : AH} {Q : Option V → AH → Prop} {e0 L e U : Nat} {ks : List Nat}
theorem u_note (S : STK h e0) (hU : tg h U = 11) (hU2 : U < tp h) (hL : fP h 31003 U = some L) (M : ML h e0 L e ks) (hs : leL ks) (hn : ks.length < 2 ^ 19) (hk : ∀ k, k ∈ ks → k < 2 ^ 31) (r1 : 2 ≤ rc h) (r2 : 2 * ks.length + 11 ≤ rs h) {p c k : Nat} (hp0 : 0 < p) (hp : p < 4096) (hc : c < 16) (hk2 : k < 32)
    (H : ∀ h' ks', MLp h h' e0 L e ks ks' (keyN p c k) → Q none h') : wp (d + 7) K_X8_note 0 [] [(0, vr (some U)), (1, vi (nI c)), (2, vi (nI p)), (3, vi (kI k))] h Q := by
  obtain ⟨f, A, B⟩ := M
  have tL : tg h L = 2 := A.1
  have kl : keyN p c k < 2 ^ 31 := by unfold keyN; omega
  have kg : 127 < keyN p c k := by unfold keyN; omega
  rw [bk_X8_note_0, hL, nn_some, key_bits hp hc hk2]
  generalize keyN p c k = kk at *
  refine ⟨hU, tL, ?_⟩
  rw [l_size A]
  simp only [psh, bk_X8_note_15]
  -- put in at i
  have put : ∀ i, i ≤ ks.length → (∀ j (hj : j < ks.length), j < i → ks[j] ≤ kk) → (∀ j (hj : j < ks.length), i ≤ j → kk ≤ ks[j]) → wp (d + 7) K_X8_note 30 [] [(0, vr (some U)), (1, vi (nI c)), (2, vi (nI p)), (3, vi (kI k)), (4, vi (nI kk)), (5, vi (nI i))] h Q := by
    intro i hi C D
    rw [bk_X8_note_30, hL]
    refine ⟨hU, ?_⟩
    refine i_valueOf S kg kl (by omega) (by omega) (fun h1 e1 => ?_)
    simp only [psh]
    have xO : FX (fun g x => False) h (newO h 0 1) := FX.O (by decide)
    have x1 : FX (fun g x => g = 0 ∧ x = tp h) h h1 := by
      rw [e1]
      exact (xO.mono (fun _ _ z => z.elim)).tr (FX.FI ⟨rfl, rfl⟩)
    have x2 : FX (fun g x => False) h h1 := x1.less (fun g x hx z => by
        rcases hx with hx | hx
        · omega
        · rw [z.1] at hx; exact absurd hx (by decide)) (fun x hx z => absurd z.1 (by decide)) (fun x hx z => absurd z.1 (by decide))
    have t1 : tp h1 = tp h + 1 := by rw [e1]; rfl
    have c1 : rc h1 = rc h - 1 := by rw [e1]; rfl
    have s1 : rs h1 = rs h - 1 := by rw [e1]; rfl
    have g1 : tg h1 (tp h) = 1 := by rw [e1]; show (if tp h = tp h then 0 + 1 else _) = _; rw [if_pos rfl]
    have v1 : fI h1 0 (tp h) = nI kk := by rw [e1]; exact fFI_same _ _ _ _
    have S1 : STK h1 e0 := S.fx x2 (fun _ z => z) (fun _ z => z) (fun _ z => z)
    have A1 : AL h1 e0 L e ks.length f := A.fx x2 (fun z => z) (fun z => z) (Or.inr (fun z => z))
    have U1 : tg h1 U = 11 := by rw [x2.tg hU2]; exact hU
    rw [bk_X8_note_35, nn_some]
    refine ⟨A1.1, ?_⟩
    refine l_addAt S1 A1 (by omega) (by omega) (by omega) hi (y := tp h) (Or.inl g1) (by omega) (fun h2 P2 => ?_)
    simp only [psh, bk_X8_note_36]
    obtain ⟨e', B1, B2, B3, B4, B5, B6⟩ := P2
    have le : ln h1 e = ln h e := x2.ln A.2.2.2.1
    have lt : (ks.take i).length = i := by rw [List.length_take]; omega
    have len : (ks.take i ++ kk :: ks.drop i).length = ks.length + 1 := by
      rw [List.length_append, lt, List.length_cons, List.length_drop]; omega
    refine H h2 (ks.take i ++ kk :: ks.drop i) ⟨e', ⟨insF f i (tp h), by rw [len]; exact B1, fun j hj => ?_⟩, ?_, ?_, (x2.mono (fun _ _ z => z.elim)).tr B2, ?_, by rw [c1, le] at B4; omega, by rw [s1, le] at B5; omega, by omega⟩
    · rw [ins_mid ks i kk hi j hj]
      rw [len] at hj
      obtain ⟨-, -, bt3⟩ := B1.2.2.2.2.2.2.2.2 j hj
      have ob : ∀ y, y < tp h1 → tg h2 y = tg h1 y ∧ fI h2 0 y = fI h1 0 y := fun y hy => ⟨B2.tg hy, B2.fI hy (by
        rintro (⟨-, z | z | z⟩ | ⟨z, -⟩) <;> exact absurd z (by decide))⟩
      unfold insF
      by_cases c1' : j < i
      · rw [if_pos c1', if_pos c1', List.getElem?_eq_getElem (by omega)]
        obtain ⟨q1, q2⟩ := B j (by omega)
        obtain ⟨-, -, q3⟩ := A.2.2.2.2.2.2.2.2 j (by omega)
        obtain ⟨o1, o2⟩ := ob (f j) (by omega)
        rw [o1, o2, x2.tg q3, x2.fI q3 (fun z => z)]
        exact ⟨q1, q2⟩
      · rw [if_neg c1', if_neg c1']
        by_cases c2 : j = i
        · rw [if_pos c2, if_pos c2]
          obtain ⟨o1, o2⟩ := ob (tp h) (by omega)
          rw [o1, o2]
          exact ⟨g1, v1⟩
        · rw [if_neg c2, if_neg c2, List.getElem?_eq_getElem (by omega)]
          obtain ⟨q1, q2⟩ := B (j - 1) (by omega)
          obtain ⟨-, -, q3⟩ := A.2.2.2.2.2.2.2.2 (j - 1) (by omega)
          obtain ⟨o1, o2⟩ := ob (f (j - 1)) (by omega)
          rw [o1, o2, x2.tg q3, x2.fI q3 (fun z => z)]
          exact ⟨q1, q2⟩
    · unfold leL at hs ⊢
      rw [List.pairwise_append, List.pairwise_cons]
      have S2 := hs
      rw [← List.take_append_drop i ks, List.pairwise_append] at S2
      obtain ⟨s1, s2, s3⟩ := S2
      refine ⟨s1, ⟨fun e m => ?_, s2⟩, fun e m f m2 => ?_⟩
      · obtain ⟨j, hj, rfl⟩ := List.mem_iff_getElem.mp m
        rw [List.getElem_drop]
        exact D _ _ (by omega)
      · rcases List.mem_cons.mp m2 with m2 | m2
        · obtain ⟨j, hj, rfl⟩ := List.mem_iff_getElem.mp m
          rw [m2, List.getElem_take]
          rw [lt] at hj
          exact C _ _ hj
        · exact s3 e m f m2
    · have := List.perm_middle (a := kk) (l₁ := ks.take i) (l₂ := ks.drop i)
      rw [List.take_append_drop] at this
      exact this
    · rcases B3 with ⟨q, q2⟩ | q
      · exact Or.inl ⟨q, by rw [← x2.tg A.2.2.2.1]; exact q2⟩
      · exact Or.inr (by omega)
  have L : ∀ i, i ≤ ks.length → (∀ j (hj : j < ks.length), i ≤ j → kk ≤ ks[j]) → wp (d + 7) K_X8_note 16 [] [(0, vr (some U)), (1, vi (nI c)), (2, vi (nI p)), (3, vi (kI k)), (4, vi (nI kk)), (5, vi (nI i))] h Q := by
    intro i
    induction i with
    | zero =>
      intro hi D
      rw [bk_X8_note_16]
      exact ⟨fun _ => put 0 (by omega) (fun j hj z => by omega) D, fun q => absurd (by decide) q⟩
    | succ i ih =>
      intro hi D
      rw [bk_X8_note_16]
      refine ⟨fun q => absurd q (nI_nle (by omega) (by omega)), fun _ => ?_⟩
      rw [bk_X8_note_18, hL, nn_some, nI_pred]
      refine ⟨hU, tL, ?_⟩
      rw [l_get A (by omega) (by omega)]
      obtain ⟨b1, b2⟩ := B i (by omega)
      have bk := hk ks[i] (List.getElem_mem _)
      simp only [psh, bk_X8_note_24]
      refine ⟨fun a e => by cases e; exact b1, ?_⟩
      rw [nn_some, i_intValue b1, b2]
      refine ⟨b1, ?_⟩
      simp only [psh, bk_X8_note_26]
      rw [nI_leI (by omega) (by omega)]
      refine ⟨fun z => ?_, fun z => ?_⟩
      · refine put (i + 1) hi (fun j hj ji => ?_) D
        by_cases q : j = i
        · subst q; exact z
        · have := List.pairwise_iff_getElem.mp hs j i hj (by omega) (by omega)
          omega
      · rw [bk_X8_note_28, pk_m1]
        refine ih (by omega) (fun j hj ji => ?_)
        by_cases q : j = i
        · subst q; omega
        · exact D j hj (by omega)
  exact L ks.length (Nat.le_refl _) (fun j hj z => by omega)
end
