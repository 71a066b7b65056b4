/-! Where listed names stand -/
theorem rt_adv_q {r : RV} (T : RT r) : qN r ≤ qN (advF r) ∧ (¬ gi r 1451 = -1 → qN r < qN (advF r)) := by
  have a := adv_q T.1
  obtain ⟨⟨p, n, hp, hn', l1, l2⟩, ⟨q, e, l, l3, -⟩, -⟩ := T
  have l' := l
  rw [hp, tn_nI (by omega)] at l'
  have e2 : qN r = q := by unfold qN; rw [e, tn_nI (by omega)]
  refine ⟨by unfold qN at *; omega, fun h => ?_⟩
  have := l3 h
  unfold qN at *
  omega
theorem nl_hi {qc qw qa i lo : Nat} {sep : Int32} (q1 : ¬ qc = qa) (q2 : ¬ qc = 1) (q3 : ¬ qa = 1) : ∀ f n X, RT X → ai X qc i = nI n → n + f = 5 → (∀ j, j < n → lo ≤ tn (ai X qa (4 * i + j)) ∧ tn (ai X qa (4 * i + j)) < qN X) → lo ≤ qN X → (nlF qc qw qa i sep f X).2 = true → ∀ j, j < tn (ai (nlF qc qw qa i sep f X).1 qc i) → lo ≤ tn (ai (nlF qc qw qa i sep f X).1 qa (4 * i + j)) ∧ tn (ai (nlF qc qw qa i sep f X).1 qa (4 * i + j)) < qN (nlF qc qw qa i sep f X).1 := by
  intro f
  induction f with
  | zero => intro n X _ _ _ _ _ z; cases z
  | succ f ih =>
    intro n X T cX hn da lo0 ok
    rw [nlF] at ok ⊢
    by_cases z4 : ai X qc i = 4
    · rw [if_pos z4] at ok; cases ok
    rw [if_neg z4] at ok ⊢
    by_cases zn : okN (advF X) = false
    · rw [if_pos zn] at ok; cases ok
    rw [if_neg zn] at ok ⊢
    have T1 := RT_adv T.1
    have T2 := RT_adv T1.1
    have te : TE (advF (advF X)) (nlS qc qw qa i (namF (advF X))) := by
      rcases nlS_facts (qc := qc) (qw := qw) (qa := qa) (i := i) (X := X) q1 (show n ≤ 4 by omega) cX with z | z | z
      · exact z
      · exact absurd z q2
      · exact absurd z q3
    obtain ⟨c', d'⟩ := nlS_data (qc := qc) (qw := qw) (qa := qa) (i := i) (X := X) q1 (show n ≤ 4 by omega) cX
    have a1 := (rt_adv_q T).1
    have a2 := (rt_adv_q T1).2 (ne_end T1 (okN_ne (bf zn)))
    have a3 := te.q
    have T3 := te.rt T2
    generalize nlS qc qw qa i (namF (advF X)) = Y at *
    have da' : ∀ j, j < n + 1 → lo ≤ tn (ai Y qa (4 * i + j)) ∧ tn (ai Y qa (4 * i + j)) < qN Y := fun j hj => by
      rw [(d' j).2]
      by_cases y : j = n
      · rw [if_pos y]
        have : tn (gi (advF X) 1449) = qN (advF X) := rfl
        omega
      · rw [if_neg y]
        have := da j (by omega)
        omega
    by_cases zs : gi (namF (advF X)) 1451 = sep
    · rw [if_pos zs] at ok ⊢
      exact ih (n + 1) Y T3 c' (by omega) da' (by omega) ok
    · rw [if_neg zs] at ok ⊢
      intro j hj
      have hj : j < tn (ai Y qc i) := hj
      rw [c', tn_nI (by omega)] at hj
      exact da' j hj
