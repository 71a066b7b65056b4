/-! Tokens alone: what the class sees of the reference's state -/
def TE (r r' : RV) : Prop := gi r' 1447 = gi r 1447 ∧ gi r' 1448 = gi r 1448 ∧ gi r' 1449 = gi r 1449 ∧ gi r' 1451 = gi r 1451 ∧ gl r' 21450 = gl r 21450 ∧ ai r' 1 = ai r 1
section
variable {r r' r'' : RV}
theorem TE.rf : TE r r := ⟨rfl, rfl, rfl, rfl, rfl, rfl⟩
theorem TE.sy (a : TE r r') : TE r' r := ⟨a.1.symm, a.2.1.symm, a.2.2.1.symm, a.2.2.2.1.symm, a.2.2.2.2.1.symm, a.2.2.2.2.2.symm⟩
theorem TE.tr (a : TE r r') (b : TE r' r'') : TE r r'' := ⟨b.1.trans a.1, b.2.1.trans a.2.1, b.2.2.1.trans a.2.2.1, b.2.2.2.1.trans a.2.2.2.1, b.2.2.2.2.1.trans a.2.2.2.2.1, b.2.2.2.2.2.trans a.2.2.2.2.2⟩
theorem TE_tok (a : TE r r') (t : Nat → Int32) (n q : Nat) : TE (tokP r t n q) (tokP r' t n q) := by
  obtain ⟨-, a2, -, -, -, a6⟩ := a
  unfold tokP
  split
  · exact ⟨rfl, a2, rfl, rfl, rfl, a6⟩
  · split
    · split
      · exact ⟨rfl, a2, rfl, rfl, rfl, a6⟩
      · exact ⟨rfl, a2, rfl, rfl, rfl, a6⟩
    · exact ⟨rfl, a2, rfl, rfl, rfl, a6⟩
theorem TE.adv (a : TE r r') : TE (advF r) (advF r') := by
  have b := a
  obtain ⟨a1, a2, -, -, -, a6⟩ := a
  unfold advF
  rw [a1, a2, a6]
  exact TE_tok b _ _ _
theorem TE_tI {q i : Nat} {v : Int32} (h : ¬ (1 : Nat) = q) : TE r (tI r q i v) := ⟨rfl, rfl, rfl, rfl, rfl, ai_ne h⟩
theorem TE_tL {q i : Nat} {v : Int64} : TE r (tL r q i v) := ⟨rfl, rfl, rfl, rfl, rfl, rfl⟩
theorem TE_sL {f : Nat} {v : Int64} (h : ¬ 21450 = f) : TE r (sL r f v) := ⟨rfl, rfl, rfl, rfl, by rw [gl_sL, if_neg h], rfl⟩
theorem TE_sI {f : Nat} {v : Int32} (h1 : ¬ 1447 = f) (h2 : ¬ 1448 = f) (h3 : ¬ 1449 = f) (h4 : ¬ 1451 = f) : TE r (sI r f v) := ⟨by rw [gi_sI, if_neg h1], by rw [gi_sI, if_neg h2], by rw [gi_sI, if_neg h3], by rw [gi_sI, if_neg h4], rfl, rfl⟩
theorem TE_nam : TE (advF r) (namF r) := TE.adv ((TE_sL (by decide)).tr (TE_sI (by decide) (by decide) (by decide) (by decide)))
theorem TE_rsA : TE r (rsA r) := by
  refine ⟨?_, ?_, ?_, ?_, ?_, ai_rsA (by omega)⟩
  · rw [gi_rsA]
  · rw [gi_rsA]
  · rw [gi_rsA]
  · rw [gi_rsA]
  · rw [gl_rsA]
theorem TE_fai : TE r (faiF r) := TE_sI (by decide) (by decide) (by decide) (by decide)
theorem TE.okN (a : TE r r') : okN r' = okN r := by unfold Jvm.Pilot.CThrowRulesLaw_law_r5179_b2991a.okN; rw [a.2.2.2.2.1]
theorem TE.rt (a : TE r r') (T : RT r) : RT r' := by
  unfold RT PT at T ⊢
  rw [a.1, a.2.1, a.2.2.1, a.2.2.2.1, a.2.2.2.2.1]
  exact T
theorem TE.tkn (a : TE r r') : tkn r' = tkn r := by unfold Jvm.Pilot.CThrowRulesLaw_law_r5179_b2991a.tkn; rw [a.2.2.2.1, a.2.2.2.2.1]
theorem TE.tk {h : AH} {T : Nat} (a : TE r r') (K : TK h T r) : TK h T r' := by
  unfold TK at K ⊢
  rw [a.tkn, a.1, a.2.1, a.2.2.1, a.2.2.2.1, a.2.2.2.2.1, a.2.2.2.2.2]
  exact K
theorem TE.q (a : TE r r') : qN r' = qN r := by unfold qN; rw [a.2.2.1]
theorem tk_kw (T : RT r) {k : Nat} (hk : k < 20) : tkn r = k ↔ gl r 21450 = lN (kwN k) := by
  have nz : ∀ k, k < 20 → ¬ lN (kwN k) = 0 := by decide +kernel
  unfold tkn
  by_cases z : gi r 1451 = 0
  · rw [if_pos z]; exact kwI_is hk
  · rw [if_neg z, T.2.2.2.1 z]
    constructor
    · intro e
      have : ∀ x, 20 ≤ sgT x := fun x => by
        unfold sgT
        repeat' split
        all_goals omega
      have := this (gi r 1451)
      omega
    · intro e; exact absurd e.symm (nz k hk)
theorem tk_name (T : RT r) : tkn r = 27 ↔ okN r = true := by
  unfold tkn okN
  by_cases z : gi r 1451 = 0
  · rw [if_pos z]
    have nz := (T.2.2.1 z).2
    rw [isKw_kwI]
    simp [nz]
  · rw [if_neg z, T.2.2.2.1 z]
    constructor
    · intro e
      unfold sgT at e
      revert e
      repeat' split
      all_goals (intro e; omega)
    · intro e; exact absurd e (by decide)
theorem kwI_le (x : Int64) : kwI x < 20 ∨ kwI x = 27 := by
  unfold kwI
  cases e : ffst (fun k => decide (lN (kwN k) = x)) 20 0 with
  | none => exact Or.inr rfl
  | some k => exact Or.inl (by have := (ffst_some e).2.1; show k < 20; omega)
theorem sgT_cs (x : Int32) : (x = -1 ∧ sgT x = 28) ∨ (x = 123 ∧ sgT x = 20) ∨ (x = 125 ∧ sgT x = 21) ∨ (x = 40 ∧ sgT x = 22) ∨ (x = 41 ∧ sgT x = 23) ∨ (x = 59 ∧ sgT x = 24) ∨ (x = 44 ∧ sgT x = 25) ∨ (x = 124 ∧ sgT x = 26) ∨ sgT x = 29 := by
  by_cases h0 : x = -1
  · exact Or.inl ⟨h0, by rw [h0]; rfl⟩
  by_cases h1 : x = 123
  · exact Or.inr (Or.inl ⟨h1, by rw [h1]; rfl⟩)
  by_cases h2 : x = 125
  · exact Or.inr (Or.inr (Or.inl ⟨h2, by rw [h2]; rfl⟩))
  by_cases h3 : x = 40
  · exact Or.inr (Or.inr (Or.inr (Or.inl ⟨h3, by rw [h3]; rfl⟩)))
  by_cases h4 : x = 41
  · exact Or.inr (Or.inr (Or.inr (Or.inr (Or.inl ⟨h4, by rw [h4]; rfl⟩))))
  by_cases h5 : x = 59
  · exact Or.inr (Or.inr (Or.inr (Or.inr (Or.inr (Or.inl ⟨h5, by rw [h5]; rfl⟩)))))
  by_cases h6 : x = 44
  · exact Or.inr (Or.inr (Or.inr (Or.inr (Or.inr (Or.inr (Or.inl ⟨h6, by rw [h6]; rfl⟩))))))
  by_cases h7 : x = 124
  · exact Or.inr (Or.inr (Or.inr (Or.inr (Or.inr (Or.inr (Or.inr (Or.inl ⟨h7, by rw [h7]; rfl⟩)))))))
  · refine Or.inr (Or.inr (Or.inr (Or.inr (Or.inr (Or.inr (Or.inr (Or.inr ?_)))))))
    unfold sgT
    rw [if_neg h0, if_neg h1, if_neg h2, if_neg h3, if_neg h4, if_neg h5, if_neg h6, if_neg h7]
theorem sg_inj : ∀ c ∈ ([123, 125, 40, 41, 59, 44, 124, -1] : List Int32), ∀ x : Int32, sgT x = sgT c → x = c := by
  intro c hc x h
  simp only [List.mem_cons, List.not_mem_nil, or_false] at hc
  rcases sgT_cs x with ⟨e, f⟩ | ⟨e, f⟩ | ⟨e, f⟩ | ⟨e, f⟩ | ⟨e, f⟩ | ⟨e, f⟩ | ⟨e, f⟩ | ⟨e, f⟩ | f <;> rw [f] at h <;> rcases hc with rfl | rfl | rfl | rfl | rfl | rfl | rfl | rfl <;> first | assumption | exact absurd h (by decide)
theorem tk_sign (T : RT r) {c : Int32} (hc : c ∈ ([123, 125, 40, 41, 59, 44, 124, -1] : List Int32)) : tkn r = sgT c ↔ gi r 1451 = c := by
  have big : ∀ c ∈ ([123, 125, 40, 41, 59, 44, 124, -1] : List Int32), 20 ≤ sgT c ∧ ¬ sgT c = 27 ∧ ¬ c = 0 := by decide
  obtain ⟨b1, b2, b3⟩ := big c hc
  unfold tkn
  by_cases z : gi r 1451 = 0
  · rw [if_pos z]
    have := kwI_le (gl r 21450)
    constructor
    · intro e; omega
    · intro e; rw [z] at e; exact absurd e.symm b3
  · rw [if_neg z]
    exact ⟨sg_inj c hc _, fun e => by rw [e]⟩
end
/-- a token is taken, or the text is wrong here; a wrong text stays as it is -/
def gT (c : Bool) (r : RV) : RV := if gi r 1452 = -1 then (if c then advF r else faiF r) else r
/-- the class's view of the state after a turn -/
def TEW (r r' : RV) : Prop := gi r' 1452 = gi r 1452 ∧ (gi r 1452 = -1 → TE r r') ∧ gi r' 1448 = gi r 1448 ∧ ai r' 1 = ai r 1
section
variable {r r' r'' : RV}
theorem TEW.rf : TEW r r := ⟨rfl, fun _ => TE.rf, rfl, rfl⟩
theorem TEW.tr (a : TEW r r') (b : TEW r' r'') : TEW r r'' := ⟨b.1.trans a.1, fun z => (a.2.1 z).tr (b.2.1 (a.1.trans z)), b.2.2.1.trans a.2.2.1, b.2.2.2.trans a.2.2.2⟩
theorem TEW.of (a : TE r r') (e : gi r' 1452 = gi r 1452) : TEW r r' := ⟨e, fun _ => a, a.2.1, a.2.2.2.2.2⟩
theorem TEW.gT (a : TEW r r') (c : Bool) : TEW (gT c r) (gT c r') := by
  unfold Jvm.Pilot.CThrowRulesLaw_law_r5179_b2991a.gT
  by_cases z : gi r 1452 = -1
  · rw [if_pos z, if_pos (a.1.trans z)]
    have t := a.2.1 z
    cases c with
    | true => exact TEW.of t.adv (by rw [if_pos rfl, if_pos rfl, gi_adv, gi_adv]; exact a.1)
    | false =>
      rw [if_neg Bool.false_ne_true, if_neg Bool.false_ne_true]
      refine TEW.of ((TE_fai.sy.tr t).tr TE_fai) ?_
      unfold faiF
      rw [gi_sI, gi_sI, if_pos rfl, if_pos rfl, if_pos z, if_pos (a.1.trans z)]
      exact t.2.2.1
  · rw [if_neg z, if_neg (fun y => z (a.1.symm.trans y))]
    exact a
theorem gT_t (h : gi r 1452 = -1) : gT true r = advF r := by unfold gT; rw [if_pos h, if_pos rfl]
theorem gT_f (h : gi r 1452 = -1) : gT false r = faiF r := by unfold gT; rw [if_pos h, if_neg Bool.false_ne_true]
theorem gT_w {c : Bool} (h : ¬ gi r 1452 = -1) : gT c r = r := by unfold gT; rw [if_neg h]
theorem fai_w (T : RT r) (h : gi r 1452 = -1) : ¬ gi (faiF r) 1452 = -1 ∧ gi (faiF r) 1452 = gi r 1449 := by
  obtain ⟨⟨p, n, hp, hn, h1, h2⟩, ⟨q, e, l, -⟩, -⟩ := T
  have e2 : gi (faiF r) 1452 = gi r 1449 := by unfold faiF; rw [gi_sI, if_pos rfl, if_pos h]
  rw [hp, tn_nI (by omega)] at l
  rw [e2, e]
  exact ⟨nI_ne_m1 (by omega), rfl⟩
theorem gT_ok {c : Bool} (T : gi r 1452 = -1 → RT r) : gi (gT c r) 1452 = -1 ↔ gi r 1452 = -1 ∧ c = true := by
  by_cases z : gi r 1452 = -1
  · cases c with
    | true => rw [gT_t z, gi_adv]; simp [z]
    | false => rw [gT_f z]; simp [(fai_w (T z) z).1]
  · rw [gT_w z]; simp [z]
theorem gT_rt {c : Bool} (T : gi r 1452 = -1 → RT r) : gi (gT c r) 1452 = -1 → RT (gT c r) := fun h => by
  obtain ⟨z, e⟩ := (gT_ok T).mp h
  rw [e, gT_t z]
  exact RT_adv (T z).1
theorem gT_c (c : Bool) (r : RV) : gi (gT c r) 1448 = gi r 1448 ∧ ai (gT c r) 1 = ai r 1 := by
  unfold gT
  split
  · split
    · rw [gi_adv, ai_adv]; exact ⟨rfl, rfl⟩
    · exact ⟨TE_fai.2.1, rfl⟩
  · exact ⟨rfl, rfl⟩
end
