/-! One turn of the reading keeps the invariant -/
theorem ow_turn {r : RV} (P : PRE r) : OW (AT r) r (stpF r) := by
  obtain ⟨-, -, -, C, S⟩ := P
  unfold stpF
  by_cases d0 : gi r 1455 = 0
  · rw [if_pos d0]
    split
    · rename_i z; exact ow_rk d0 z
    · split
      · rename_i z; exact ow_rm d0 z
      · exact OW.rf.fai
  · rw [if_neg d0]
    by_cases g : gi r 1451 = 125
    · rw [if_pos g]
      obtain ⟨-, -, -, -, c⟩ := C d0 g
      refine ow_cl d0 g (fun n0 => ?_)
      rcases c with c | ⟨-, -, c1, c2⟩
      · exact absurd c n0
      · exact ⟨c1, c2⟩
    · rw [if_neg g]
      exact ow_rs d0 g
/-- how many of the open blocks a turn keeps -/
def HKK (r : RV) (k : Nat) : Prop := (k = dN r ∧ (gi r 1455 = 0 ∨ ¬ gi r 1451 = 125)) ∨ (k + 1 = dN r ∧ gi r 1451 = 125)
/-- what a turn does to the open blocks -/
def OST (r r' : RV) : Prop := gi r' 1402 = gi r 1402 ∧ gi r' 1448 = gi r 1448 ∧ qN r < qN r' ∧ (rsN r ≤ rsN r' ∧ rsN r' ≤ rsN r + 1) ∧ ∃ k, HKK r k ∧ ((dN r' = k ∧ ai r' 46 = ai r 46 ∧ nbN r' = nbN r) ∨ (dN r' = k + 1 ∧ (∀ j, j < k → ai r' 46 j = ai r 46 j) ∧ ai r' 46 k = nI (nbN r) ∧ nbN r' = nbN r + 1 ∧ ai r' 45 (nbN r) = -1 ∧ (ai r' 44 (nbN r) = -1 ∧ (ai r' 40 (nbN r) = 6 → tn (ai r' 42 (nbN r)) < 4)) ∧ (ai r' 41 (nbN r) = -1 ∨ (ai r' 41 (nbN r) = nI (rsN r) ∧ rsN r < rsN r') ∨ (ai r' 41 (nbN r) = ai r 41 (rsB r) ∧ k + 1 = dN r))))
theorem ost_stay {r r' : RV} {k c n : Nat} (M : MD r k c n r') (hk : HKK r k) (hc : 1 ≤ c) (hs : rsN r ≤ n ∧ n ≤ rsN r + 1) : RIL r' ∧ OST r r' := by
  have nb := M.nb
  obtain ⟨A, m1, m2, m3, m4, m5, m6, m8, m7⟩ := M
  exact ⟨A, m2, m3, by omega, by rw [m8]; exact hs, k, hk, Or.inl ⟨m5, m6, nb⟩⟩
/-- arrays that are no blocks' and no counters -/
def fre2 (q : Nat) : Bool := fre q && !(q == 44)
theorem md_op {r X : RV} {k c n q i : Nat} {what own num v : Int32} (M : MD r k c n X) (hk : HKK r k) (hs : rsN r ≤ n ∧ n ≤ rsN r + 1) (O : OWN X what own) (O2 : own = -1 ∨ (own = nI (rsN r) ∧ rsN r < n) ∨ (own = ai r 41 (rsB r) ∧ k + 1 = dN r)) (hq : fre2 q = true) (h42 : ¬ (42 : Nat) = q) (h6 : what = 6 → tn num < 4) (ok : gi (tI (opF X what own num) q i v) 1452 = -1) : okO X = true ∧ RIL (tI (opF X what own num) q i v) ∧ OST r (tI (opF X what own num) q i v) := by
  have h : okO X = true := by
    cases z : okO X with
    | true => rfl
    | false =>
      exfalso
      have e : opF X what own num = faiF X := by unfold opF; rw [if_neg (by rw [z]; decide)]
      rw [gi_tI, e] at ok
      exact M.fai ok
  have nb := M.nb
  have w := M.w
  obtain ⟨A, m1, m2, m3, m4, m5, m6, m8, m7⟩ := M
  obtain ⟨R, ql⟩ := RIL_op A h num O
  obtain ⟨d1, d2⟩ := op_d h A.2.2.2.1 what own num
  have hq1 : fre q = true := by unfold fre2 at hq; rw [Bool.and_eq_true] at hq; exact hq.1
  have hq4 : ¬ (44 : Nat) = q := by
    intro z; subst z; exact absurd hq (by decide)
  obtain ⟨k21, k2, k8, k18, k29, k32, k39, k40, k41, k45, k46⟩ := KE_tI (opF X what own num) i v hq1
  have g : ∀ f, gi (tI (opF X what own num) q i v) f = gi (opF X what own num) f := fun f => by rw [gi_tI]
  have ew : wN (opF X what own num) = wN r := by unfold wN; rw [op_gi h what own num (by decide) (by decide) (by decide) (by decide), m2]
  have ed : dN (tI (opF X what own num) q i v) = k + 1 := by
    show tn (gi (tI (opF X what own num) q i v) 1455) = _
    rw [g, d1, tn_nI (by omega), m5]
  refine ⟨h, RIL_ke R R.1 (g _) (g _) (Nat.le_refl _) ⟨k21, k2, k8, k18, k29, k32, k39, k40, k41, k45, k46⟩, ?_, ?_, ?_, ?_, k, hk, Or.inr ⟨ed, fun j hj => ?_, ?_, ?_, ?_, ?_, ?_⟩⟩
  · rw [g, op_gi h what own num (by decide) (by decide) (by decide) (by decide), m2]
  · rw [g, op_gi h what own num (by decide) (by decide) (by decide) (by decide), m3]
  · have : qN (tI (opF X what own num) q i v) = qN (opF X what own num) := rfl
    omega
  · have e : rsN (tI (opF X what own num) q i v) = n := by
      rw [← m8]
      have : wN (tI (opF X what own num) q i v) = wN X := by
        show wN (opF X what own num) = _
        rw [ew]; exact w.symm
      unfold rsN
      rw [this, k18, op_ai h]
      simp
    rw [e]; exact hs
  · rw [k46, op_ai h, ← m6]
    simp only [show ¬ j = dN X by omega, and_false, if_false, show ¬ (46 : Nat) = 45 by decide, show ¬ (46 : Nat) = 44 by decide, show ¬ (46 : Nat) = 43 by decide, show ¬ (46 : Nat) = 42 by decide, show ¬ (46 : Nat) = 41 by decide, show ¬ (46 : Nat) = 40 by decide, show ¬ (46 : Nat) = 39 by decide, false_and]
  · rw [k46, op_ai h, ← m5, nb]
    simp
  · have e : ai (tI (opF X what own num) q i v) 39 (wN r) = ai X 39 (wN X) + 1 := by
      rw [k39, op_ai h, ← w]
      simp
    have w3 : wN (tI (opF X what own num) q i v) = wN r := ew
    have hb := A.b
    unfold nbN
    rw [w3, e, hb.1, lt1, nI_add, tn_nI (by omega), ← m4, ← w]
    unfold nbC
    omega
  · rw [k45, op_ai h, ← nb]; simp
  · refine ⟨by rw [ai_ne hq4, op_ai h, ← nb]; simp, fun z => ?_⟩
    have e40 : ai (tI (opF X what own num) q i v) 40 (nbN r) = what := by rw [k40, op_ai h, ← nb]; simp
    have e42 : ai (tI (opF X what own num) q i v) 42 (nbN r) = num := by rw [ai_ne h42, op_ai h, ← nb]; simp
    rw [e42]; exact h6 (e40.symm.trans z)
  · have e : ai (tI (opF X what own num) q i v) 41 (nbN r) = own := by rw [k41, op_ai h, ← nb]; simp
    rw [e]
    have e2 : rsN (tI (opF X what own num) q i v) = n := by
      rw [← m8]
      have : wN (tI (opF X what own num) q i v) = wN X := by
        show wN (opF X what own num) = _
        rw [ew]; exact w.symm
      unfold rsN
      rw [this, k18, op_ai h]
      simp
    rw [e2]
    exact O2
theorem bf {b : Bool} (h : ¬ b = false) : b = true := by cases b <;> simp_all
theorem turn_rk {r : RV} (A : RIL r) (hr : gi r 1452 = -1) (d0 : gi r 1455 = 0) (hw : gl r 21450 = 1802071652) (ok : gi (rkF r) 1452 = -1) : RIL (rkF r) ∧ OST r (rkF r) := by
  have M0 := MD.start A hr
  have M1 := M0.adv (ne_end A.1 (by rw [hw]; decide))
  have ew : wN r = wN r := rfl
  unfold rkF at ok ⊢
  by_cases z1 : ai r 2 (wN r) = 16
  · rw [if_pos z1] at ok; exact absurd ok M0.fai
  rw [if_neg z1] at ok ⊢
  by_cases z2 : okN (advF r) = false
  · rw [if_pos z2] at ok; exact absurd ok M1.fai
  rw [if_neg z2] at ok ⊢
  have M2 := M1.nam (bf z2)
  have e20 : ai (namF (advF r)) 2 = ai r 2 := by rw [ai_nam, ai_adv]
  generalize namF (advF r) = r2 at *
  have M3 : MD r (dN r) 2 (rsN r) (rkB r2 (rkI r)) := MDtI (MDtL M2 _ _ _) _ _ (by decide)
  have e2 : ai (rkB r2 (rkI r)) 2 = ai r 2 := by rw [ai_rkB, e20]
  have g3 : gl r2 21450 = gl (rkB r2 (rkI r)) 21450 := by rw [gl_rkB]
  by_cases z3 : ¬ gl r2 21450 = 422608400247
  · rw [if_pos z3] at ok; exact absurd ok M3.fai
  rw [if_neg z3] at ok ⊢
  have z3 := Classical.not_not.mp z3
  rw [g3] at z3
  generalize rkB r2 (rkI r) = r3 at *
  have M4 := M3.adv (ne_end M3.rt (by rw [z3]; decide))
  by_cases z4 : okN (advF r3) = false
  · rw [if_pos z4] at ok; exact absurd ok M4.fai
  rw [if_neg z4] at ok ⊢
  have M5 := M4.nam (bf z4)
  have e50 : ai (namF (advF r3)) 2 = ai r 2 := by rw [ai_nam, ai_adv, e2]
  generalize namF (advF r3) = r5 at *
  have M6 : MD r (dN r) 4 (rsN r) (rkC r5 (rkI r)) := MDtI (MDtI (MDtL M5 _ _ _) _ _ (by decide)) _ _ (by decide)
  have e6 : ai (rkC r5 (rkI r)) 2 = ai r 2 := by rw [ai_rkC, e50]
  have g6 : gi r5 1451 = gi (rkC r5 (rkI r)) 1451 := by rw [gi_rkC]
  by_cases z6 : ¬ gi r5 1451 = 59
  · rw [if_pos z6] at ok; exact absurd ok M6.fai
  rw [if_neg z6] at ok ⊢
  have z6 := Classical.not_not.mp z6
  rw [g6] at z6
  generalize rkC r5 (rkI r) = r6 at *
  have M7 := M6.adv (by rw [z6]; decide)
  have e7 : ai (advF r6) 2 = ai r 2 := by rw [ai_adv]; exact e6
  generalize advF r6 = r7 at *
  have ck := A.2.2.2.2.1
  have cl : tn (ai r 2 (wN r)) < 16 := by
    have := ck.1.2
    rcases Nat.lt_or_ge (tn (ai r 2 (wN r))) 16 with y | y
    · exact y
    · exact absurd (by rw [ck.1.1, show tn (ai r 2 (wN r)) = 16 by omega]; rfl) z1
  have ew : wN r7 = wN r := M7.w
  have ne : ∀ q, ¬ q = 2 → ai (tI r7 2 (wN r) (ai r 2 (wN r) + 1)) q = ai r7 q := fun q h => ai_ne h
  have A7 := M7.1
  have v2 : ai (tI r7 2 (wN r) (ai r 2 (wN r) + 1)) 2 (wN r) = nI (tn (ai r 2 (wN r)) + 1) := by rw [ai_tI, if_pos ⟨rfl, rfl⟩, ck.1.1, lt1, nI_add, tn_nI (by omega)]
  have R : RIL (tI r7 2 (wN r) (ai r 2 (wN r) + 1)) := by
    refine RIL_of A7 A7.1 rfl rfl (Nat.le_refl _) (by rw [ne 39 (by decide)]) ?_ (by rw [ne 8 (by decide)]; exact A7.2.2.2.2.2.1) (by rw [ne 18 (by decide)]; exact A7.2.2.2.2.2.2.1) (by rw [ne 18 (by decide)]; exact Nat.le_refl _) (fun j _ => by rw [ne 46 (by decide)]) (fun b _ => by rw [ne 40 (by decide), ne 41 (by decide)]; exact ⟨rfl, rfl⟩) (fun s _ => by rw [ne 21 (by decide)]) (fun b _ => by rw [ne 45 (by decide)]; exact Or.inl rfl) (fun s _ z => by rw [ne 32 (by decide)]; exact z) (fun j s _ _ _ _ => by rw [ne 29 (by decide)])
    rw [ew, v2]
    exact ⟨⟨by rw [tn_nI (by omega)], by rw [tn_nI (by omega)]; omega⟩, by rw [tn_nI (by omega)]; have := ck.2; omega⟩
  exact ost_stay (M7.of R rfl (ne 39 (by decide)) (ne 46 (by decide)) (n' := rsN r) (by rw [← M7.2.2.2.2.2.2.2.1]; unfold rsN; rw [ne 18 (by decide)]; rfl)) (Or.inl ⟨rfl, Or.inl d0⟩) (by omega) (by omega)
theorem MD_rmU {r0 r : RV} {k c n : Nat} (M : MD r0 k c n r) (h : ¬ ai r 8 (wN r) = 12) : MD r0 k c n (rmU r) ∧ ai (rmU r) 8 (wN r) = nI (tn (ai r 8 (wN r)) + 1) := by
  have A := M.1
  have ck := A.2.2.2.2.2.1
  have cl : tn (ai r 8 (wN r)) < 12 := by
    have := ck.2
    rcases Nat.lt_or_ge (tn (ai r 8 (wN r))) 12 with y | y
    · exact y
    · exact absurd (by rw [ck.1, show tn (ai r 8 (wN r)) = 12 by omega]; rfl) h
  have ne : ∀ q, ¬ q = 8 → ai (rmU r) q = ai r q := fun q h => ai_ne h
  have v : ai (rmU r) 8 (wN r) = nI (tn (ai r 8 (wN r)) + 1) := by
    unfold rmU
    rw [ai_tI, if_pos ⟨rfl, rfl⟩, ck.1, lt1, nI_add, tn_nI (by omega)]
  refine ⟨M.of ?_ rfl (ne 39 (by decide)) (ne 46 (by decide)) (by rw [← M.2.2.2.2.2.2.2.1]; unfold rsN; rw [ne 18 (by decide)]; rfl), v⟩
  refine RIL_of A A.1 rfl rfl (Nat.le_refl _) (by rw [ne 39 (by decide)]) (by rw [ne 2 (by decide)]; exact A.2.2.2.2.1) ?_ (by rw [ne 18 (by decide)]; exact A.2.2.2.2.2.2.1) (by rw [ne 18 (by decide)]; exact Nat.le_refl _) (fun j _ => by rw [ne 46 (by decide)]) (fun b _ => by rw [ne 40 (by decide), ne 41 (by decide)]; exact ⟨rfl, rfl⟩) (fun s _ => by rw [ne 21 (by decide)]) (fun b _ => by rw [ne 45 (by decide)]; exact Or.inl rfl) (fun s _ z => by rw [ne 32 (by decide)]; exact z) (fun j s _ _ _ _ => by rw [ne 29 (by decide)])
  rw [v]
  exact ⟨by rw [tn_nI (by omega)], by rw [tn_nI (by omega)]; omega⟩
/-- a list of names in free arrays -/
theorem MD_nlf {r0 : RV} {k n qc qw qa i : Nat} {sep : Int32} (h1 : fre qc = true) (h2 : fre qa = true) (hne : ¬ qc = qa) (hs : ¬ sep = -1) {r : RV} {c : Nat} (M : MD r0 k c n r) (he : ¬ gi r 1451 = -1) (h0 : ai r qc i = nI 0) : ((nlF qc qw qa i sep 5 r).2 = false → ¬ gi (nlF qc qw qa i sep 5 r).1 1452 = -1) ∧ ((nlF qc qw qa i sep 5 r).2 = true → MD r0 k (c + 2 * tn (ai (nlF qc qw qa i sep 5 r).1 qc i)) n (nlF qc qw qa i sep 5 r).1 ∧ cnt (ai (nlF qc qw qa i sep 5 r).1 qc i) 4 ∧ 0 < tn (ai (nlF qc qw qa i sep 5 r).1 qc i) ∧ ¬ gi (nlF qc qw qa i sep 5 r).1 1451 = sep) := by
  have := MD_nl (r0 := r0) (k := k) (n := n) (qc := qc) (qw := qw) (qa := qa) (i := i) hne hs (fun c r => MD r0 k c n r) (fun c r p => p) (fun c r p e => p.adv e) (fun c r p e => p.nam e) (fun c r j v p => MDtL p _ _ _) (fun c r j v p => MDtI p _ _ h2) (fun c r v p => MDtI p _ _ h1) 5 r c M he (by rw [h0]; exact ⟨rfl, by decide⟩)
  rw [h0, show tn (nI 0) = 0 from rfl, Nat.sub_zero] at this
  exact ⟨fun z => this.1 z (by omega), this.2⟩
theorem MD_nl29 {r0 : RV} {k n s : Nat} {sep : Int32} (hs : ¬ sep = -1) {r : RV} {c : Nat} (M : MD r0 k c n r) (ho : ∀ j, j < k → ¬ ai r 41 (obN r j) = nI s) (he : ¬ gi r 1451 = -1) (h0 : ai r 29 s = nI 0) : ((nlF 29 30 31 s sep 5 r).2 = false → ¬ gi (nlF 29 30 31 s sep 5 r).1 1452 = -1) ∧ ((nlF 29 30 31 s sep 5 r).2 = true → (MD r0 k (c + 2 * tn (ai (nlF 29 30 31 s sep 5 r).1 29 s)) n (nlF 29 30 31 s sep 5 r).1 ∧ ∀ j, j < k → ¬ ai (nlF 29 30 31 s sep 5 r).1 41 (obN (nlF 29 30 31 s sep 5 r).1 j) = nI s) ∧ cnt (ai (nlF 29 30 31 s sep 5 r).1 29 s) 4 ∧ 0 < tn (ai (nlF 29 30 31 s sep 5 r).1 29 s) ∧ ¬ gi (nlF 29 30 31 s sep 5 r).1 1451 = sep) := by
  have same : ∀ (r r' : RV), ai r' 41 = ai r 41 → ai r' 46 = ai r 46 → (∀ j, j < k → ¬ ai r 41 (obN r j) = nI s) → ∀ j, j < k → ¬ ai r' 41 (obN r' j) = nI s := fun r r' e1 e2 h j hj => by
    have : obN r' j = obN r j := by unfold obN; rw [e2]
    rw [this, e1]; exact h j hj
  have := MD_nl (r0 := r0) (k := k) (n := n) (qc := 29) (qw := 30) (qa := 31) (i := s) (by decide) hs (fun c r => MD r0 k c n r ∧ ∀ j, j < k → ¬ ai r 41 (obN r j) = nI s) (fun c r p => p.1) (fun c r p e => ⟨p.1.adv e, same _ _ (by rw [ai_adv]) (by rw [ai_adv]) p.2⟩) (fun c r p e => ⟨p.1.nam e, same _ _ (by rw [ai_nam]) (by rw [ai_nam]) p.2⟩) (fun c r j v p => ⟨MDtL p.1 _ _ _, p.2⟩) (fun c r j v p => ⟨MDtI p.1 _ _ (by decide), same _ _ (ai_ne (by decide)) (ai_ne (by decide)) p.2⟩) (fun c r v p => MD_t29 p.1 p.2 v) 5 r c ⟨M, ho⟩ he (by rw [h0]; exact ⟨rfl, by decide⟩)
  rw [h0, show tn (nI 0) = 0 from rfl, Nat.sub_zero] at this
  exact ⟨fun z => this.1 z (by omega), this.2⟩
theorem turn_rm {r : RV} (A : RIL r) (hr : gi r 1452 = -1) (d0 : gi r 1455 = 0) (hw : gl r 21450 = 7823737) (ok : gi (rmF r) 1452 = -1) : RIL (rmF r) ∧ OST r (rmF r) := by
  have M0 := MD.start A hr
  have M1 := M0.adv (ne_end A.1 (by rw [hw]; decide))
  have dz : dN r = 0 := by unfold dN; rw [d0]; rfl
  have G : ∀ r1 c m, MD r (dN r) c (rsN r) r1 → 1 ≤ c → ¬ ai r1 8 (wN r1) = 12 → ai r1 14 m = nI 0 → gi (rmG r1 m) 1452 = -1 → RIL (rmG r1 m) ∧ OST r (rmG r1 m) := by
    intro r1 c m M hc h12 h14 ok
    have a1 : ∃ c1, 1 ≤ c1 ∧ MD r (dN r) c1 (rsN r) (rmC r1 m) ∧ ai (rmC r1 m) 14 m = nI 0 ∧ ai (rmC r1 m) 8 = ai r1 8 := by
      unfold rmC
      by_cases z : gl r1 21450 = 1718773093
      · rw [if_pos z]
        refine ⟨c + 1, by omega, MD.adv (MDtI M m (b2i true) (by decide)) (ne_end M.rt (show ¬ gl r1 21450 = 0 by rw [z]; decide)), ?_, ?_⟩
        · rw [ai_adv, ai_ne (by decide)]; exact h14
        · rw [ai_adv, ai_ne (by decide)]
      · rw [if_neg z]
        refine ⟨c, hc, MDtI M m (b2i false) (by decide), ?_, ?_⟩
        · rw [ai_ne (by decide)]; exact h14
        · rw [ai_ne (by decide)]
    obtain ⟨c1, hc1, N1, f14, f8⟩ := a1
    unfold rmG at ok ⊢
    have h12b : ¬ ai (rmC r1 m) 8 (wN (rmC r1 m)) = 12 := by rw [f8, N1.w, ← M.w]; exact h12
    generalize rmC r1 m = r2 at *
    have a2 : ((rmD r2 m).2 = false → ¬ gi (rmD r2 m).1 1452 = -1) ∧ ((rmD r2 m).2 = true → MD r (dN r) c1 (rsN r) (rmD r2 m).1 ∧ ai (rmD r2 m).1 8 = ai r2 8) := by
      unfold rmD
      by_cases z : gl r2 21450 = 127991945328499
      · rw [if_pos z]
        obtain ⟨i1, i2⟩ := MD_nlf (qc := 14) (qw := 15) (qa := 16) (i := m) (sep := 44) (by decide) (by decide) (by decide) (by decide) N1 (ne_end N1.rt (by rw [z]; decide)) f14
        refine ⟨i1, fun y => ⟨(i2 y).1.le (by omega), ?_⟩⟩
        exact (nl_keep (qc := 14) (qw := 15) (qa := 16) (i := m) (sep := 44) (by decide) (by decide) 5 r2).2.1 8 (by decide) (by decide)
      · rw [if_neg z]
        exact ⟨fun y => absurd y.symm Bool.false_ne_true, fun _ => ⟨N1, rfl⟩⟩
    by_cases zb : (rmD r2 m).2 = false
    · rw [if_pos zb] at ok
      exact absurd ok (a2.1 zb)
    rw [if_neg zb] at ok ⊢
    obtain ⟨N2, e8⟩ := a2.2 (bf zb)
    have h12c : ¬ ai (rmD r2 m).1 8 (wN (rmD r2 m).1) = 12 := by rw [e8, N2.w, ← N1.w]; exact h12b
    generalize (rmD r2 m).1 = r3 at *
    obtain ⟨N3, v8⟩ := MD_rmU N2 h12c
    unfold rmE at ok ⊢
    by_cases z9 : gi r3 1451 = 59
    · rw [if_pos z9]
      have g9 : gi (rmU r3) 1451 = 59 := z9
      have N4 := N3.adv (by rw [g9]; decide)
      exact ost_stay N4 (Or.inl ⟨rfl, Or.inl d0⟩) (by omega) (by omega)
    · rw [if_neg z9] at ok ⊢
      have d3 : dN (rmU r3) = 0 := by rw [N3.2.2.2.2.2.1, dz]
      obtain ⟨-, R, O⟩ := md_op N3 (Or.inl ⟨rfl, Or.inl d0⟩) (by omega) (Or.inl ⟨rfl, rfl, d3⟩) (Or.inl rfl) (q := 17) (by decide) (by decide) (fun z => absurd z (by decide)) ok
      exact ⟨R, O⟩
  unfold rmF at ok ⊢
  by_cases z1 : ai r 8 (wN r) = 12
  · rw [if_pos z1] at ok; exact absurd ok M0.fai
  rw [if_neg z1] at ok ⊢
  by_cases z2 : okN (advF r) = false
  · rw [if_pos z2] at ok; exact absurd ok M1.fai
  rw [if_neg z2] at ok ⊢
  have M2 := M1.nam (bf z2)
  have MA : MD r (dN r) 2 (rsN r) (rmA (namF (advF r)) (rmI r)) := MDtI (MDtI (MDtL (MDtI (MDtL M2 _ _ _) _ _ (by decide)) _ _ _) _ _ (by decide)) _ _ (by decide)
  have cA := ai14_rmA (namF (advF r)) (rmI r)
  have c8 : ai (rmA (namF (advF r)) (rmI r)) 8 = ai r 8 := by rw [ai8_rmA, ai_nam, ai_adv]
  generalize rmA (namF (advF r)) (rmI r) = r1 at *
  have h12 : ¬ ai r1 8 (wN r1) = 12 := by rw [c8, MA.w]; exact z1
  unfold rmB at ok ⊢
  by_cases z3 : gl r1 21450 = 1870030194
  · rw [if_pos z3] at ok ⊢
    have MB := MA.adv (ne_end MA.rt (by rw [z3]; decide))
    by_cases z4 : okN (advF r1) = false
    · rw [if_pos z4] at ok; exact absurd ok MB.fai
    rw [if_neg z4] at ok ⊢
    have MC := MB.nam (bf z4)
    have MO : MD r (dN r) 4 (rsN r) (rmO (namF (advF r1)) (rmI r)) := MDtI (MDtL MC _ _ _) _ _ (by decide)
    refine G _ 4 _ MO (by omega) ?_ ?_ ok
    · rw [ai8_rmO, ai_nam, ai_adv, MO.w, ← MA.w]; exact h12
    · rw [ai14_rmO, ai_nam, ai_adv]; exact cA
  · rw [if_neg z3] at ok ⊢
    exact G _ 2 _ MA (by omega) h12 cA ok
