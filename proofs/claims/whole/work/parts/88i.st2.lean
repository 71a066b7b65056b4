/-! Reading a statement: how a block is opened and ended; what is known of the statement at the end -/
theorem opq {r X : RV} {D c n q i : Nat} {what own num v : Int32} (M : MD r D c n X) (hk : HKK r D) (hs : rsN r ≤ n ∧ n ≤ rsN r + 1) (O : OWN X what own) (O2 : own = -1 ∨ (own = nI (rsN r) ∧ rsN r < n) ∨ (own = ai r 41 (rsB r) ∧ D + 1 = dN r)) (hq : fre2 q = true) (hq2 : ¬ q = 43 ∧ ¬ q = 1 ∧ ¬ q = 42) (h6 : what = 6 → tn num < 4) : OPQ X (tI (opF X what own num) q i v) D (nbN r) ∧ (okO X = true → RIL (tI (opF X what own num) q i v) ∧ OST r (tI (opF X what own num) q i v) ∧ ai (tI (opF X what own num) q i v) 40 (nbN r) = what ∧ ai (tI (opF X what own num) q i v) 41 (nbN r) = own ∧ ai (tI (opF X what own num) q i v) 42 (nbN r) = num) := by
  have nb := M.nb
  have A := M.1
  have er := M.2.1
  have hdn := M.2.2.2.2.2.1
  have hq1 : fre q = true := by unfold fre2 at hq; rw [Bool.and_eq_true] at hq; exact hq.1
  have hq4 : ¬ (44 : Nat) = q := by
    intro z; subst z; exact absurd hq (by decide)
  obtain ⟨k21, k2, k8, k18, k29, k32, k39, k40, k41, k45, k46⟩ := KE_tI (opF X what own num) i v hq1
  have ok : okO X = true → gi (tI (opF X what own num) q i v) 1452 = -1 := fun h => by
    rw [gi_tI, op_gi h what own num (by decide) (by decide) (by decide) (by decide)]; exact er
  have te : okO X = true → TE (advF X) (tI (opF X what own num) q i v) := fun h => by
    have e : opF X what own num = advF (opG X (nbN X) what own num) := by unfold opF; rw [if_pos h]
    rw [e]
    refine TE.tr (TE.adv ?_) (TE_tI (fun z => hq2.2.1 z.symm))
    unfold opG
    exact (TE_tI (by decide)).tr ((TE_tI (by decide)).tr ((TE_tI (by decide)).tr ((TE_tI (by decide)).tr ((TE_tI (by decide)).tr ((TE_tI (by decide)).tr ((TE_tI (by decide)).tr ((TE_tI (by decide)).tr (TE_sI (by decide) (by decide) (by decide) (by decide)))))))))
  have fa : okO X = false → opF X what own num = faiF X := fun h => by unfold opF; rw [if_neg (by rw [h]; decide)]
  refine ⟨⟨?_, ?_, fun _ => ⟨?_, fun h => ?_, fun h => ?_⟩⟩, fun h => ?_⟩
  · cases z : okO X with
    | true => exact (te z).2.1.trans (gi_adv X)
    | false => rw [gi_tI, fa z]; exact TE_fai.2.1
  · cases z : okO X with
    | true => rw [(te z).2.2.2.2.2, ai_adv]
    | false => rw [ai_ne (fun z => hq2.2.1 z.symm), fa z]; rfl
  · rw [A.d.1, hdn]
  · rw [gi_tI, fa h]; exact (fai_w A.1 er).2
  · obtain ⟨-, R, -⟩ := md_op M hk hs O O2 hq (fun z => hq2.2.2 z.symm) h6 (ok h)
    obtain ⟨d1, d2⟩ := op_d h A.2.2.2.1 what own num
    have ed : dN (tI (opF X what own num) q i v) = D + 1 := by
      show tn (gi (tI (opF X what own num) q i v) 1455) = _
      rw [gi_tI, d1, tn_nI (by omega), hdn]
    have sm := small A
    have wX : wN (tI (opF X what own num) q i v) = wN X := by
      unfold wN; rw [gi_tI, op_gi h what own num (by decide) (by decide) (by decide) (by decide)]
    refine ⟨R, ok h, te h, ed, ?_, ?_, ?_, ?_, ?_⟩
    · show tn (ai (tI (opF X what own num) q i v) 46 (dN (tI (opF X what own num) q i v) - 1)) = nbN r
      rw [ed, k46, op_ai h]
      have : D + 1 - 1 = dN X := by omega
      simp only [this, true_and, if_true]
      rw [tn_nI sm.2, nb]
    · unfold nbN
      rw [wX, k39, op_ai h]
      have hb := A.b
      simp only [show ¬ (39 : Nat) = 46 by decide, show ¬ (39 : Nat) = 45 by decide, show ¬ (39 : Nat) = 44 by decide, show ¬ (39 : Nat) = 43 by decide, show ¬ (39 : Nat) = 42 by decide, show ¬ (39 : Nat) = 41 by decide, show ¬ (39 : Nat) = 40 by decide, false_and, if_false, true_and, if_true]
      rw [hb.1, lt1, nI_add, tn_nI (by omega)]
      have e : nbN X = wN X * 1024 + nbC X := rfl
      have e2 : nbN r = wN r * 1024 + tn (ai r 39 (wN r)) := rfl
      omega
    · rw [k45, op_ai h, ← nb]; simp
    · rw [ai_ne hq4, op_ai h, ← nb]; simp
    · rw [ai_ne (fun z => hq2.1 z.symm), op_ai h, ← nb]; simp
  · obtain ⟨-, R, OO⟩ := md_op M hk hs O O2 hq (fun z => hq2.2.2 z.symm) h6 (ok h)
    refine ⟨R, OO, ?_, ?_, ?_⟩
    · rw [k40, op_ai h, ← nb]; simp
    · rw [k41, op_ai h, ← nb]; simp
    · rw [ai_ne (fun z => hq2.2.2 z.symm), op_ai h, ← nb]; simp
/-- the turn that ends a block -/
theorem close_is {rc : RV} (g : gi rc 1451 = 125) (dp : 0 < dN rc) : stpF rc = clB (clA rc) (tn (ai rc 41 (rsB rc))) (ai rc 40 (rsB rc)) := by
  unfold stpF
  rw [if_neg (dN_0 dp), if_pos g]
  rfl
/-- behind a statement no open block belongs to it -/
theorem st_cls {r r' : RV} {n : Nat} (A : RIL r) (hr : rng r) (d0 : 0 < dN r) (d1 : ¬ gi r 1451 = 125) (g : goK (dN r) n (stpF r) r') (ok : gi r' 1452 = -1) (hd : dN r' = dN r) : CLS (rsN r) r' ∧ rsN r < rsN (stpF r) ∧ rsN r < rsN r' := by
  obtain ⟨ok1, A1, O, A2, F1, F2, KP, pd, p46⟩ := st_seg A hr d0 d1 g ok
  obtain ⟨i1, hz, st⟩ := inb_rs A hr (dN_0 d0) d1 ok1
  have sm := small A
  have sm2 := small A2
  have rlt : rsN r < rsN (stpF r) := by
    have en : ai (stpF r) 45 (rsB r) = nI (rsN r) := by rw [st]; exact end_rs A d0 hz
    have eo : obN (stpF r) (dN r - 1) = rsB r := by unfold obN; rw [p46 _ (by omega)]; rfl
    obtain ⟨-, -, -, -, p5⟩ := A1.o (j := dN r - 1) (by omega)
    rw [eo, en] at p5
    rcases p5 with p5 | ⟨e', g1, g2, g3, -⟩
    · exact absurd p5 (nI_ne_m1 (by omega))
    · have sm1 := small A1
      have := congrArg tn g1
      rw [tn_nI sm.1, tn_nI (by omega)] at this
      omega
  have rm := F2.1.2.1
  refine ⟨⟨by omega, fun j hj => ?_⟩, rlt, by omega⟩
  have hj : j < dN r := by omega
  have eo : obN r' j = obN r j := by unfold obN; rw [KP.2.1 j hj, p46 j hj]
  have l := ob_lt A hj
  have nb1 := F1.1.2.2.1
  rw [eo, F2.2.2.1 41 _ (by omega) (by omega) (by omega), F1.2.2.1 41 _ (by omega) (by omega) l]
  obtain ⟨-, -, -, o4, -⟩ := A.o hj
  rcases o4 with ⟨-, o4⟩ | ⟨-, s, e, l1, l2, -⟩
  · rw [o4]; exact fun z => nI_ne_m1 (by omega) z.symm
  · rw [e]
    intro z
    have := congrArg tn z
    rw [tn_nI (by omega), tn_nI (by omega)] at this
    omega
/-- what every statement has -/
theorem st_vals {r R : RV} (A : RIL r) (hr : rng r) (d0 : 0 < dN r) (d1 : ¬ gi r 1451 = 125) (E : ENR r R) : ai R 20 (rsN r) = gi r 1449 ∧ ai R 21 (rsN r) = nI (rsB r) ∧ ai R 22 (rsN r) = nI (nmN r) - 1 ∧ wN R = wN r ∧ rsB r < 2 ^ 31 ∧ FZ (stpF r) R ∧ rsN r < rsN (stpF r) := by
  have E1 := E.step hr
  have ok1 := E1.right
  obtain ⟨A1, O⟩ := turn A hr ok1
  obtain ⟨i1, hz, st⟩ := inb_rs A hr (dN_0 d0) d1 ok1
  have FR := FZ_en E1 A1
  have FR0 := FZ_en E A
  have sm := small A
  have rlt := (st_cls A hr d0 d1 (n := 0) (r' := stpF r) rfl ok1)
  have lb : rsB r < nbN r := (A.o (j := dN r - 1) (by omega)).2.2.1
  have rl : rsN r < rsN (stpF r) := by
    have en : ai (stpF r) 45 (rsB r) = nI (rsN r) := by rw [st]; exact end_rs A d0 hz
    obtain ⟨ok1', A1', O', A2', F1', F2', KP', pd', p46'⟩ := st_seg A hr d0 d1 (n := 0) (r' := stpF r) rfl ok1
    have eo : obN (stpF r) (dN r - 1) = rsB r := by unfold obN; rw [p46' _ (by omega)]; rfl
    obtain ⟨-, -, -, -, p5⟩ := A1.o (j := dN r - 1) (by omega)
    rw [eo, en] at p5
    rcases p5 with p5 | ⟨e', g1, g2, g3, -⟩
    · exact absurd p5 (nI_ne_m1 (by omega))
    · have sm1 := small A1
      have := congrArg tn g1
      rw [tn_nI sm.1, tn_nI (by omega)] at this
      omega
  have v := rsX_v r
  have g : ∀ q, q = 20 ∨ q = 21 ∨ q = 22 → ai R q (rsN r) = ai (rsX r) q (rsN r) := fun q hq => by
    rw [(FR.2.1 q _ (by omega) rl).1, st, rs_keep A d0 hz (by omega), rsA_X r (by omega) (by omega) (by omega)]
  refine ⟨by rw [g 20 (by omega)]; exact v.1, by rw [(FR.2.1 21 _ (by omega) rl).1]; exact i1, ?_, FR0.1.1, by omega, FR, rl⟩
  rw [g 22 (by omega), v.2.2.1]
  have := A.2.2.2.2.2.1.1
  rw [this]
  rfl
theorem prS_find {R : RV} {s b : Nat} (e : ai R 21 s = nI b) (hb : b < 2 ^ 31) : prS R s = (cch R b).find? (fun c => decide (al R 34 c = al R 24 s)) := by
  unfold prS
  rw [e, oN_nI hb]
  exact pr_find R _ 2048 b false
theorem find_map {α β : Type} (f : α → β) (p : β → Bool) : ∀ l : List α, (l.map f).find? p = (l.find? (fun a => p (f a))).map f := by
  intro l
  induction l with
  | nil => rfl
  | cons a l ih =>
    rw [List.map_cons, List.find?_cons, List.find?_cons]
    cases p (f a) with
    | true => rfl
    | false => exact ih
/-- the class finds the parameter that the reference means -/
theorem par_is {h : AH} {R : RV} {G : Nat → Nat → Nat} {b : Nat} {y : Int64} (hc : ∀ c, c ∈ cch R b → SCF h R G c) (hy : WV y) : ((cch R b).map (G 2)).find? (fun a => decide (fJ h 20303 a = conv y)) = ((cch R b).find? (fun c => decide (al R 34 c = y))).map (G 2) := by
  rw [find_map]
  congr 1
  have g : ∀ l : List Nat, (∀ c, c ∈ l → SCF h R G c) → l.find? (fun a => decide (fJ h 20303 (G 2 a) = conv y)) = l.find? (fun c => decide (al R 34 c = y)) := by
    intro l
    induction l with
    | nil => intro _; rfl
    | cons c l ih =>
      intro H
      rw [List.find?_cons, List.find?_cons, ih (fun c m => H c (List.mem_cons_of_mem _ m))]
      obtain ⟨q1, q2, -⟩ := H c List.mem_cons_self
      have : decide (fJ h 20303 (G 2 c) = conv y) = decide (al R 34 c = y) := by
        rw [q1]
        exact decide_eq_decide.mpr (conv_inj q2 hy)
      rw [this]
  exact g _ hc
/-- the statement comes to what lies in it -/
theorem st_fin {h' : AH} {U a z a' z' s0 s1 b0 b1 : Nat} {R : RV} {G1 : Nat → Nat → Nat} (A1 : AD h' U a z R G1 (fun _ => False) (s0 + 1) s1 b0 b1) (S : SFF h' U R G1 s0) (nx : fP h' 30804 (G1 0 s0) = none) (K : (∀ b, b ∈ kids R s0 → b0 ≤ b ∧ b < b1) ∧ (∀ c, prS R s0 = some c → c / 4 < s0) ∧ ∀ c, (cch R (tn (ai R 21 s0))).head? = some c → c / 4 < s0) (W : cnt (ai R 29 s0) 4 ∧ cnt (ai R 32 s0) 4 ∧ s0 < s1 ∧ CI G1 (s0 + 1) (kids R s0) s1 ∧ SHP R s0 ∧ PLS R s0) (h0 : a' ≤ G1 0 s0 ∧ G1 0 s0 < a) (h6 : hasN R s0 → a' ≤ G1 6 s0 ∧ G1 6 s0 + 3 < z' ∧ (G1 6 s0 < a ∨ z ≤ G1 6 s0)) (hC : ∀ i, i < tn (ai R 32 s0) → CFF h' U R G1 (4 * s0 + i) ∧ a' ≤ G1 2 (4 * s0 + i) ∧ G1 2 (4 * s0 + i) + 4 < z') (hz : a ≤ z ∧ z ≤ z' ∧ z' ≤ tp h') (hb : b0 ≤ b1) : ∃ G', (∀ q i, ¬ (q = 3 ∧ i = s0) → G' q i = G1 q i) ∧ G' 3 s0 = s1 ∧ AD h' U a' z' R G' (fun s => s = s0) s0 s1 b0 b1 := by
  let G' : Nat → Nat → Nat := fun q i => if q = 3 ∧ i = s0 then s1 else G1 q i
  have g0 : ∀ q i, ¬ (q = 3 ∧ i = s0) → G' q i = G1 q i := fun q i hq => if_neg hq
  have g3 : G' 3 s0 = s1 := if_pos ⟨rfl, rfl⟩
  have f : ∀ q, ¬ q = 3 → G' q = G1 q := fun q hq => by funext i; exact g0 q i (fun z => hq z.1)
  refine ⟨G', g0, g3, ?_⟩
  have B1 : AD h' U a z R G' (fun s => s = s0) (s0 + 1) s1 b0 b1 := (A1.gb ⟨⟨fun s _ => g0 _ _ (fun z => absurd z.1 (by decide)), fun s h1 _ => ⟨g0 _ _ (fun z => by omega), g0 _ _ (fun z => absurd z.1 (by decide))⟩⟩, fun b _ _ => ⟨g0 _ _ (fun z => absurd z.1 (by decide)), g0 _ _ (fun z => absurd z.1 (by decide)), g0 _ _ (fun z => absurd z.1 (by decide))⟩, fun c _ => g0 _ _ (fun z => absurd z.1 (by decide))⟩).pe (fun s h1 h2 => ⟨fun z => z.elim, fun z => by omega⟩)
  have S' : SFF h' U R G' s0 := by unfold SFF at S ⊢; rw [f 0 (by decide), f 1 (by decide), f 2 (by decide), f 6 (by decide)]; exact S
  have C' : ∀ i, i < tn (ai R 32 s0) → CFF h' U R G' (4 * s0 + i) ∧ a' ≤ G' 2 (4 * s0 + i) ∧ G' 2 (4 * s0 + i) + 4 < z' := fun i hi => by
    have := hC i hi
    unfold CFF CFH at this ⊢
    rw [f 1 (by decide), f 2 (by decide), f 4 (by decide), f 5 (by decide)]; exact this
  refine B1.cons S' ⟨fun z => absurd rfl z, fun _ => by rw [f 0 (by decide)]; exact nx⟩ K ?_ (by rw [f 0 (by decide)]; exact h0) (fun hn => by rw [f 6 (by decide)]; exact h6 hn) C' hz
  obtain ⟨w1, w2, w3, w4, w5, w6⟩ := W
  refine ⟨w1, w2, by rw [g3]; exact w3, ?_, w5, w6⟩
  rw [g3]
  exact CI.cg w4 (fun b _ => ⟨g0 _ _ (fun z => absurd z.1 (by decide)), g0 _ _ (fun z => absurd z.1 (by decide))⟩)
