/-! A text that is right ends at R: what is there once is there at the end -/
def nkN (r : RV) : Nat := tn (ai r 2 (wN r))
def nmN (r : RV) : Nat := tn (ai r 8 (wN r))
def ENR (r R : RV) : Prop := ∃ n, goN n r R ∧ gi R 1452 = -1 ∧ gi R 1455 = 0 ∧ gi R 1451 = -1
theorem ENR.right {r R : RV} (E : ENR r R) : gi r 1452 = -1 := by
  obtain ⟨n, g, e1, -⟩ := E
  cases n with
  | zero => rw [show R = r from g] at e1; exact e1
  | succ n => exact g.1.1
theorem ENR.step {r R : RV} (E : ENR r R) (h : rng r) : ENR (stpF r) R := by
  obtain ⟨n, g, e1, e2, e3⟩ := E
  cases n with
  | zero =>
    rw [show R = r from g] at e2 e3
    rcases h.2 with z | z
    · exact absurd e2 z
    · exact absurd e3 z
  | succ n => exact ⟨n, g.2.2, e1, e2, e3⟩
theorem ENR.back {r R : RV} (E : ENR (stpF r) R) (h : rng r) (P : PRE r) : ENR r R := by
  obtain ⟨n, g, e⟩ := E
  exact ⟨n + 1, ⟨h, P, g⟩, e⟩
theorem en_ind {P : RV → Prop} (st : ∀ x, RIL x → rng x → gi (stpF x) 1452 = -1 → RIL (stpF x) → OST x (stpF x) → OW (AT x) x (stpF x) → P x → P (stpF x)) {r R : RV} (E : ENR r R) (A : RIL r) (p : P r) : P R ∧ RIL R := by
  obtain ⟨n, g, e⟩ := E
  revert r
  induction n with
  | zero =>
    intro r A p g
    rw [show R = r from g]; exact ⟨p, A⟩
  | succ n ih =>
    intro r A p g
    have ok : gi (stpF r) 1452 = -1 := ENR.right ⟨n, g.2.2, e⟩
    obtain ⟨A', O⟩ := turn A g.1 ok
    exact ih A' (st r A g.1 ok A' O (ow_turn g.2.1) p) g.2.2
theorem ai_op {X : RV} {a b c : Int32} {q : Nat} (h : q < 39 ∨ 46 < q) : ai (opF X a b c) q = ai X q := by
  cases z : okO X with
  | true =>
    funext j
    rw [op_ai z]
    simp only [show ¬ q = 46 by omega, show ¬ q = 45 by omega, show ¬ q = 44 by omega, show ¬ q = 43 by omega, show ¬ q = 42 by omega, show ¬ q = 41 by omega, show ¬ q = 40 by omega, show ¬ q = 39 by omega, false_and, if_false]
  | false =>
    have e : opF X a b c = faiF X := by unfold opF; rw [if_neg (by rw [z]; decide)]
    rw [e]; rfl
theorem ai_tak (X : RV) (c : Int32) : ai (takF X c) = ai X := by
  unfold takF; split
  · rw [ai_adv]
  · rfl
theorem al_tak (X : RV) (c : Int32) : al (takF X c) = al X := by
  unfold takF; split
  · rw [al_adv]
  · rfl
/-- how many catches a statement has never becomes less -/
theorem cat_mono {r : RV} (A : RIL r) (s : Nat) (hs : s < rsN r) : ai (stpF r) 32 s = ai r 32 s ∨ (ai (stpF r) 32 s = ai r 32 s + 1 ∧ tn (ai r 32 s) < 4) := by
  by_cases h : AT r 32 s
  · have h' : ¬ gi r 1455 = 0 ∧ gi r 1451 = 125 ∧ ¬ ai r 40 (rsB r) = 0 ∧ s = tn (ai r 41 (rsB r)) := by
      unfold AT ATo ATs at h
      rcases h with h | h | h | h | h | ⟨h1, h2, n0, h⟩
      · omega
      · omega
      · omega
      · omega
      · omega
      · exact ⟨h1, h2, n0, by omega⟩
    obtain ⟨d0, g, n0, es⟩ := h'
    have P := RIL_pre A
    obtain ⟨-, -, -, -, cb⟩ := P.2.2.2.1 d0 g
    have c32 : cnt (ai r 32 s) 4 := by
      rcases cb with cb | ⟨-, -, cb, -⟩
      · exact absurd cb n0
      · rw [es]; exact cb
    unfold stpF
    rw [if_neg d0, if_pos g]
    unfold clF
    rw [← es]
    have ea : ai (clA r) = ai r := by unfold clA; rw [ai_adv]; rfl
    rw [← ea]
    rw [← ea] at c32
    generalize ai r 40 (rsB r) = role at *
    generalize clA r = r1 at *
    unfold clB
    split
    · rw [ai_tak]; exact Or.inl rfl
    split
    · split
      · unfold opB
        rw [ai_ne (by decide), ai_op (by omega), ai_adv]; exact Or.inl rfl
      · exact Or.inl rfl
    split
    · split
      · have k := (nl_keep (qc := 29) (qw := 30) (qa := 31) (i := s) (sep := 44) (by decide) (by decide) 5 r1).2.1 32 (by decide) (by decide)
        unfold arF
        split
        · show ai (nlF 29 30 31 s 44 5 r1).1 32 s = _ ∨ _
          rw [k]; exact Or.inl rfl
        · show ai (takF _ _) 32 s = _ ∨ _
          rw [ai_tak, k]; exact Or.inl rfl
      · rw [ai_tak]; exact Or.inl rfl
    split
    · unfold beF
      split
      · unfold rcF
        split
        · exact Or.inl rfl
        · rename_i z4
          have clt : tn (ai r1 32 s) < 4 := by
            have := c32.2
            rcases Nat.lt_or_ge (tn (ai r1 32 s)) 4 with x | x
            · exact x
            · exact absurd (by rw [c32.1, show tn (ai r1 32 s) = 4 by omega]; rfl) z4
          generalize 4 * s + tn (ai r1 32 s) = c
          have e2 : ai (tI (advF r1) 36 c 0) 32 = ai r1 32 := by rw [ai_ne (by decide), ai_adv]
          generalize tI (advF r1) 36 c 0 = r2 at *
          unfold rcB
          split
          · have k := (nl_keep (qc := 36) (qw := 37) (qa := 38) (i := c) (sep := 124) (by decide) (by decide) 5 r2).2.1 32 (by decide) (by decide)
            rw [e2] at k
            split
            · rw [k]; exact Or.inl rfl
            · generalize (nlF 36 37 38 c 124 5 r2).1 = r3 at *
              unfold rcC
              split
              · show ai r3 32 s = _ ∨ _
                rw [k]; exact Or.inl rfl
              · have e4 : ai (namF r3) 32 = ai r1 32 := by rw [ai_nam, k]
                generalize namF r3 = r4 at *
                have e5 : ai (rcP r4 c) 32 = ai r1 32 := by unfold rcP; rw [ai_ne (by decide), ai_tL, e4]
                unfold rcD
                generalize rcP r4 c = r5 at *
                split
                · have e6 : ai (advF r5) 32 = ai r1 32 := by rw [ai_adv, e5]
                  generalize advF r5 = r6 at *
                  unfold rcE
                  rw [ai_ne (by decide), ai_op (by omega)]
                  unfold rcU
                  rw [ai_tI, if_pos ⟨rfl, rfl⟩, e6]
                  exact Or.inr ⟨rfl, clt⟩
                · show ai r5 32 s = _ ∨ _
                  rw [e5]; exact Or.inl rfl
          · show ai r2 32 s = _ ∨ _
            rw [e2]; exact Or.inl rfl
      · split
        · unfold opB
          rw [ai_ne (by decide), ai_op (by omega), ai_adv]; exact Or.inl rfl
        · split
          · exact Or.inl rfl
          · exact Or.inl rfl
    · exact Or.inl rfl
  · exact Or.inl (ow_turn (RIL_pre A) _ _ h).1
/-- what stays once it is written -/
def FZ (r x : RV) : Prop := (wN x = wN r ∧ rsN r ≤ rsN x ∧ nbN r ≤ nbN x ∧ qN r ≤ qN x ∧ gi x 1448 = gi r 1448 ∧ ai x 1 = ai r 1) ∧
  (∀ q s, q = 19 ∨ q = 20 ∨ q = 21 ∨ q = 22 ∨ q = 24 ∨ q = 25 ∨ q = 26 → s < rsN r → ai x q s = ai r q s ∧ al x q s = al r q s) ∧
  (∀ q b, 40 ≤ q → q ≤ 43 → b < nbN r → ai x q b = ai r q b) ∧
  (∀ s, s < rsN r → cnt (ai r 32 s) 4 → cnt (ai x 32 s) 4 ∧ tn (ai r 32 s) ≤ tn (ai x 32 s)) ∧
  (∀ q s i, 33 ≤ q → q ≤ 36 → s < rsN r → cnt (ai r 32 s) 4 → i < tn (ai r 32 s) → ai x q (4 * s + i) = ai r q (4 * s + i) ∧ al x q (4 * s + i) = al r q (4 * s + i)) ∧
  ∀ q s i j, q = 37 ∨ q = 38 → s < rsN r → cnt (ai r 32 s) 4 → i < tn (ai r 32 s) → j < 4 → ai x q (4 * (4 * s + i) + j) = ai r q (4 * (4 * s + i) + j) ∧ al x q (4 * (4 * s + i) + j) = al r q (4 * (4 * s + i) + j)
theorem FZ.rf {r : RV} : FZ r r := ⟨⟨rfl, Nat.le_refl _, Nat.le_refl _, Nat.le_refl _, rfl, rfl⟩, fun _ _ _ _ => ⟨rfl, rfl⟩, fun _ _ _ _ _ => rfl, fun _ _ c => ⟨c, Nat.le_refl _⟩, fun _ _ _ _ _ _ _ _ => ⟨rfl, rfl⟩, fun _ _ _ _ _ _ _ _ _ => ⟨rfl, rfl⟩⟩
theorem fz_turn {r x : RV} (A : RIL x) (O : OST x (stpF x)) (W : OW (AT x) x (stpF x)) (F : FZ r x) : FZ r (stpF x) := by
  obtain ⟨⟨f1, f2, f3, f4, f5, f6⟩, F2, F3, F4, F5, F6⟩ := F
  obtain ⟨o1, o2, o3, ⟨o4, o4'⟩, k, hk, o5⟩ := O
  unfold HKK at hk
  have ew : wN (stpF x) = wN x := by unfold wN; rw [o1]
  have nbm : nbN x ≤ nbN (stpF x) := by
    rcases o5 with ⟨-, -, z⟩ | ⟨-, -, -, z, -⟩ <;> omega
  have e1 : ai (stpF x) 1 = ai x 1 := by
    funext i
    refine (W 1 i (fun h => ?_)).1
    unfold AT ATo ATs ATi at h
    omega
  have c32 : ∀ s, s < rsN r → cnt (ai x 32 s) 4 → cnt (ai (stpF x) 32 s) 4 ∧ tn (ai x 32 s) ≤ tn (ai (stpF x) 32 s) := fun s hs c => by
    rcases cat_mono A s (by omega) with z | ⟨z, z2⟩
    · rw [z]; exact ⟨c, Nat.le_refl _⟩
    · rw [z, c.1, lt1, nI_add]
      exact ⟨⟨by rw [tn_nI (by omega)], by rw [tn_nI (by omega)]; omega⟩, by rw [tn_nI (by omega), tn_nI (by omega)]; omega⟩
  refine ⟨⟨ew.trans f1, by omega, by omega, by omega, o2.trans f5, e1.trans f6⟩, fun q s hq hs => ?_, fun q b h1 h2 hb => ?_, fun s hs c => ?_, fun q s i h1 h2 hs c hi => ?_, fun q s i j hq hs c hi hj => ?_⟩
  · have := W q s (fun h => by
      unfold AT ATo ATs ATi at h
      omega)
    exact ⟨this.1.trans (F2 q s hq hs).1, this.2.trans (F2 q s hq hs).2⟩
  · have := W q b (fun h => by
      unfold AT ATo ATs ATi at h
      omega)
    exact this.1.trans (F3 q b h1 h2 hb)
  · obtain ⟨g1, g2⟩ := F4 s hs c
    obtain ⟨i1, i2⟩ := c32 s hs g1
    exact ⟨i1, by omega⟩
  · obtain ⟨g1, g2⟩ := F4 s hs c
    have := W q (4 * s + i) (fun h => by
      unfold AT ATo ATs ATi at h
      generalize eo : tn (ai x 41 (rsB x)) = o at h
      have hos : o = s → tn (ai x 32 o) = tn (ai x 32 s) := fun z => by rw [z]
      have c4 := c.2
      omega)
    exact ⟨this.1.trans (F5 q s i h1 h2 hs c hi).1, this.2.trans (F5 q s i h1 h2 hs c hi).2⟩
  · obtain ⟨g1, g2⟩ := F4 s hs c
    have := W q (4 * (4 * s + i) + j) (fun h => by
      unfold AT ATo ATs ATi at h
      generalize eo : tn (ai x 41 (rsB x)) = o at h
      have hos : o = s → tn (ai x 32 o) = tn (ai x 32 s) := fun z => by rw [z]
      have c4 := c.2
      omega)
    exact ⟨this.1.trans (F6 q s i j hq hs c hi hj).1, this.2.trans (F6 q s i j hq hs c hi hj).2⟩
theorem FZ_en {r R : RV} (E : ENR r R) (A : RIL r) : FZ r R := (en_ind (P := fun x => FZ r x) (fun x A _ _ _ O W p => fz_turn A O W p) E A FZ.rf).1
/-- no open block belongs to s; b is not open -/
def CLS (s : Nat) (r : RV) : Prop := s < rsN r ∧ ∀ j, j < dN r → ¬ ai r 41 (obN r j) = nI s
def CLB (b : Nat) (r : RV) : Prop := b < nbN r ∧ ∀ j, j < dN r → ¬ obN r j = b
theorem ob_lt {r : RV} (A : RIL r) {j : Nat} (hj : j < dN r) : obN r j < nbN r := (A.o hj).2.2.1
theorem small {r : RV} (A : RIL r) : rsN r < 2 ^ 31 ∧ nbN r < 2 ^ 31 := by
  have h1 := A.w2
  have h2 := A.s.2
  have h3 := A.b.2.1
  have e1 : rsN r = wN r * 120 + nsC r := rfl
  have e2 : nbN r = wN r * 1024 + nbC r := rfl
  omega
theorem cls_turn {x : RV} {s : Nat} (A : RIL x) (O : OST x (stpF x)) (W : OW (AT x) x (stpF x)) (C : CLS s x) : CLS s (stpF x) := by
  obtain ⟨c1, c2⟩ := C
  obtain ⟨sm, sm2⟩ := small A
  obtain ⟨o1, o2, o3, ⟨o4, o4'⟩, k, hk, o5⟩ := O
  unfold HKK at hk
  have old : ∀ b, b < nbN x → ai (stpF x) 41 b = ai x 41 b := fun b hb => (W 41 b (fun h => by unfold AT ATo ATs ATi at h; omega)).1
  refine ⟨by omega, fun j hj => ?_⟩
  rcases o5 with ⟨d, e, -⟩ | ⟨d, e, e2, -, -, -, e3⟩
  · have : obN (stpF x) j = obN x j := by unfold obN; rw [e]
    rw [this, old _ (ob_lt A (by omega))]
    exact c2 j (by omega)
  · by_cases z : j = k
    · have : obN (stpF x) j = nbN x := by unfold obN; rw [z, e2, tn_nI sm2]
      rw [this]
      rcases e3 with e3 | ⟨e3, -⟩ | ⟨e3, e4⟩
      · rw [e3]; exact fun y => nI_ne_m1 (by omega) y.symm
      · rw [e3]
        intro y
        have := congrArg tn y
        rw [tn_nI sm, tn_nI (by omega)] at this
        omega
      · rw [e3]
        exact c2 (dN x - 1) (by omega)
    · have : obN (stpF x) j = obN x j := by unfold obN; rw [e j (by omega)]
      rw [this, old _ (ob_lt A (by omega))]
      exact c2 j (by omega)
theorem clb_turn {x : RV} {b : Nat} (A : RIL x) (O : OST x (stpF x)) (C : CLB b x) : CLB b (stpF x) := by
  obtain ⟨c1, c2⟩ := C
  obtain ⟨sm, sm2⟩ := small A
  obtain ⟨o1, o2, o3, ⟨o4, o4'⟩, k, hk, o5⟩ := O
  unfold HKK at hk
  refine ⟨by rcases o5 with ⟨-, -, z⟩ | ⟨-, -, -, z, -⟩ <;> omega, fun j hj => ?_⟩
  rcases o5 with ⟨d, e, -⟩ | ⟨d, e, e2, -, -, -, e3⟩
  · have : obN (stpF x) j = obN x j := by unfold obN; rw [e]
    rw [this]
    exact c2 j (by omega)
  · by_cases z : j = k
    · have : obN (stpF x) j = nbN x := by unfold obN; rw [z, e2, tn_nI sm2]
      omega
    · have : obN (stpF x) j = obN x j := by unfold obN; rw [e j (by omega)]
      rw [this]
      exact c2 j (by omega)
theorem dN_pos {r : RV} (A : RIL r) (h : ¬ gi r 1455 = 0) : 0 < dN r := by
  have d := A.d
  rcases Nat.eq_zero_or_pos (dN r) with y | y
  · rw [y] at d; exact absurd d.1 h
  · exact y
/-- a statement that is through stays as it is -/
theorem cls_en {r R : RV} {s : Nat} (E : ENR r R) (A : RIL r) (C : CLS s r) : (∀ q, q = 27 ∨ q = 28 ∨ q = 29 ∨ q = 32 → ai R q s = ai r q s) ∧ ∀ q j, q = 30 ∨ q = 31 → j < 4 → ai R q (4 * s + j) = ai r q (4 * s + j) ∧ al R q (4 * s + j) = al r q (4 * s + j) := by
  have := (en_ind (P := fun x => CLS s x ∧ (∀ q, q = 27 ∨ q = 28 ∨ q = 29 ∨ q = 32 → ai x q s = ai r q s) ∧ ∀ q j, q = 30 ∨ q = 31 → j < 4 → ai x q (4 * s + j) = ai r q (4 * s + j) ∧ al x q (4 * s + j) = al r q (4 * s + j)) (fun x A _ _ _ O W p => ?_) E A ⟨C, fun _ _ => rfl, fun _ _ _ _ => ⟨rfl, rfl⟩⟩).1
  · exact this.2
  · obtain ⟨C, p1, p2⟩ := p
    have no : ¬ gi x 1455 = 0 → ¬ ai x 40 (rsB x) = 0 → ¬ tn (ai x 41 (rsB x)) = s := fun d0 n0 z => by
      have dp := dN_pos A d0
      obtain ⟨-, -, -, o4, -⟩ := A.o (j := dN x - 1) (by omega)
      have c2 := C.2 (dN x - 1) (by omega)
      have c2 : ¬ ai x 41 (rsB x) = nI s := c2
      have o4 : (ai x 40 (rsB x) = 0 ∧ ai x 41 (rsB x) = -1) ∨ (¬ ai x 40 (rsB x) = 0 ∧ ∃ s, ai x 41 (rsB x) = nI s ∧ wN x * 120 ≤ s ∧ s < rsN x ∧ cnt (ai x 32 s) 4 ∧ (ai x 40 (rsB x) = 8 → ai x 29 s = nI 0)) := o4
      rcases o4 with o4 | ⟨-, s', e, l1, l2, -⟩
      · exact n0 o4.1
      · have := small A
        rw [e, tn_nI (by omega)] at z
        rw [z] at e
        exact c2 e
    refine ⟨cls_turn A O W C, fun q hq => ?_, fun q j hq hj => ?_⟩
    · refine ((W q s (fun h => ?_)).1).trans (p1 q hq)
      unfold AT at h
      rcases h with h | h | h | ⟨d0, h⟩ | ⟨d0, d1, h⟩ | ⟨d0, d1, n0, h⟩
      · omega
      · omega
      · omega
      · unfold ATo at h; omega
      · unfold ATs at h; have := C.1; omega
      · have := no d0 n0; omega
    · have := W q (4 * s + j) (fun h => by
        unfold AT at h
        rcases h with h | h | h | ⟨d0, h⟩ | ⟨d0, d1, h⟩ | ⟨d0, d1, n0, h⟩
        · omega
        · omega
        · omega
        · unfold ATo at h; omega
        · unfold ATs at h; have := C.1; omega
        · have := no d0 n0; omega)
      exact ⟨this.1.trans (p2 q j hq hj).1, this.2.trans (p2 q j hq hj).2⟩
/-- a block that is through stays as it is, so do the links of its statements -/
theorem clb_en {r R : RV} {b : Nat} (E : ENR r R) (A : RIL r) (C : CLB b r) : (ai R 44 b = ai r 44 b ∧ ai R 45 b = ai r 45 b) ∧ ∀ s, s < rsN r → ai r 21 s = nI b → ai R 23 s = ai r 23 s := by
  have := (en_ind (P := fun x => CLB b x ∧ FZ r x ∧ (ai x 44 b = ai r 44 b ∧ ai x 45 b = ai r 45 b) ∧ ∀ s, s < rsN r → ai r 21 s = nI b → ai x 23 s = ai r 23 s) (fun x A _ _ _ O W p => ?_) E A ⟨C, FZ.rf, ⟨rfl, rfl⟩, fun _ _ _ => rfl⟩).1
  · exact this.2.2
  · obtain ⟨C, F, p1, p2⟩ := p
    have nb : ¬ gi x 1455 = 0 → ¬ rsB x = b := fun d0 z => by
      have dp := dN_pos A d0
      exact C.2 (dN x - 1) (by omega) z
    have n44 : ∀ q, q = 44 ∨ q = 45 → ¬ AT x q b := fun q hq h => by
      unfold AT at h
      rcases h with h | h | h | ⟨d0, h⟩ | ⟨d0, d1, h⟩ | ⟨d0, d1, n0, h⟩
      · omega
      · omega
      · have := C.1; omega
      · unfold ATo at h; omega
      · unfold ATs at h; have := nb d0; omega
      · omega
    refine ⟨clb_turn A O C, fz_turn A O W F, ⟨((W 44 b (n44 44 (by omega))).1).trans p1.1, ((W 45 b (n44 45 (by omega))).1).trans p1.2⟩, fun s hs e => ?_⟩
    refine ((W 23 s (fun h => ?_)).1).trans (p2 s hs e)
    have f2 := F.1.2.1
    unfold AT at h
    rcases h with h | h | h | ⟨d0, h⟩ | ⟨d0, d1, h⟩ | ⟨d0, d1, n0, h⟩
    · omega
    · omega
    · omega
    · unfold ATo at h; omega
    · unfold ATs at h
      have dp := dN_pos A d0
      have sm := small A
      obtain ⟨-, -, o3, -, o5⟩ := A.o (j := dN x - 1) (by omega)
      rcases h with ⟨-, h | h | h | ⟨-, h1, h2⟩ | h⟩
      · omega
      · omega
      · omega
      · have o5 : ai x 45 (rsB x) = -1 ∨ ∃ e, ai x 45 (rsB x) = nI e ∧ wN x * 120 ≤ e ∧ e < rsN x ∧ ai x 21 e = nI (rsB x) := o5
        rcases o5 with o5 | ⟨e', q1, l1, l2, l3⟩
        · exact h1 o5
        · rw [q1, tn_nI (by omega)] at h2
          rw [← h2, (F.2.1 21 s (by omega) hs).1, e] at l3
          have := congrArg tn l3
          have o3 : rsB x < nbN x := o3
          have c1 := C.1
          rw [tn_nI (by omega), tn_nI (by omega)] at this
          exact nb d0 this.symm
      · omega
    · omega
