/-! Stretches of the reading: turns above a level -/
def goK (k : Nat) : Nat → RV → RV → Prop
  | 0, r, r' => r' = r
  | n + 1, r, r' => rng r ∧ PRE r ∧ k < dN r ∧ goK k n (stpF r) r'
def goL (k : Nat) : Nat → RV → RV → Prop
  | 0, r, r' => r' = r
  | n + 1, r, r' => rng r ∧ PRE r ∧ k < dN r ∧ (gi r 1451 = 125 → k + 1 < dN r) ∧ goL k n (stpF r) r'
theorem goK_tr {k : Nat} : ∀ {n m : Nat} {r r' r'' : RV}, goK k n r r' → goK k m r' r'' → goK k (n + m) r r'' := by
  intro n
  induction n with
  | zero => intro m r r' r'' a b; rw [show r' = r from a] at b; rw [Nat.zero_add]; exact b
  | succ n ih =>
    intro m r r' r'' a b
    rw [show n + 1 + m = (n + m) + 1 by omega]
    exact ⟨a.1, a.2.1, a.2.2.1, ih a.2.2.2 b⟩
theorem goL_tr {k : Nat} : ∀ {n m : Nat} {r r' r'' : RV}, goL k n r r' → goL k m r' r'' → goL k (n + m) r r'' := by
  intro n
  induction n with
  | zero => intro m r r' r'' a b; rw [show r' = r from a] at b; rw [Nat.zero_add]; exact b
  | succ n ih =>
    intro m r r' r'' a b
    rw [show n + 1 + m = (n + m) + 1 by omega]
    exact ⟨a.1, a.2.1, a.2.2.1, a.2.2.2.1, ih a.2.2.2.2 b⟩
theorem goK_N {k : Nat} : ∀ {n : Nat} {r r' : RV}, goK k n r r' → goN n r r' := by
  intro n
  induction n with
  | zero => intro r r' a; exact a
  | succ n ih => intro r r' a; exact ⟨a.1, a.2.1, ih a.2.2.2⟩
theorem goL_K {k : Nat} : ∀ {n : Nat} {r r' : RV}, goL k n r r' → goK k n r r' := by
  intro n
  induction n with
  | zero => intro r r' a; exact a
  | succ n ih => intro r r' a; exact ⟨a.1, a.2.1, a.2.2.1, ih a.2.2.2.2⟩
theorem goK_L {k : Nat} : ∀ {n : Nat} {r r' : RV}, goK (k + 1) n r r' → goL k n r r' := by
  intro n
  induction n with
  | zero => intro r r' a; exact a
  | succ n ih => intro r r' a; exact ⟨a.1, a.2.1, by have := a.2.2.1; omega, fun _ => a.2.2.1, ih a.2.2.2⟩
theorem ENR.go {R : RV} : ∀ {n : Nat} {r r' : RV}, goN n r r' → ENR r R → ENR r' R := by
  intro n
  induction n with
  | zero => intro r r' a E; rw [show r' = r from a]; exact E
  | succ n ih => intro r r' a E; exact ih a.2.2 (E.step a.1)
/-- what is kept below level k, and of the blocks there -/
def KPK (k : Nat) (r r' : RV) : Prop := k ≤ dN r' ∧ (∀ j, j < k → ai r' 46 j = ai r 46 j) ∧ (∀ j, j < k → ai r' 44 (obN r j) = ai r 44 (obN r j) ∧ ai r' 45 (obN r j) = ai r 45 (obN r j)) ∧ ∀ e j, e < rsN r → j < k → ai r 21 e = nI (obN r j) → ai r' 23 e = ai r 23 e
theorem KPK.tr {k : Nat} {r r1 r2 : RV} (F : FZ r r1) (a : KPK k r r1) (b : KPK k r1 r2) : KPK k r r2 := by
  obtain ⟨a1, a2, a3, a4⟩ := a
  obtain ⟨b1, b2, b3, b4⟩ := b
  have eo : ∀ j, j < k → obN r1 j = obN r j := fun j hj => by unfold obN; rw [a2 j hj]
  refine ⟨b1, fun j hj => (b2 j hj).trans (a2 j hj), fun j hj => ?_, fun e j he hj h => ?_⟩
  · have := b3 j hj
    rw [eo j hj] at this
    exact ⟨this.1.trans (a3 j hj).1, this.2.trans (a3 j hj).2⟩
  · have f2 := F.1.2.1
    refine (b4 e j (by omega) hj ?_).trans (a4 e j he hj h)
    rw [eo j hj, (F.2.1 21 e (by omega) he).1]; exact h
theorem kpk_turn {k : Nat} {x : RV} (A : RIL x) (hk : k < dN x) (O : OST x (stpF x)) (W : OW (AT x) x (stpF x)) : KPK k x (stpF x) := by
  have sm := small A
  obtain ⟨o1, o2, o3, ⟨o4, o4'⟩, kk, hkk, o5⟩ := O
  unfold HKK at hkk
  have nrs : ∀ j, j < k → ¬ obN x j = rsB x := fun j hj => (A.dj (i := j) (j := dN x - 1) (by omega) (by omega)).2
  have p2 : ∀ j, j < k → ai (stpF x) 46 j = ai x 46 j := fun j hj => by
    rcases o5 with ⟨-, e, -⟩ | ⟨-, e, -⟩
    · rw [e]
    · exact e j (by omega)
  refine ⟨by rcases o5 with ⟨e, -⟩ | ⟨e, -⟩ <;> omega, p2, fun j hj => ?_, fun e j he hj h => ?_⟩
  · have n44 : ∀ q, q = 44 ∨ q = 45 → ¬ AT x q (obN x j) := fun q hq h => by
      have l := ob_lt A (j := j) (by omega)
      have := nrs j hj
      unfold AT ATo ATs ATi at h
      omega
    exact ⟨(W 44 _ (n44 44 (by omega))).1, (W 45 _ (n44 45 (by omega))).1⟩
  · refine (W 23 e (fun h' => ?_)).1
    unfold AT at h'
    rcases h' with h' | h' | h' | ⟨d0, h'⟩ | ⟨d0, d1, h'⟩ | ⟨d0, d1, n0, h'⟩
    · omega
    · omega
    · omega
    · unfold ATo at h'; omega
    · unfold ATs at h'
      obtain ⟨-, -, o3, -, o5⟩ := A.o (j := dN x - 1) (by omega)
      rcases h' with ⟨-, h' | h' | h' | ⟨-, h1, h2⟩ | h'⟩
      · omega
      · omega
      · omega
      · have o5 : ai x 45 (rsB x) = -1 ∨ ∃ e, ai x 45 (rsB x) = nI e ∧ wN x * 120 ≤ e ∧ e < rsN x ∧ ai x 21 e = nI (rsB x) := o5
        rcases o5 with o5 | ⟨e', q1, l1, l2, l3⟩
        · exact h1 o5
        · rw [q1, tn_nI (by omega)] at h2
          rw [← h2, h] at l3
          have := congrArg tn l3
          have o3 : rsB x < nbN x := o3
          have l := ob_lt A (j := j) (by omega)
          rw [tn_nI (by omega), tn_nI (by omega)] at this
          exact nrs j hj this
      · omega
    · omega
theorem KPK.rf {k : Nat} {r : RV} (h : k ≤ dN r) : KPK k r r := ⟨h, fun _ _ => rfl, fun _ _ => ⟨rfl, rfl⟩, fun _ _ _ _ _ => rfl⟩
theorem frk {k : Nat} : ∀ {n : Nat} {r r' : RV}, RIL r → goK k n r r' → gi r' 1452 = -1 → k ≤ dN r → RIL r' ∧ FZ r r' ∧ KPK k r r' := by
  intro n
  induction n with
  | zero => intro r r' A a _ hk; rw [show r' = r from a]; exact ⟨A, FZ.rf, KPK.rf hk⟩
  | succ n ih =>
    intro r r' A a ok hk
    have ok1 : gi (stpF r) 1452 = -1 := by
      have g := a.2.2.2
      cases n with
      | zero => rw [← show r' = stpF r from g]; exact ok
      | succ n => exact g.1.1
    obtain ⟨A1, O⟩ := turn A a.1 ok1
    have W := ow_turn a.2.1
    have F1 := fz_turn A O W FZ.rf
    have K1 := kpk_turn A a.2.2.1 O W
    obtain ⟨A2, F2, K2⟩ := ih A1 a.2.2.2 ok K1.1
    refine ⟨A2, ?_, K1.tr F1 K2⟩
    obtain ⟨⟨f1, f2, f3, f4, f5, f6⟩, F12, F13, F14, F15, F16⟩ := F1
    obtain ⟨⟨g1, g2, g3, g4, g5, g6⟩, F22, F23, F24, F25, F26⟩ := F2
    refine ⟨⟨g1.trans f1, by omega, by omega, by omega, g5.trans f5, g6.trans f6⟩, fun q s hq hs => ?_, fun q b h1 h2 hb => ?_, fun s hs c => ?_, fun q s i h1 h2 hs c hi => ?_, fun q s i j hq hs c hi hj => ?_⟩
    · exact ⟨(F22 q s hq (by omega)).1.trans (F12 q s hq hs).1, (F22 q s hq (by omega)).2.trans (F12 q s hq hs).2⟩
    · exact (F23 q b h1 h2 (by omega)).trans (F13 q b h1 h2 hb)
    · obtain ⟨c1, c2⟩ := F14 s hs c
      obtain ⟨c3, c4⟩ := F24 s (by omega) c1
      exact ⟨c3, by omega⟩
    · obtain ⟨c1, c2⟩ := F14 s hs c
      have y := F25 q s i h1 h2 (by omega) c1 (by omega)
      exact ⟨y.1.trans (F15 q s i h1 h2 hs c hi).1, y.2.trans (F15 q s i h1 h2 hs c hi).2⟩
    · obtain ⟨c1, c2⟩ := F14 s hs c
      have y := F26 q s i j hq (by omega) c1 (by omega) hj
      exact ⟨y.1.trans (F16 q s i j hq hs c hi hj).1, y.2.trans (F16 q s i j hq hs c hi hj).2⟩
/-- what a statement that owns an open block keeps while that block is open -/
def OWK (s : Nat) (r r' : RV) : Prop := (∀ q, q = 27 ∨ q = 28 ∨ q = 29 ∨ q = 32 → ai r' q s = ai r q s) ∧ ∀ q j, q = 30 ∨ q = 31 → j < 4 → ai r' q (4 * s + j) = ai r q (4 * s + j) ∧ al r' q (4 * s + j) = al r q (4 * s + j)
theorem OWK.rf {s : Nat} {r : RV} : OWK s r r := ⟨fun _ _ => rfl, fun _ _ _ _ => ⟨rfl, rfl⟩⟩
theorem OWK.tr {s : Nat} {r r1 r2 : RV} (a : OWK s r r1) (b : OWK s r1 r2) : OWK s r r2 := ⟨fun q h => (b.1 q h).trans (a.1 q h), fun q j h hj => ⟨(b.2 q j h hj).1.trans (a.2 q j h hj).1, (b.2 q j h hj).2.trans (a.2 q j h hj).2⟩⟩
/-- a turn that doesn't end a block of s -/
theorem owk_turn {s : Nat} {x : RV} (A : RIL x) (W : OW (AT x) x (stpF x)) (hs : s < rsN x) (h : gi x 1451 = 125 → 0 < dN x → ¬ ai x 41 (rsB x) = nI s) : OWK s x (stpF x) := by
  have sm := small A
  have no : ¬ gi x 1455 = 0 → gi x 1451 = 125 → ¬ ai x 40 (rsB x) = 0 → ¬ tn (ai x 41 (rsB x)) = s := fun d0 g n0 z => by
    have dp := dN_pos A d0
    obtain ⟨-, -, -, o4, -⟩ := A.o (j := dN x - 1) (by omega)
    have o4 : (ai x 40 (rsB x) = 0 ∧ ai x 41 (rsB x) = -1) ∨ (¬ ai x 40 (rsB x) = 0 ∧ ∃ s, ai x 41 (rsB x) = nI s ∧ wN x * 120 ≤ s ∧ s < rsN x ∧ cnt (ai x 32 s) 4 ∧ (ai x 40 (rsB x) = 8 → ai x 29 s = nI 0)) := o4
    rcases o4 with o4 | ⟨-, s', e, l1, l2, -⟩
    · exact n0 o4.1
    · rw [e, tn_nI (by omega)] at z
      rw [z] at e
      exact h g dp e
  refine ⟨fun q hq => (W q s (fun h' => ?_)).1, fun q j hq hj => W q (4 * s + j) (fun h' => ?_)⟩
  · unfold AT at h'
    rcases h' with h' | h' | h' | ⟨d0, h'⟩ | ⟨d0, d1, h'⟩ | ⟨d0, d1, n0, h'⟩
    · omega
    · omega
    · omega
    · unfold ATo at h'; omega
    · unfold ATs at h'; omega
    · have := no d0 d1 n0; omega
  · unfold AT at h'
    rcases h' with h' | h' | h' | ⟨d0, h'⟩ | ⟨d0, d1, h'⟩ | ⟨d0, d1, n0, h'⟩
    · omega
    · omega
    · omega
    · unfold ATo at h'; omega
    · unfold ATs at h'; omega
    · have := no d0 d1 n0; omega
/-- while the block at level k stays open -/
theorem frl {k s : Nat} : ∀ {n : Nat} {r r' : RV}, RIL r → goL k n r r' → gi r' 1452 = -1 → k < dN r → ai r 41 (obN r k) = nI s → s < rsN r → k < dN r' ∧ ai r' 46 k = ai r 46 k ∧ OWK s r r' := by
  intro n
  induction n with
  | zero => intro r r' A a _ hk _ _; rw [show r' = r from a]; exact ⟨hk, rfl, OWK.rf⟩
  | succ n ih =>
    intro r r' A a ok hk ho hs
    have ok1 : gi (stpF r) 1452 = -1 := by
      have g := a.2.2.2.2
      cases n with
      | zero => rw [← show r' = stpF r from g]; exact ok
      | succ n => exact g.1.1
    obtain ⟨A1, O⟩ := turn A a.1 ok1
    have W := ow_turn a.2.1
    have F1 := fz_turn A O W FZ.rf
    have hc := a.2.2.2.1
    have top : k < dN (stpF r) ∧ ai (stpF r) 46 k = ai r 46 k := by
      obtain ⟨o1, o2, o3, ⟨o4, o4'⟩, kk, hkk, o5⟩ := O
      have kd : k < kk := by
        rcases hkk with ⟨z, -⟩ | ⟨z, z2⟩
        · omega
        · have := hc z2; omega
      rcases o5 with ⟨e, e2, -⟩ | ⟨e, e2, -⟩
      · exact ⟨by omega, by rw [e2]⟩
      · exact ⟨by omega, e2 k kd⟩
    have K1 : OWK s r (stpF r) := owk_turn A W hs (fun g dp z => by
      have := hc g
      exact (A.dj (i := k) (j := dN r - 1) (by omega) (by omega)).1 (ho.trans z.symm))
    have eo : obN (stpF r) k = obN r k := by unfold obN; rw [top.2]
    obtain ⟨i1, i2, i3⟩ := ih A1 a.2.2.2.2 ok top.1 (by rw [eo, F1.2.2.1 41 _ (by omega) (by omega) (ob_lt A hk)]; exact ho) (by have := F1.1.2.1; omega)
    exact ⟨i1, i2.trans top.2, K1.tr i3⟩

/-- what the rest of a statement's turn leaves as the new statement has it -/
theorem rs_keep {r : RV} (A : RIL r) (d0 : 0 < dN r) (hz : ¬ (isSt r = false ∨ ai r 18 (wN r) = 120)) {q j : Nat} (hq : (q = 20 ∨ q = 21 ∨ q = 22 ∨ q = 23 ∨ q = 27 ∨ q = 28 ∨ q = 32) ∨ ((q = 44 ∨ q = 45) ∧ ¬ j = nbN r)) : ai (rsF r) q j = ai (rsA r) q j := by
  unfold rsF
  rw [if_neg hz]
  generalize hv : ai (rsA r) q j = v
  have s1 : SW r (rsA r) := SW_rsA
  generalize rsA r = r1 at *
  have B : ∀ (X : RV) what, SW r X → ai X q j = v → ai (opB X 26 (rsN r) what) q j = v := fun X what s e => by
    unfold opB
    rw [ai_ne (by omega)]
    cases z : okO X with
    | true =>
      rw [op_ai z, s.b]
      have n1 : ¬ q = 46 := by omega
      have n2 : ¬ q = 43 := by omega
      have n3 : ¬ q = 42 := by omega
      have n4 : ¬ q = 41 := by omega
      have n5 : ¬ q = 40 := by omega
      have n6 : ¬ q = 39 := by omega
      have n7 : ¬ (q = 45 ∧ j = nbN r) := by omega
      have n8 : ¬ (q = 44 ∧ j = nbN r) := by omega
      simp only [n1, n2, n3, n4, n5, n6, n7, n8, false_and, if_false]
      exact e
    | false =>
      have e2 : opF X what (nI (rsN r)) 0 = faiF X := by unfold opF; rw [if_neg (by rw [z]; decide)]
      rw [e2]; exact e
  by_cases z2 : gi r 1451 = 123
  · rw [if_pos z2]
    exact B _ _ (s1.t _ (by decide)) (by rw [ai_ne (by omega)]; exact hv)
  rw [if_neg z2]
  have e2 : ai (advF r1) q j = v := by rw [ai_adv]; exact hv
  have s2 := s1.adv
  generalize advF r1 = r2 at *
  have t1 : ∀ u, ai (tI r2 19 (rsN r) u) q j = v := fun u => by rw [ai_ne (by omega)]; exact e2
  have u1 : ∀ v, SW r (tI r2 19 (rsN r) v) := fun v => s2.t _ (by decide)
  unfold rsK
  split
  · unfold rsK1; rw [ai_tak]; exact t1 _
  split
  · unfold rsK2
    generalize (if gl r 21450 = 499968536439 then (2 : Int32) else if gl r 21450 = 7562612 then 3 else 1) = u
    split
    · exact t1 u
    · have e3 : ai (rsW (namF (tI r2 19 (rsN r) u)) (rsN r)) q j = v := by
        unfold rsW; rw [ai_ne (by omega), ai_tL, ai_nam]; exact t1 u
      have s3 : SW r (rsW (namF (tI r2 19 (rsN r) u)) (rsN r)) := by
        unfold rsW
        exact ((u1 u).nam.l _).t _ (by decide)
      generalize rsW (namF (tI r2 19 (rsN r) u)) (rsN r) = r3 at *
      unfold rsK2b
      split
      · exact B _ _ s3 e3
      · rw [ai_tak]; exact e3
  split
  · exact B _ _ (u1 _) (t1 _)
  split
  · exact B _ _ (u1 _) (t1 _)
  · unfold rsK5
    have kq : ai (nlF 29 30 31 (rsN r) 44 5 (tI r2 19 (rsN r) 9)).1 q = ai (tI r2 19 (rsN r) 9) q := (nl_keep (qc := 29) (qw := 30) (qa := 31) (i := rsN r) (sep := 44) (by decide) (by decide) 5 _).2.1 q (by omega) (by omega)
    have n2 := SW.nl (qc := 29) (qw := 30) (qa := 31) (i := rsN r) (sep := 44) (u1 9) (by decide) (by decide) 5
    have e4 : ai (arF (tI r2 19 (rsN r) 9) (rsN r) 41).1 q j = v ∧ SW r (arF (tI r2 19 (rsN r) 9) (rsN r) 41).1 := by
      unfold arF
      split
      · exact ⟨by show ai (nlF _ _ _ _ _ _ _).1 q _ = _; rw [kq]; exact t1 9, n2⟩
      · refine ⟨?_, ?_⟩
        · show ai (takF _ _) q _ = _
          rw [ai_tak, kq]; exact t1 9
        · show SW r (takF _ _)
          unfold takF
          split
          · exact n2.adv
          · exact n2.s _ (by decide)
    split
    · split
      · exact e4.1
      · exact B _ _ e4.2 e4.1
    · exact B _ _ (u1 _) (t1 _)
/-- a statement's turn makes it the last one of its block -/
theorem end_rs {r : RV} (A : RIL r) (d0 : 0 < dN r) (hz : ¬ (isSt r = false ∨ ai r 18 (wN r) = 120)) : ai (rsF r) 45 (rsB r) = nI (rsN r) := by
  have lb : rsB r < nbN r := (A.o (j := dN r - 1) (by omega)).2.2.1
  rw [rs_keep A d0 hz (by omega), rsA_45, if_pos rfl]
/-- s is the last one of no open block -/
def NEN (s : Nat) (r : RV) : Prop := s < rsN r ∧ ∀ j, j < dN r → ¬ ai r 45 (obN r j) = nI s
theorem nen_turn {x : RV} {s : Nat} (A : RIL x) (hr : rng x) (ok : gi (stpF x) 1452 = -1) (O : OST x (stpF x)) (W : OW (AT x) x (stpF x)) (C : NEN s x) : NEN s (stpF x) ∧ ai (stpF x) 23 s = ai x 23 s := by
  obtain ⟨c1, c2⟩ := C
  obtain ⟨sm, sm2⟩ := small A
  obtain ⟨o1, o2, o3, ⟨o4, o4'⟩, k, hk, o5⟩ := O
  have old : ∀ j, j < dN x → ¬ ai (stpF x) 45 (obN x j) = nI s := fun j hj => by
    have l := ob_lt A hj
    by_cases h : AT x 45 (obN x j)
    · unfold AT at h
      rcases h with h | h | h | ⟨d0, h⟩ | ⟨d0, d1, h⟩ | ⟨d0, d1, n0, h⟩
      · omega
      · omega
      · omega
      · unfold ATo at h; omega
      · have d0' : 0 < dN x := by omega
        have e : obN x j = rsB x := by
          unfold ATs at h; omega
        have st : stpF x = rsF x := by unfold stpF; rw [if_neg d0, if_neg d1]
        have hz : ¬ (isSt x = false ∨ ai x 18 (wN x) = 120) := fun z => by
          rw [st] at ok
          unfold rsF at ok
          rw [if_pos z] at ok
          exact (MD.start A hr.1).fai ok
        rw [e, st, end_rs A d0' hz]
        intro y
        have := congrArg tn y
        rw [tn_nI sm, tn_nI (by omega)] at this
        omega
      · omega
    · rw [(W 45 _ h).1]; exact c2 j hj
  refine ⟨⟨by omega, fun j hj => ?_⟩, ?_⟩
  · rcases o5 with ⟨d, e, -⟩ | ⟨d, e, e2, -, e3, -⟩
    · have : obN (stpF x) j = obN x j := by unfold obN; rw [e]
      rw [this]
      exact old j (by unfold HKK at hk; omega)
    · by_cases z : j = k
      · have : obN (stpF x) j = nbN x := by unfold obN; rw [z, e2, tn_nI sm2]
        rw [this, e3]
        exact fun y => nI_ne_m1 (by omega) y.symm
      · have : obN (stpF x) j = obN x j := by unfold obN; rw [e j (by omega)]
        rw [this]
        exact old j (by unfold HKK at hk; omega)
  · refine (W 23 s (fun h => ?_)).1
    unfold AT at h
    rcases h with h | h | h | ⟨d0, h⟩ | ⟨d0, d1, h⟩ | ⟨d0, d1, n0, h⟩
    · omega
    · omega
    · omega
    · unfold ATo at h; omega
    · unfold ATs at h
      have dp := dN_pos A d0
      rcases h with ⟨-, h | h | h | ⟨-, h1, h2⟩ | h⟩
      · omega
      · omega
      · omega
      · obtain ⟨-, -, -, -, o5⟩ := A.o (j := dN x - 1) (by omega)
        have o5 : ai x 45 (rsB x) = -1 ∨ ∃ e, ai x 45 (rsB x) = nI e ∧ wN x * 120 ≤ e ∧ e < rsN x ∧ ai x 21 e = nI (rsB x) := o5
        rcases o5 with o5 | ⟨e', q1, l1, l2, l3⟩
        · exact h1 o5
        · rw [q1, tn_nI (by omega)] at h2
          exact c2 (dN x - 1) (by omega) (by rw [h2]; exact q1)
      · omega
    · omega
theorem nen_en {r R : RV} {s : Nat} (E : ENR r R) (A : RIL r) (C : NEN s r) : ai R 23 s = ai r 23 s := by
  have := (en_ind (P := fun x => NEN s x ∧ ai x 23 s = ai r 23 s) (fun x A hr ok _ O W p => by
    obtain ⟨n1, n2⟩ := nen_turn A hr ok O W p.1
    exact ⟨n1, n2.trans p.2⟩) E A ⟨C, rfl⟩).1
  exact this.2
