/-! Reading a block -/
theorem rng_in {r : RV} (h1 : gi r 1452 = -1) (h2 : 0 < dN r) : rng r := ⟨h1, Or.inl (dN_0 h2)⟩
theorem goK_ok {k n : Nat} {r r' : RV} (g : goK k n r r') (ok : gi r' 1452 = -1) : gi r 1452 = -1 := by
  cases n with
  | zero => rw [← show r' = r from g]; exact ok
  | succ n => exact g.1.1
theorem FZ.tr {r r1 r2 : RV} (F1 : FZ r r1) (F2 : FZ r1 r2) : FZ r r2 := by
  obtain ⟨⟨f1, f2, f3, f4, f5, f6⟩, F12, F13, F14, F15, F16⟩ := F1
  obtain ⟨⟨g1, g2, g3, g4, g5, g6⟩, F22, F23, F24, F25, F26⟩ := F2
  refine ⟨⟨g1.trans f1, by omega, by omega, by omega, g5.trans f5, g6.trans f6⟩, fun q s hq hs => ?_, fun q b h1 h2 hb => ?_, fun s hs c => ?_, fun q s i h1 h2 hs c hi => ?_, fun q s i j hq hs c hi hj => ?_⟩
  · exact ⟨(F22 q s hq (by omega)).1.trans (F12 q s hq hs).1, (F22 q s hq (by omega)).2.trans (F12 q s hq hs).2⟩
  · exact (F23 q b h1 h2 (by omega)).trans (F13 q b h1 h2 hb)
  · obtain ⟨c1, c2⟩ := F14 s hs c
    obtain ⟨c3, c4⟩ := F24 s (by omega) c1
    exact ⟨c3, by omega⟩
  · obtain ⟨c1, c2⟩ := F14 s hs c
    have y := F25 q s i h1 h2 (by omega) c1 (by omega)
    exact ⟨y.1.trans (F15 q s i h1 h2 hs c hi).1, y.2.trans (F15 q s i h1 h2 hs c hi).2⟩
  · obtain ⟨c1, c2⟩ := F14 s hs c
    have y := F26 q s i j hq (by omega) c1 (by omega) hj
    exact ⟨y.1.trans (F16 q s i j hq hs c hi hj).1, y.2.trans (F16 q s i j hq hs c hi hj).2⟩
/-- a statement's turn, and the turns above it -/
theorem st_seg {r r' : RV} {n : Nat} (A : RIL r) (hr : rng r) (d0 : 0 < dN r) (d1 : ¬ gi r 1451 = 125) (g : goK (dN r) n (stpF r) r') (ok : gi r' 1452 = -1) : gi (stpF r) 1452 = -1 ∧ RIL (stpF r) ∧ OST r (stpF r) ∧ RIL r' ∧ FZ r (stpF r) ∧ FZ (stpF r) r' ∧ KPK (dN r) (stpF r) r' ∧ dN r ≤ dN (stpF r) ∧ ∀ j, j < dN r → ai (stpF r) 46 j = ai r 46 j := by
  have ok1 := goK_ok g ok
  obtain ⟨A1, O⟩ := turn A hr ok1
  have W := ow_turn (RIL_pre A)
  have F1 := fz_turn A O W FZ.rf
  have O0 := O
  obtain ⟨o1, o2, o3, ⟨o4, o4'⟩, k, hk, o5⟩ := O
  have kd : k = dN r := by
    rcases hk with ⟨z, -⟩ | ⟨-, z⟩
    · exact z
    · exact absurd z d1
  have top : dN r ≤ dN (stpF r) ∧ ∀ j, j < dN r → ai (stpF r) 46 j = ai r 46 j := by
    rcases o5 with ⟨q, q2, -⟩ | ⟨q, q2, -⟩
    · exact ⟨by omega, fun j _ => by rw [q2]⟩
    · exact ⟨by omega, fun j hj => q2 _ (by omega)⟩
  obtain ⟨A2, F2, K2⟩ := frk A1 g ok top.1
  exact ⟨ok1, A1, O0, A2, F1, F2, K2, top⟩
/-- the statement ahead is linked to the new one -/
theorem nen_next {x : RV} (A : RIL x) (hr : rng x) (d0 : ¬ gi x 1455 = 0) (d1 : ¬ gi x 1451 = 125) (ok : gi (stpF x) 1452 = -1) : (∀ e, ai x 45 (rsB x) = nI e → e < rsN x → NEN e (stpF x) ∧ ai (stpF x) 23 e = nI (rsN x)) ∧ ai (stpF x) 23 (rsN x) = -1 ∧ ai (stpF x) 45 (rsB x) = nI (rsN x) ∧ ai (stpF x) 44 (rsB x) = (if ai x 45 (rsB x) = -1 then nI (rsN x) else ai x 44 (rsB x)) := by
  obtain ⟨i1, hz, st⟩ := inb_rs A hr d0 d1 ok
  have dp := dN_pos A d0
  obtain ⟨A', O⟩ := turn A hr ok
  have W := ow_turn (RIL_pre A)
  have F := fz_turn A O W FZ.rf
  have sm := small A
  have sm' := small A'
  have lb : rsB x < nbN x := (A.o (j := dN x - 1) (by omega)).2.2.1
  have en : ai (stpF x) 45 (rsB x) = nI (rsN x) := by rw [st]; exact end_rs A dp hz
  have o5 := (A.o (j := dN x - 1) (by omega)).2.2.2.2
  have o5 : ai x 45 (rsB x) = -1 ∨ ∃ e, ai x 45 (rsB x) = nI e ∧ wN x * 120 ≤ e ∧ e < rsN x ∧ ai x 21 e = nI (rsB x) := o5
  refine ⟨fun e he hel => ⟨⟨by have := F.1.2.1; omega, fun j hj y => ?_⟩, ?_⟩, ?_, en, ?_⟩
  · obtain ⟨-, -, p3, -, p5⟩ := A'.o hj
    rcases p5 with p5 | ⟨e', g1, g2, g3, g4⟩
    · rw [p5] at y; exact nI_ne_m1 (by omega) y.symm
    · rw [g1] at y
      have := congrArg tn y
      rw [tn_nI (by omega), tn_nI (by omega)] at this
      subst this
      rcases o5 with o5 | ⟨e'', q1, q2, q3, q4⟩
      · rw [o5] at he; exact nI_ne_m1 (by omega) he.symm
      · rw [he] at q1
        have := congrArg tn q1
        rw [tn_nI (by omega), tn_nI (by omega)] at this
        subst this
        rw [(F.2.1 21 e' (by omega) hel).1, q4] at g4
        have := congrArg tn g4
        rw [tn_nI (by omega), tn_nI (by omega)] at this
        rw [← this, en] at g1
        have := congrArg tn g1
        rw [tn_nI sm.1, tn_nI (by omega)] at this
        omega
  · rw [st, rs_keep A dp hz (by omega), rsA_23, if_pos]
    rw [he]
    exact ⟨nI_ne_m1 (by omega), (tn_nI (by omega)).symm⟩
  · rw [st, rs_keep A dp hz (by omega), rsA_23, if_neg, if_pos rfl]
    rintro ⟨h1, h2⟩
    rcases o5 with o5 | ⟨e'', q1, q2, q3, q4⟩
    · exact h1 o5
    · rw [q1, tn_nI (by omega)] at h2
      omega
  · rw [st, rs_keep A dp hz (by omega), rsA_44]
    by_cases z : ai x 45 (rsB x) = -1
    · rw [if_pos ⟨rfl, z⟩, if_pos z]
    · rw [if_neg (fun y => z y.2), if_neg z]
/-- where a block ends, all of it stands as it will -/
theorem blk_end {rc R : RV} (A : RIL rc) (hr : gi rc 1452 = -1) (g : gi rc 1451 = 125) (dp : 0 < dN rc) (E : ENR rc R) : (ai R 44 (rsB rc) = ai rc 44 (rsB rc) ∧ ai R 45 (rsB rc) = ai rc 45 (rsB rc)) ∧ ∀ s, s < rsN rc → ai rc 21 s = nI (rsB rc) → ai R 23 s = ai rc 23 s := by
  have rg := rng_in hr dp
  have E' := E.step rg
  have ok := E'.right
  obtain ⟨A', O⟩ := turn A rg ok
  have W := ow_turn (RIL_pre A)
  have F := fz_turn A O W FZ.rf
  have sm := small A
  have lb : rsB rc < nbN rc := (A.o (j := dN rc - 1) (by omega)).2.2.1
  have C : CLB (rsB rc) (stpF rc) := by
    obtain ⟨o1, o2, o3, ⟨o4, o4'⟩, k, hk, o5⟩ := O
    have kd : k + 1 = dN rc := by
      rcases hk with ⟨-, z | z⟩ | ⟨z, -⟩
      · exact absurd z (dN_0 dp)
      · exact absurd g z
      · exact z
    have lo : ∀ j, j < k → ¬ obN rc j = rsB rc := fun j hj => (A.dj (i := j) (j := dN rc - 1) (by omega) (by omega)).2
    refine ⟨by have := F.1.2.2.1; omega, fun j hj => ?_⟩
    rcases o5 with ⟨q, q2, -⟩ | ⟨q, q2, q3, -⟩
    · have : obN (stpF rc) j = obN rc j := by unfold obN; rw [q2]
      rw [this]; exact lo j (by omega)
    · by_cases y : j = k
      · have : obN (stpF rc) j = nbN rc := by unfold obN; rw [y, q3, tn_nI sm.2]
        rw [this]; omega
      · have : obN (stpF rc) j = obN rc j := by unfold obN; rw [q2 j (by omega)]
        rw [this]; exact lo j (by omega)
  have no : ∀ q i, q = 23 ∨ ((q = 44 ∨ q = 45) ∧ i = rsB rc) → ¬ AT rc q i := fun q i hq h => by
    unfold AT at h
    rcases h with h | h | h | ⟨d0, h⟩ | ⟨d0, d1, h⟩ | ⟨d0, d1, n0, h⟩
    · omega
    · omega
    · omega
    · unfold ATo at h; omega
    · exact d1 g
    · omega
  obtain ⟨⟨c1, c2⟩, c3⟩ := clb_en E' A' C
  refine ⟨⟨c1.trans (W 44 _ (no _ _ (by omega))).1, c2.trans (W 45 _ (no _ _ (by omega))).1⟩, fun s hs h21 => ?_⟩
  refine (c3 s (by have := F.1.2.1; omega) ?_).trans (W 23 _ (no _ _ (by omega))).1
  rw [(F.2.1 21 s (by omega) hs).1]; exact h21
/-- what comes above level k stands in new blocks -/
theorem inb_seg {k nb : Nat} : ∀ {n : Nat} {r r' : RV}, RIL r → goK k n r r' → gi r' 1452 = -1 → k ≤ dN r → nb ≤ nbN r → (∀ j, k ≤ j → j < dN r → nb ≤ obN r j) → (∀ s, rsN r ≤ s → s < rsN r' → ∃ j, ai r' 21 s = nI j ∧ nb ≤ j ∧ j < nbN r') ∧ ∀ j, k ≤ j → j < dN r' → nb ≤ obN r' j := by
  intro n
  induction n with
  | zero => intro r r' A a _ hk hn ho; rw [show r' = r from a]; exact ⟨fun s h1 h2 => by omega, ho⟩
  | succ n ih =>
    intro r r' A a ok hk hn ho
    have ok1 := goK_ok a.2.2.2 ok
    obtain ⟨A1, O⟩ := turn A a.1 ok1
    have W := ow_turn a.2.1
    have F1 := fz_turn A O W FZ.rf
    have K1 := kpk_turn A a.2.2.1 O W
    have sm := small A
    have O0 := O
    obtain ⟨o1, o2, o3, ⟨o4, o4'⟩, kk, hkk, o5⟩ := O
    have nbm := F1.1.2.2.1
    have ho1 : ∀ j, k ≤ j → j < dN (stpF r) → nb ≤ obN (stpF r) j := fun j h1 h2 => by
      unfold HKK at hkk
      rcases o5 with ⟨q, q2, -⟩ | ⟨q, q2, q3, -⟩
      · have : obN (stpF r) j = obN r j := by unfold obN; rw [q2]
        rw [this]; exact ho j h1 (by omega)
      · by_cases y : j = kk
        · have : obN (stpF r) j = nbN r := by unfold obN; rw [y, q3, tn_nI sm.2]
          rw [this]; exact hn
        · have : obN (stpF r) j = obN r j := by unfold obN; rw [q2 j (by omega)]
          rw [this]; exact ho j h1 (by omega)
    obtain ⟨i1, i2⟩ := ih A1 a.2.2.2 ok K1.1 (by omega) ho1
    obtain ⟨A2, F2, -⟩ := frk A1 a.2.2.2 ok K1.1
    refine ⟨fun s h1 h2 => ?_, i2⟩
    by_cases y : rsN (stpF r) ≤ s
    · exact i1 s y h2
    · have es : s = rsN r := by omega
      have q : ¬ gi r 1455 = 0 ∧ ¬ gi r 1451 = 125 := by
        by_cases h : AT r 18 (wN r)
        · unfold AT at h
          rcases h with h | h | h | ⟨d0, h⟩ | ⟨d0, d1, h⟩ | ⟨d0, d1, n0, h⟩
          · omega
          · omega
          · omega
          · unfold ATo at h; omega
          · exact ⟨d0, d1⟩
          · omega
        · exfalso
          have := (W 18 _ h).1
          have : rsN (stpF r) = rsN r := by unfold rsN; rw [F1.1.1, this]
          omega
      have dp := dN_pos A q.1
      have lb : rsB r < nbN r := (A.o (j := dN r - 1) (by omega)).2.2.1
      have kd := a.2.2.1
      refine ⟨rsB r, ?_, ho (dN r - 1) (by omega) (by omega), by have := F2.1.2.2.1; omega⟩
      rw [es, (F2.2.1 21 (rsN r) (by omega) (by omega)).1]
      exact (inb_rs A a.1 q.1 q.2 ok1).1
/-- what is known while the block's statements come, if the text is right: rr the state, e the last one -/
def LPD (h h1 : AH) (U : Nat) (R : RV) (G G1 : Nat → Nat → Nat) (r2 rr : RV) (b x : Nat) (last : Option Nat) (ks ks1 : List Nat) (fS1 : Nat → Nat) : Prop :=
  GA (rsN r2) b G G1 ∧ (∀ k, k < nsC rr → fS1 k = G1 0 (wN r2 * 120 + k)) ∧ (G1 1 b = x ∧ G1 4 b = rsN r2) ∧
  (∀ c, c ∈ cch R b → fI h1 10304 (G 2 c) = (if stR R (rsN r2) (rsN rr) c then 1 else fI h 10304 (G 2 c))) ∧ CTK ks1 (flr (mpS R) (rsN rr - rsN r2) (rsN r2)) ks ∧ sumN (wtS R) (rsN rr - rsN r2) (rsN r2) + 2 * (nbN rr - nbN r2) + qN r2 ≤ qN rr ∧
  ((rsN rr = rsN r2 ∧ nbN rr = b + 1 ∧ last = none ∧ fP h1 30201 x = none ∧ ai rr 45 b = -1 ∧ ai rr 44 b = -1) ∨
   ∃ e, last = some (G1 0 e) ∧ rsN r2 ≤ e ∧ e < rsN rr ∧ AD h1 U (x + 1) (tp h1) R G1 (fun s => s = e) (rsN r2) (rsN rr) (b + 1) (nbN rr) ∧ fP h1 30201 x = some (G1 0 (rsN r2)) ∧ ai rr 45 b = nI e ∧ ai rr 44 b = nI (rsN r2) ∧ ai rr 23 e = -1 ∧ ai R 21 e = nI b ∧ ai R 21 (rsN r2) = nI b ∧ G1 3 e = rsN rr ∧
     ∀ s, rsN r2 ≤ s → s < rsN rr → ai R 21 s = nI b → ¬ s = e → G1 3 s < rsN rr ∧ ai R 23 s = nI (G1 3 s) ∧ ai R 21 (G1 3 s) = nI b)
