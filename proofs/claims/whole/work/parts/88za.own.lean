/-! Statements with more than one block: who owns what -/
theorem own_seg {k m : Nat} : ∀ {n : Nat} {r r' : RV}, RIL r → goL k n r r' → gi r' 1452 = -1 → k < dN r → m ≤ rsN r → (∀ j, k < j → j < dN r → ai r 41 (obN r j) = -1 ∨ ∃ o, ai r 41 (obN r j) = nI o ∧ m ≤ o ∧ o < rsN r) → (∀ q, nbN r ≤ q → q < nbN r' → ai r' 41 q = -1 ∨ ∃ o, ai r' 41 q = nI o ∧ m ≤ o ∧ o < rsN r') ∧ ∀ j, k < j → j < dN r' → ai r' 41 (obN r' j) = -1 ∨ ∃ o, ai r' 41 (obN r' j) = nI o ∧ m ≤ o ∧ o < rsN r' := by
  intro n
  induction n with
  | zero => intro r r' A a _ hk hm ho; rw [show r' = r from a]; exact ⟨fun q h1 h2 => by omega, ho⟩
  | succ n ih =>
    intro r r' A a ok hk hm ho
    have ok1 := goK_ok (goL_K a.2.2.2.2) ok
    obtain ⟨A1, O⟩ := turn A a.1 ok1
    have W := ow_turn a.2.1
    have F1 := fz_turn A O W FZ.rf
    have sm := small A
    have hc := a.2.2.2.1
    obtain ⟨o1, o2, o3, ⟨o4, o4'⟩, kk, hkk, o5⟩ := O
    have nbm := F1.1.2.2.1
    have kd : k < kk ∧ kk ≤ dN r := by
      rcases hkk with ⟨z, -⟩ | ⟨z, z2⟩
      · omega
      · have := hc z2; omega
    have up : ∀ q, q < nbN r → (ai r 41 q = -1 ∨ ∃ o, ai r 41 q = nI o ∧ m ≤ o ∧ o < rsN r) → ai (stpF r) 41 q = -1 ∨ ∃ o, ai (stpF r) 41 q = nI o ∧ m ≤ o ∧ o < rsN (stpF r) := fun q hq z => by
      rw [F1.2.2.1 41 q (by omega) (by omega) hq]
      rcases z with z | ⟨o, z1, z2, z3⟩
      · exact Or.inl z
      · exact Or.inr ⟨o, z1, z2, by omega⟩
    have nw : (nbN r < nbN (stpF r) → ai (stpF r) 41 (nbN r) = -1 ∨ ∃ o, ai (stpF r) 41 (nbN r) = nI o ∧ m ≤ o ∧ o < rsN (stpF r)) ∧ k ≤ dN (stpF r) ∧ k < dN (stpF r) ∧ nbN (stpF r) ≤ nbN r + 1 ∧ ∀ j, k < j → j < dN (stpF r) → ai (stpF r) 41 (obN (stpF r) j) = -1 ∨ ∃ o, ai (stpF r) 41 (obN (stpF r) j) = nI o ∧ m ≤ o ∧ o < rsN (stpF r) := by
      rcases o5 with ⟨e, e2, e3⟩ | ⟨e, e2, e3, e4, e5, e6, e7⟩
      · refine ⟨fun z => by omega, by omega, by omega, by omega, fun j h1 h2 => ?_⟩
        have : obN (stpF r) j = obN r j := by unfold obN; rw [e2]
        rw [this]
        exact up _ (ob_lt A (by omega)) (ho j h1 (by omega))
      · have own : ai (stpF r) 41 (nbN r) = -1 ∨ ∃ o, ai (stpF r) 41 (nbN r) = nI o ∧ m ≤ o ∧ o < rsN (stpF r) := by
          rcases e7 with e7 | ⟨e7, e8⟩ | ⟨e7, e8⟩
          · exact Or.inl e7
          · exact Or.inr ⟨rsN r, e7, hm, e8⟩
          · rw [e7]
            have := ho kk kd.1 (by omega)
            have eo : obN r kk = rsB r := by
              have : kk = dN r - 1 := by omega
              rw [this]; rfl
            rw [eo] at this
            rcases this with z | ⟨o, z1, z2, z3⟩
            · exact Or.inl z
            · exact Or.inr ⟨o, z1, z2, by omega⟩
        refine ⟨fun _ => own, by omega, by omega, by omega, fun j h1 h2 => ?_⟩
        by_cases y : j = kk
        · have : obN (stpF r) j = nbN r := by unfold obN; rw [y, e3, tn_nI sm.2]
          rw [this]; exact own
        · have : obN (stpF r) j = obN r j := by unfold obN; rw [e2 j (by omega)]
          rw [this]
          exact up _ (ob_lt A (by omega)) (ho j h1 (by omega))
    obtain ⟨n1, n2, n3, n4, n5⟩ := nw
    obtain ⟨i1, i2⟩ := ih A1 a.2.2.2.2 ok n3 (by omega) n5
    obtain ⟨A2, F2, -⟩ := frk A1 (goL_K a.2.2.2.2) ok n2
    refine ⟨fun q h1 h2 => ?_, i2⟩
    by_cases y : nbN (stpF r) ≤ q
    · exact i1 q y h2
    · have eq : q = nbN r := by omega
      rw [eq, F2.2.2.1 41 _ (by omega) (by omega) (by omega)]
      rcases n1 (by omega) with z | ⟨o, z1, z2, z3⟩
      · exact Or.inl z
      · exact Or.inr ⟨o, z1, z2, by have := F2.1.2.1; omega⟩
/-- what comes while one block is read -/
theorem seg_own {R r2 rc : RV} {D n b : Nat} (A2 : RIL r2) (d2 : dN r2 = D + 1) (b2 : rsB r2 = b) (nb : nbN r2 = b + 1) (g : goL D n r2 rc) (ec : gi rc 1452 = -1) (Ac : RIL rc) (EN : ENR rc R) : (∀ q, b + 1 ≤ q → q < nbN rc → ai R 41 q = -1 ∨ ∃ o, ai R 41 q = nI o ∧ rsN r2 ≤ o ∧ o < rsN rc) ∧ ∀ s, rsN r2 ≤ s → s < rsN rc → ∃ j, ai R 21 s = nI j ∧ b ≤ j ∧ j < nbN rc := by
  have F := FZ_en EN Ac
  have ob : obN r2 D = b := by
    rw [← b2]
    show tn (ai r2 46 D) = tn (ai r2 46 (dN r2 - 1))
    rw [d2, show D + 1 - 1 = D by omega]
  refine ⟨fun q h1 h2 => ?_, fun s h1 h2 => ?_⟩
  · have := (own_seg (m := rsN r2) A2 g ec (by omega) (Nat.le_refl _) (fun j h1 h2 => by omega)).1 q (by omega) h2
    rw [F.2.2.1 41 q (by omega) (by omega) h2]
    exact this
  · obtain ⟨j, e, l1, l2⟩ := (inb_seg (nb := b) A2 (goL_K g) ec (by omega) (by omega) (fun j h1 h2 => by
      have : j = D := by omega
      rw [this, ob]; exact Nat.le_refl _)).1 s h1 h2
    exact ⟨j, by rw [(F.2.1 21 s (by omega) h2).1]; exact e, l1, l2⟩
/-- the blocks of a statement so far: bs -/
def PBO (R r rc : RV) (bs : List Nat) : Prop := (∀ q, nbN r ≤ q → q < nbN rc → ai R 41 q = -1 ∨ ∃ o, ai R 41 q = nI o ∧ o < rsN rc ∧ (rsN r + 1 ≤ o ∨ (o = rsN r ∧ q ∈ bs))) ∧ ∀ s, rsN r + 1 ≤ s → s < rsN rc → ∃ j, ai R 21 s = nI j ∧ nbN r ≤ j ∧ j < nbN rc
theorem pbo_1 {R r rc : RV} {D n : Nat} (A2 : RIL (stpF r)) (d2 : dN (stpF r) = D + 1) (b2 : rsB (stpF r) = nbN r) (nb : nbN (stpF r) = nbN r + 1) (er : rsN (stpF r) = rsN r + 1) (r41 : ai (stpF r) 41 (nbN r) = nI (rsN r)) (g : goL D n (stpF r) rc) (ec : gi rc 1452 = -1) (Ac : RIL rc) (EN : ENR rc R) : PBO R r rc [nbN r] := by
  obtain ⟨p1, p2⟩ := seg_own A2 d2 b2 nb g ec Ac EN
  obtain ⟨-, F1, -⟩ := frk A2 (goL_K g) ec (by omega)
  have F := FZ_en EN Ac
  refine ⟨fun q h1 h2 => ?_, fun s h1 h2 => p2 s (by omega) h2⟩
  by_cases y : q = nbN r
  · refine Or.inr ⟨rsN r, ?_, by have := F1.1.2.1; omega, Or.inr ⟨rfl, by rw [y]; exact List.mem_singleton.mpr rfl⟩⟩
    rw [y, F.2.2.1 41 _ (by omega) (by omega) (by omega), F1.2.2.1 41 _ (by omega) (by omega) (by omega)]
    exact r41
  · rcases p1 q (by omega) h2 with z | ⟨o, z1, z2, z3⟩
    · exact Or.inl z
    · exact Or.inr ⟨o, z1, z3, Or.inl (by omega)⟩
theorem pbo_step {R r rc r2 rd : RV} {D n : Nat} {bs : List Nat} (P : PBO R r rc bs) (l1 : nbN r ≤ nbN rc) (l2 : rsN r + 1 ≤ rsN rc) (A2 : RIL r2) (d2 : dN r2 = D + 1) (b2 : rsB r2 = nbN rc) (nb : nbN r2 = nbN rc + 1) (er : rsN r2 = rsN rc) (r41 : ai r2 41 (nbN rc) = nI (rsN r)) (g : goL D n r2 rd) (ec : gi rd 1452 = -1) (Ac : RIL rd) (EN : ENR rd R) : PBO R r rd (bs ++ [nbN rc]) := by
  obtain ⟨p1, p2⟩ := seg_own A2 d2 b2 nb g ec Ac EN
  obtain ⟨-, F1, -⟩ := frk A2 (goL_K g) ec (by omega)
  have F := FZ_en EN Ac
  have m1 := F1.1.2.1
  have m2 := F1.1.2.2.1
  refine ⟨fun q h1 h2 => ?_, fun s h1 h2 => ?_⟩
  · by_cases y : q < nbN rc
    · rcases P.1 q h1 y with z | ⟨o, z1, z2, z3⟩
      · exact Or.inl z
      · refine Or.inr ⟨o, z1, by omega, ?_⟩
        rcases z3 with z3 | ⟨z3, z4⟩
        · exact Or.inl z3
        · exact Or.inr ⟨z3, List.mem_append.mpr (Or.inl z4)⟩
    · by_cases y2 : q = nbN rc
      · refine Or.inr ⟨rsN r, ?_, by omega, Or.inr ⟨rfl, List.mem_append.mpr (Or.inr (by rw [y2]; exact List.mem_singleton.mpr rfl))⟩⟩
        rw [y2, F.2.2.1 41 _ (by omega) (by omega) (by omega), F1.2.2.1 41 _ (by omega) (by omega) (by omega)]
        exact r41
      · rcases p1 q (by omega) h2 with z | ⟨o, z1, z2, z3⟩
        · exact Or.inl z
        · exact Or.inr ⟨o, z1, z3, Or.inl (by omega)⟩
  · by_cases y : s < rsN rc
    · obtain ⟨j, e, l1, l2⟩ := P.2 s h1 y
      exact ⟨j, e, l1, by omega⟩
    · obtain ⟨j, e, l1, l2⟩ := p2 s (by omega) h2
      exact ⟨j, e, by omega, l2⟩
/-- which catches of the statement itself lie around what was read so far -/
theorem noc {R r rc : RV} {bs : List Nat} {nc : Nat} (U : UPD R) (smc : rsN rc < 2 ^ 31 ∧ nbN rc < 2 ^ 31) (lo : wN R * 1024 ≤ nbN r) (hi : nbN rc ≤ nbN R) (v21 : ai R 21 (rsN r) = nI (rsB r)) (lb : rsB r < 2 ^ 31) (hc : ∀ c, c ∈ cch R (rsB r) → c / 4 < rsN r) (P : PBO R r rc bs) (hb : ∀ b, b ∈ bs → ai R 40 b = 6 → tn (ai R 42 b) < nc) : ∀ q, nbN r ≤ q → q < nbN rc → ∀ c, c ∈ cch R q → c / 4 = rsN r → c % 4 < nc := by
  obtain ⟨u1, u2, u3, u6, u4⟩ := id U
  intro q
  induction q using Nat.strongRecOn with
  | _ q ih =>
    intro h1 h2 c m e
    rcases u3 q (by omega) (by omega) with ⟨z, z0⟩ | ⟨-, s, j, e1, l1, l2, l3, e2, l4, l5⟩
    · rw [cc_top (upB_none z), z0, if_neg (by decide)] at m
      cases m
    · have up := upB_of e1 (by omega) e2 (by omega)
      rw [cc_up U (by omega) (by omega) up, List.mem_append] at m
      rcases P.1 q h1 h2 with z | ⟨o, z1, z2, z3⟩
      · rw [z] at e1; exact absurd e1.symm (nI_ne_m1 (by omega))
      have eo : o = s := by
        have := congrArg tn (z1.symm.trans e1)
        rw [tn_nI (by omega), tn_nI (by omega)] at this
        exact this
      rcases m with m | m
      · by_cases z6 : ai R 40 q = 6
        · rw [if_pos z6] at m
          have w4 := u6 q (by omega) (by omega) z6
          have ec : c = 4 * s + tn (ai R 42 q) := by
            have := List.mem_singleton.mp m
            rw [this]
            unfold prC
            rw [e1, tn_nI (by omega)]
          rcases z3 with z3 | ⟨z3, z4⟩
          · omega
          · have := hb q z4 z6
            omega
        · rw [if_neg z6] at m; cases m
      · rcases z3 with z3 | ⟨z3, z4⟩
        · obtain ⟨j', f1, f2, f3⟩ := P.2 o z3 z2
          have ej : j' = j := by
            rw [eo, e2] at f1
            have := congrArg tn f1
            rw [tn_nI (by omega), tn_nI (by omega)] at this
            exact this.symm
          exact ih j l5 (by omega) (by omega) c m e
        · have ej : j = rsB r := by
            rw [← eo, z3, v21] at e2
            have := congrArg tn e2
            rw [tn_nI (by omega), tn_nI (by omega)] at this
            exact this.symm
          rw [ej] at m
          have := hc c m
          omega
