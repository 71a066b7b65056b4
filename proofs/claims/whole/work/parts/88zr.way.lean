/-! Outside of blocks: methods; what the reference keeps -/
def KE8 (r X : RV) : Prop := gi X 1402 = gi r 1402 ∧ ai X 8 = ai r 8
theorem KE8.rmC {r X : RV} {m : Nat} (k : KE8 r X) : KE8 r (rmC X m) := by
  unfold Jvm.Pilot.CThrowRulesLaw_law_r5179_b2991a.rmC
  split
  · exact ⟨by rw [gi_adv]; exact k.1, by rw [ai_adv, ai_ne (by decide)]; exact k.2⟩
  · exact ⟨k.1, by rw [ai_ne (by decide)]; exact k.2⟩
theorem KE8.rmD {r X : RV} {m : Nat} (k : KE8 r X) : KE8 r (rmD X m).1 := by
  unfold Jvm.Pilot.CThrowRulesLaw_law_r5179_b2991a.rmD
  split
  · obtain ⟨-, k1, k2⟩ := nl_keep (qc := 14) (qw := 15) (qa := 16) (i := m) (sep := 44) (by decide) (by decide) 5 X
    exact ⟨by rw [k2 1402 (by decide) (by decide) (by decide) (by decide) (by decide)]; exact k.1, by rw [k1 8 (by decide) (by decide)]; exact k.2⟩
  · exact k
theorem rmU_8 {r X : RV} (k : KE8 r X) : ai (rmU X) 8 = ai (rmU r) 8 := by
  have w : wN X = wN r := by unfold wN; rw [k.1]
  unfold rmU
  funext j
  rw [ai_tI, ai_tI, w, k.2]
theorem rmG_8 {r X : RV} {m : Nat} (k : KE8 r X) : ai (rmG X m) 8 = ai r 8 ∨ ai (rmG X m) 8 = ai (rmU r) 8 := by
  unfold rmG
  have k2 := (k.rmC (m := m)).rmD (m := m)
  split
  · exact Or.inl k2.2
  · refine Or.inr ?_
    unfold rmE
    split
    · rw [ai_adv]; exact rmU_8 k2
    · rw [ai_ne (by decide), ai_op (by omega)]; exact rmU_8 k2
theorem gi_rmA (r : RV) (m : Nat) : gi (rmA r m) = gi r := rfl
theorem gi_rmO (r : RV) (m : Nat) : gi (rmO r m) = gi r := rfl
theorem rmB_8 {r X : RV} {m : Nat} (k0 : KE8 r X) : ai (rmB X m) 8 = ai r 8 ∨ ai (rmB X m) 8 = ai (rmU r) 8 := by
  unfold rmB
  split
  · split
    · exact Or.inl (by rw [ai_fai, ai_adv]; exact k0.2)
    · exact rmG_8 ⟨by rw [gi_rmO, gi_nam, gi_adv]; exact k0.1, by rw [ai8_rmO, ai_nam, ai_adv]; exact k0.2⟩
  · exact rmG_8 k0
theorem rm_8 (r : RV) : ai (rmF r) 8 = ai r 8 ∨ ai (rmF r) 8 = ai (rmU r) 8 := by
  unfold rmF
  split
  · exact Or.inl rfl
  split
  · exact Or.inl (by rw [ai_fai, ai_adv])
  exact rmB_8 ⟨by rw [gi_rmA, gi_nam, gi_adv], by rw [ai8_rmA, ai_nam, ai_adv]⟩
/-- what was told of a method stays -/
theorem fm_en {r R : RV} (E : ENR r R) (A : RIL r) : nmN r ≤ nmN R ∧ nmN R ≤ 12 ∧ (∀ q i, (9 ≤ q ∧ q ≤ 14) ∨ q = 17 → i < rmI r → ai R q i = ai r q i ∧ al R q i = al r q i) ∧ ∀ q i, q = 15 ∨ q = 16 → i / 4 < rmI r → ai R q i = ai r q i ∧ al R q i = al r q i := by
  have := (en_ind (P := fun x => FZ r x ∧ nmN r ≤ nmN x ∧ (∀ q i, (9 ≤ q ∧ q ≤ 14) ∨ q = 17 → i < rmI r → ai x q i = ai r q i ∧ al x q i = al r q i) ∧ ∀ q i, q = 15 ∨ q = 16 → i / 4 < rmI r → ai x q i = ai r q i ∧ al x q i = al r q i) (fun x A hr ok A' O W p => ?_) E A ⟨FZ.rf, Nat.le_refl _, fun _ _ _ _ => ⟨rfl, rfl⟩, fun _ _ _ _ => ⟨rfl, rfl⟩⟩)
  · obtain ⟨⟨F, a, b, c⟩, RR⟩ := this
    exact ⟨a, RR.2.2.2.2.2.1.2, b, c⟩
  · obtain ⟨F, p1, p2, p3⟩ := p
    have fw := F.1.1
    have ew : wN (stpF x) = wN x := by unfold wN; rw [O.1]
    have rmi : rmI r = wN r * 12 + nmN r := rfl
    have rmx : rmI x = wN r * 12 + nmN x := by show wN x * 12 + nmN x = _; rw [fw]
    have c8 := A.2.2.2.2.2.1
    refine ⟨fz_turn A O W F, ?_, fun q i h1 h2 => ?_, fun q i h1 h2 => ?_⟩
    · by_cases d0 : gi x 1455 = 0
      · by_cases z : gl x 21450 = 7823737
        · have st : stpF x = rmF x := by
            unfold stpF
            rw [if_pos d0, if_neg (by rw [z]; decide), if_pos z]
          have e : nmN (stpF x) = tn (ai (rmF x) 8 (wN x)) := by unfold nmN; rw [ew, st]
          rcases rm_8 x with y | y
          · rw [e, y]; exact p1
          · rw [e, y]
            unfold rmU
            rw [ai_tI, if_pos ⟨rfl, rfl⟩, c8.1, lt1, nI_add, tn_nI (by have := c8.2; omega)]
            have : nmN x = tn (ai x 8 (wN x)) := rfl
            omega
        · have : ai (stpF x) 8 (wN x) = ai x 8 (wN x) := (W 8 _ (fun h => by
            unfold AT at h
            rcases h with h | h | h | ⟨-, h⟩ | ⟨d1, -⟩ | ⟨d1, -⟩
            · omega
            · omega
            · omega
            · unfold ATo at h
              rcases h with ⟨-, h⟩ | ⟨h, -⟩
              · omega
              · exact z h
            · exact d1 d0
            · exact d1 d0)).1
          have : nmN (stpF x) = nmN x := by unfold nmN; rw [ew, this]
          omega
      · have := (lo_turn W d0 (q := 8) (by omega) (wN x)).1
        have : nmN (stpF x) = nmN x := by unfold nmN; rw [ew, this]
        omega
    · have := W q i (fun h => by
        unfold AT at h
        rcases h with h | h | h | ⟨-, h⟩ | ⟨-, -, h⟩ | ⟨-, -, h⟩
        · omega
        · omega
        · omega
        · unfold ATo at h; omega
        · unfold ATs at h; omega
        · unfold ATi at h; omega)
      exact ⟨this.1.trans (p2 q i h1 h2).1, this.2.trans (p2 q i h1 h2).2⟩
    · have := W q i (fun h => by
        unfold AT at h
        rcases h with h | h | h | ⟨-, h⟩ | ⟨-, -, h⟩ | ⟨-, -, h⟩
        · omega
        · omega
        · omega
        · unfold ATo at h; omega
        · unfold ATs at h; omega
        · unfold ATi at h; omega)
      exact ⟨this.1.trans (p3 q i h1 h2).1, this.2.trans (p3 q i h1 h2).2⟩
