/-! Blocks around blocks -/
def lmF (r : RV) : Nat → Nat → Nat
  | 0, _ => 0
  | f + 1, b => (if ai r 40 b = 1 ∨ ai r 40 b = 8 then 1 else 0) + (match upB r b with
    | none => 0
    | some j => lmF r f j)
/-- how many lambdas are around, b itself too -/
def lmB (r : RV) (b : Nat) : Nat := lmF r 2048 b
def ccF (r : RV) : Nat → Nat → List Nat
  | 0, _ => []
  | f + 1, b => (if ai r 40 b = 6 then [prC r b] else []) ++ (match upB r b with
    | none => []
    | some j => ccF r f j)
/-- the catches around, the innermost first -/
def cch (r : RV) (b : Nat) : List Nat := ccF r 2048 b
/-- a break here belongs to a loop -/
def inL (r : RV) (b : Nat) : Bool := decide (¬ tgF r 2048 b = none)
def UPD (r : RV) : Prop := nbN r ≤ wN r * 1024 + 1024 ∧ wN r < 2 ∧ (∀ b, wN r * 1024 ≤ b → b < nbN r → (ai r 41 b = -1 ∧ ai r 40 b = 0) ∨ (¬ ai r 40 b = 0 ∧ ∃ s j, ai r 41 b = nI s ∧ wN r * 120 ≤ s ∧ s < rsN r ∧ s < 240 ∧ ai r 21 s = nI j ∧ wN r * 1024 ≤ j ∧ j < b)) ∧ (∀ b, wN r * 1024 ≤ b → b < nbN r → ai r 40 b = 6 → tn (ai r 42 b) < 4) ∧
  ∀ s, wN r * 120 ≤ s → s < rsN r → ∃ j, ai r 21 s = nI j ∧ wN r * 1024 ≤ j ∧ j < nbN r
theorem upB_of {r : RV} {b s j : Nat} (h1 : ai r 41 b = nI s) (hs : s < 2 ^ 31) (h2 : ai r 21 s = nI j) (hj : j < 2 ^ 31) : upB r b = some j := by
  unfold upB
  rw [h1, oN_nI hs]
  show oN (ai r 21 s) = some j
  rw [h2, oN_nI hj]
theorem upB_none {r : RV} {b : Nat} (h1 : ai r 41 b = -1) : upB r b = none := by
  unfold upB
  rw [h1, oN_m1]
theorem UPD.lt {r : RV} (U : UPD r) {b j : Nat} (h1 : wN r * 1024 ≤ b) (h2 : b < nbN r) (e : upB r b = some j) : wN r * 1024 ≤ j ∧ j < b := by
  obtain ⟨u1, u2, u3, u6, u4⟩ := U
  rcases u3 b h1 h2 with ⟨z, -⟩ | ⟨-, s, j', e1, l1, l2, l3, e2, l4, l5⟩
  · rw [upB_none z] at e; cases e
  · rw [upB_of e1 (by omega) e2 (by omega)] at e
    cases e
    exact ⟨l4, l5⟩
theorem lm_fuel {r : RV} (U : UPD r) : ∀ b, wN r * 1024 ≤ b → b < nbN r → ∀ f g, b < f → b < g → lmF r f b = lmF r g b := by
  intro b
  induction b using Nat.strongRecOn with
  | ind b ih =>
    intro h1 h2 f g hf hg
    obtain ⟨f, rfl⟩ : ∃ k, f = k + 1 := ⟨f - 1, by omega⟩
    obtain ⟨g, rfl⟩ : ∃ k, g = k + 1 := ⟨g - 1, by omega⟩
    rw [lmF, lmF]
    cases e : upB r b with
    | none => rfl
    | some j =>
      have := U.lt h1 h2 e
      show _ + lmF r f j = _ + lmF r g j
      rw [ih j this.2 this.1 (by omega) f g (by omega) (by omega)]
theorem cc_fuel {r : RV} (U : UPD r) : ∀ b, wN r * 1024 ≤ b → b < nbN r → ∀ f g, b < f → b < g → ccF r f b = ccF r g b := by
  intro b
  induction b using Nat.strongRecOn with
  | ind b ih =>
    intro h1 h2 f g hf hg
    obtain ⟨f, rfl⟩ : ∃ k, f = k + 1 := ⟨f - 1, by omega⟩
    obtain ⟨g, rfl⟩ : ∃ k, g = k + 1 := ⟨g - 1, by omega⟩
    rw [ccF, ccF]
    cases e : upB r b with
    | none => rfl
    | some j =>
      have := U.lt h1 h2 e
      show _ ++ ccF r f j = _ ++ ccF r g j
      rw [ih j this.2 this.1 (by omega) f g (by omega) (by omega)]
theorem tg_fuel {r : RV} (U : UPD r) : ∀ b, wN r * 1024 ≤ b → b < nbN r → ∀ f g, b < f → b < g → tgF r f b = tgF r g b := by
  intro b
  induction b using Nat.strongRecOn with
  | ind b ih =>
    intro h1 h2 f g hf hg
    obtain ⟨f, rfl⟩ : ∃ k, f = k + 1 := ⟨f - 1, by omega⟩
    obtain ⟨g, rfl⟩ : ∃ k, g = k + 1 := ⟨g - 1, by omega⟩
    rw [tgF, tgF]
    cases e : upB r b with
    | none => rfl
    | some j =>
      have := U.lt h1 h2 e
      show (if _ then _ else if _ then _ else tgF r f j) = (if _ then _ else if _ then _ else tgF r g j)
      rw [ih j this.2 this.1 (by omega) f g (by omega) (by omega)]
section
variable {r : RV} (U : UPD r) {b : Nat} (h1 : wN r * 1024 ≤ b) (h2 : b < nbN r)
theorem UPD.b2 (U : UPD r) (h2 : b < nbN r) : b < 2048 := by
  have := U.1
  have := U.2.1
  omega
theorem lm_up (U : UPD r) (h1 : wN r * 1024 ≤ b) (h2 : b < nbN r) {j : Nat} (e : upB r b = some j) : lmB r b = (if ai r 40 b = 1 ∨ ai r 40 b = 8 then 1 else 0) + lmB r j := by
  have l := U.lt h1 h2 e
  have l2 := U.b2 h2
  unfold lmB
  rw [lmF, e, lm_fuel U j l.1 (by omega) 2048 2047 (by omega) (by omega)]
theorem lm_top {r : RV} {b : Nat} (e : upB r b = none) : lmB r b = (if ai r 40 b = 1 ∨ ai r 40 b = 8 then 1 else 0) := by
  unfold lmB
  rw [lmF, e]
  exact Nat.add_zero _
theorem cc_up (U : UPD r) (h1 : wN r * 1024 ≤ b) (h2 : b < nbN r) {j : Nat} (e : upB r b = some j) : cch r b = (if ai r 40 b = 6 then [prC r b] else []) ++ cch r j := by
  have l := U.lt h1 h2 e
  have l2 := U.b2 h2
  unfold cch
  rw [ccF, e, cc_fuel U j l.1 (by omega) 2048 2047 (by omega) (by omega)]
theorem cc_top {r : RV} {b : Nat} (e : upB r b = none) : cch r b = (if ai r 40 b = 6 then [prC r b] else []) := by
  unfold cch
  rw [ccF, e]
  exact List.append_nil _
theorem tg_up (U : UPD r) (h1 : wN r * 1024 ≤ b) (h2 : b < nbN r) {j : Nat} (e : upB r b = some j) : tgF r 2048 b = if ai r 40 b = 0 ∨ ai r 40 b = 1 ∨ ai r 40 b = 8 then none else if ai r 40 b = 4 then some (tn (ai r 41 b)) else tgF r 2048 j := by
  have l := U.lt h1 h2 e
  have l2 := U.b2 h2
  rw [tgF, e, tg_fuel U j l.1 (by omega) 2048 2047 (by omega) (by omega)]
end
/-- the parameter of a name: the first catch around that has it -/
theorem pr_find (r : RV) (x : Int64) : ∀ f b p, (prF r x f (some b) p).1 = (ccF r f b).find? (fun c => decide (al r 34 c = x)) := by
  intro f
  induction f with
  | zero => intro b p; rfl
  | succ f ih =>
    intro b p
    rw [prF, ccF]
    have rest : ∀ p, (prF r x f (upB r b) p).1 = (match upB r b with | none => [] | some j => ccF r f j).find? (fun c => decide (al r 34 c = x)) := fun p => by
      cases e : upB r b with
      | none => cases f <;> rfl
      | some j => exact ih j p
    by_cases z : ai r 40 b = 6
    · by_cases y : al r 34 (prC r b) = x
      · rw [if_pos ⟨z, y⟩, if_pos z]
        simp [y]
      · rw [if_neg (fun q => y q.2), if_pos z, rest]
        simp [y]
    · rw [if_neg (fun q => z q.1), if_neg z, rest]
      rfl
/-- whether a lambda lies between: by their numbers -/
theorem pr_pass {r : RV} (U : UPD r) (x : Int64) : ∀ f b p c p', wN r * 1024 ≤ b → b < nbN r → b < f → prF r x f (some b) p = (some c, p') → ∃ q, wN r * 1024 ≤ q ∧ q ≤ b ∧ ai r 40 q = 6 ∧ prC r q = c ∧ lmB r q ≤ lmB r b ∧ (p' = true ↔ p = true ∨ lmB r q < lmB r b) := by
  intro f
  induction f with
  | zero => intro b p c p' h1 h2 hf; omega
  | succ f ih =>
    intro b p c p' h1 h2 hf e
    rw [prF] at e
    by_cases z : ai r 40 b = 6 ∧ al r 34 (prC r b) = x
    · rw [if_pos z] at e
      cases e
      exact ⟨b, h1, Nat.le_refl _, z.1, rfl, Nat.le_refl _, by simp⟩
    · rw [if_neg z] at e
      cases eu : upB r b with
      | none =>
        rw [eu] at e
        cases f <;> cases e
      | some j =>
        rw [eu] at e
        have l := U.lt h1 h2 eu
        obtain ⟨q, q1, q2, q3, q4, q5, q6⟩ := ih j _ c p' l.1 (by omega) (by omega) e
        have lu := lm_up U h1 h2 eu
        refine ⟨q, q1, by omega, q3, q4, by omega, ?_⟩
        rw [q6, Bool.or_eq_true, decide_eq_true_eq]
        by_cases y : ai r 40 b = 1 ∨ ai r 40 b = 8
        · rw [if_pos y] at lu
          constructor
          · intro _; exact Or.inr (by omega)
          · intro _; exact Or.inl (Or.inr y)
        · rw [if_neg y] at lu
          constructor
          · rintro ((h | h) | h)
            · exact Or.inl h
            · exact absurd h y
            · exact Or.inr (by omega)
          · rintro (h | h)
            · exact Or.inl (Or.inl h)
            · exact Or.inr (by omega)
/-- a new statement stands in the innermost block -/
theorem inb_rs {x : RV} (A : RIL x) (hr : rng x) (d0 : ¬ gi x 1455 = 0) (d1 : ¬ gi x 1451 = 125) (ok : gi (stpF x) 1452 = -1) : ai (stpF x) 21 (rsN x) = nI (rsB x) ∧ ¬ (isSt x = false ∨ ai x 18 (wN x) = 120) ∧ stpF x = rsF x := by
  have dp := dN_pos A d0
  obtain ⟨A', O⟩ := turn A hr ok
  have sm := small A
  have st : stpF x = rsF x := by unfold stpF; rw [if_neg d0, if_neg d1]
  have hz : ¬ (isSt x = false ∨ ai x 18 (wN x) = 120) := fun z => by
    have ok' := ok
    rw [st] at ok'
    unfold rsF at ok'
    rw [if_pos z] at ok'
    exact (MD.start A hr.1).fai ok'
  have e := end_rs A dp hz
  rw [← st] at e
  refine ⟨?_, hz, st⟩
  obtain ⟨o1, o2, o3, ⟨o4, o4'⟩, k, hk, o5⟩ := O
  have kd : k = dN x := by
    rcases hk with ⟨z, -⟩ | ⟨-, z⟩
    · exact z
    · exact absurd z d1
  have top : dN x - 1 < dN (stpF x) ∧ ai (stpF x) 46 (dN x - 1) = ai x 46 (dN x - 1) := by
    rcases o5 with ⟨q, q2, -⟩ | ⟨q, q2, -⟩
    · exact ⟨by omega, by rw [q2]⟩
    · exact ⟨by omega, q2 _ (by omega)⟩
  have eo : obN (stpF x) (dN x - 1) = rsB x := by unfold obN; rw [top.2]; rfl
  obtain ⟨-, -, -, -, q5⟩ := A'.o top.1
  rw [eo, e] at q5
  rcases q5 with q5 | ⟨e', g1, g2, g3, g4⟩
  · exact absurd q5 (nI_ne_m1 sm.1)
  · have sm' := small A'
    have := congrArg tn g1
    rw [tn_nI sm.1, tn_nI (by omega)] at this
    rw [this]; exact g4
theorem upd_turn {x : RV} (A : RIL x) (hr : rng x) (ok : gi (stpF x) 1452 = -1) (U : UPD x) : UPD (stpF x) := by
  obtain ⟨A', O⟩ := turn A hr ok
  have W := ow_turn (RIL_pre A)
  have F := fz_turn A O W FZ.rf
  have sm := small A
  have sm' := small A'
  have O0 := O
  obtain ⟨o1, o2, o3, ⟨o4, o4'⟩, k, hk, o5⟩ := O
  obtain ⟨u1, u2, u3, u6, u4⟩ := U
  have ew : wN (stpF x) = wN x := F.1.1
  have nbm : nbN x ≤ nbN (stpF x) := F.1.2.2.1
  have rsm : rsN x ≤ rsN (stpF x) := F.1.2.1
  have e1 : rsN (stpF x) = wN x * 120 + nsC (stpF x) := by rw [← ew]; rfl
  have e2 : nbN (stpF x) = wN x * 1024 + nbC (stpF x) := by rw [← ew]; rfl
  have s2 := A'.s.2
  have b2 := A'.b.2.1
  -- a statement that comes new
  have news : rsN x < rsN (stpF x) → ai (stpF x) 21 (rsN x) = nI (rsB x) ∧ rsB x < nbN x ∧ wN x * 1024 ≤ rsB x := fun hlt => by
    have q : ¬ gi x 1455 = 0 ∧ ¬ gi x 1451 = 125 := by
      by_cases h : AT x 18 (wN x)
      · unfold AT at h
        rcases h with h | h | h | ⟨d0, h⟩ | ⟨d0, d1, h⟩ | ⟨d0, d1, n0, h⟩
        · omega
        · omega
        · omega
        · unfold ATo at h; omega
        · exact ⟨d0, d1⟩
        · omega
      · exfalso
        have := (W 18 _ h).1
        have : rsN (stpF x) = rsN x := by unfold rsN; rw [ew, this]
        omega
    have dp := dN_pos A q.1
    obtain ⟨-, l1, l2, -⟩ := A.o (j := dN x - 1) (by omega)
    exact ⟨(inb_rs A hr q.1 q.2 ok).1, l2, l1⟩
  refine ⟨by omega, by rw [ew]; exact u2, fun b h1 h2 => ?_, fun b h1 h2 h6 => ?_, fun s h1 h2 => ?_⟩
  · rw [ew] at h1 ⊢
    by_cases z : b < nbN x
    · rw [F.2.2.1 41 b (by omega) (by omega) z, F.2.2.1 40 b (by omega) (by omega) z]
      rcases u3 b h1 z with y | ⟨y, s, j, g1, g2, g3, g4, g5, g6, g7⟩
      · exact Or.inl y
      · exact Or.inr ⟨y, s, j, g1, g2, by omega, g4, by rw [(F.2.1 21 s (by omega) g3).1]; exact g5, g6, g7⟩
    · rcases o5 with ⟨-, -, q⟩ | ⟨q1, q2, q3, q4, q5, -, q6⟩
      · omega
      · have eb : b = nbN x := by omega
        obtain ⟨-, -, -, p4, -⟩ := A'.o (j := k) (by omega)
        have eo : obN (stpF x) k = nbN x := by unfold obN; rw [q3, tn_nI sm.2]
        rw [eo, ew] at p4
        rw [eb]
        rcases p4 with p4 | ⟨p0, s, p1, p2, p3, -⟩
        · exact Or.inl ⟨p4.2, p4.1⟩
        · refine Or.inr ⟨p0, s, ?_⟩
          rw [p1] at q6 ⊢
          rcases q6 with q6 | ⟨q6, q7⟩ | ⟨q6, q7⟩
          · exact absurd q6 (nI_ne_m1 (by omega))
          · have := congrArg tn q6
            rw [tn_nI (by omega), tn_nI sm.1] at this
            obtain ⟨n1, n2, n3⟩ := news q7
            exact ⟨rsB x, rfl, p2, p3, by omega, by rw [this]; exact n1, n3, n2⟩
          · have dp : 0 < dN x := by omega
            obtain ⟨-, l1, l2, -⟩ := A.o (j := dN x - 1) (by omega)
            rcases u3 (rsB x) l1 l2 with ⟨y, -⟩ | ⟨-, s', j, g1, g2, g3, g4, g5, g6, g7⟩
            · rw [y] at q6; exact absurd q6 (nI_ne_m1 (by omega))
            · rw [g1] at q6
              have := congrArg tn q6
              rw [tn_nI (by omega), tn_nI (by omega)] at this
              have l2 : rsB x < nbN x := l2
              exact ⟨j, rfl, p2, p3, by omega, by rw [this, (F.2.1 21 s' (by omega) g3).1]; exact g5, g6, by omega⟩
  · rw [ew] at h1
    by_cases z : b < nbN x
    · rw [F.2.2.1 42 b (by omega) (by omega) z]
      rw [F.2.2.1 40 b (by omega) (by omega) z] at h6
      exact u6 b h1 z h6
    · rcases o5 with ⟨-, -, q⟩ | ⟨q1, q2, q3, q4, q5, ⟨-, q7⟩, -⟩
      · omega
      · have eb : b = nbN x := by omega
        rw [eb] at h6 ⊢
        exact q7 h6
  · rw [ew] at h1 ⊢
    by_cases z : s < rsN x
    · obtain ⟨j, g1, g2, g3⟩ := u4 s h1 z
      exact ⟨j, by rw [(F.2.1 21 s (by omega) z).1]; exact g1, g2, by omega⟩
    · have es : s = rsN x := by omega
      obtain ⟨n1, n2, n3⟩ := news (by omega)
      exact ⟨rsB x, by rw [es]; exact n1, n3, by omega⟩
theorem upd_en {r R : RV} (E : ENR r R) (A : RIL r) (U : UPD r) : UPD R := (en_ind (P := fun x => UPD x) (fun x A hr ok _ _ _ p => upd_turn A hr ok p) E A U).1
theorem upd_0 {r : RV} (A : RIL r) (h1 : nbC r = 0) (h2 : nsC r = 0) : UPD r := by
  have e1 : rsN r = wN r * 120 + nsC r := rfl
  have e2 : nbN r = wN r * 1024 + nbC r := rfl
  exact ⟨by omega, A.w2, fun b _ _ => by omega, fun b _ _ => by omega, fun s _ _ => by omega⟩

/-- the catch block of a catch around has as many lambdas around as its try -/
theorem lm_catch {r : RV} (U : UPD r) {q c : Nat} (h1 : wN r * 1024 ≤ q) (h2 : q < nbN r) (h6 : ai r 40 q = 6) (hc : prC r q = c) : lmB r q = lmB r (tn (ai r 21 (c / 4))) := by
  obtain ⟨u1, u2, u3, u6, u4⟩ := id U
  have w4 := u6 q h1 h2 h6
  rcases u3 q h1 h2 with ⟨-, z⟩ | ⟨-, s, j, e1, l1, l2, l3, e2, l4, l5⟩
  · rw [h6] at z; exact absurd z (by decide)
  · have up := upB_of e1 (by omega) e2 (by omega)
    have ec : c / 4 = s := by
      rw [← hc]
      unfold prC
      rw [e1, tn_nI (by omega)]
      omega
    rw [lm_up U h1 h2 up, ec, e2, tn_nI (by omega), h6, if_neg (by decide), Nat.zero_add]
