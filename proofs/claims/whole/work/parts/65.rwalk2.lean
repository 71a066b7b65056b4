/-! The reference's walking: a statement begins, a block is left -/
/-- blocks that must be there -/
def BLK (r : RV) (w ns : Nat) : Prop := ∀ s, w * 120 ≤ s → s < w * 120 + ns → (ai r 19 s = 4 ∨ ai r 19 s = 5 ∨ ai r 19 s = 6 ∨ ai r 19 s = 9 ∨ ai r 19 s = 11 → ¬ ai r 26 s = -1) ∧ ∀ i, i < tn (ai r 32 s) → ¬ ai r 33 (4 * s + i) = -1
def stF (r : RV) (w nk c : Nat) : RV := fdn (fun i r' => match cgK r w nk c i with
  | none => tI r' 56 c (ai r' 56 c)
  | some x => tI r' 56 c (nI x)) (tn (ai r 36 c)) r
def begC (r : RV) (w nk nm s : Nat) : RV := match mN r w nm (al r 24 s) with
  | none => r
  | some m => if ai r 26 s = -1 ∨ ai r 13 (w * 12 + m) = 0 then dtF r w nk (w * 12 + m) else if drwV r 2 = 1 then pusF (drwF r) (tn (ai r 26 s)) else dtF (drwF r) w nk (w * 12 + m)
def begK (r : RV) (w nk s : Nat) : Int32 := match prS r s with
  | none => oI (kN r w nk (al r 24 s) (ai r 25 s))
  | some c => ai r 56 c
def begT (r : RV) (w nk s : Nat) : RV := if begK r w nk s = -1 then sI r 11457 (b2i (psS r s)) else thrW (sI r 11457 (b2i (psS r s))) (begK r w nk s)
def begS (r : RV) (w nk s : Nat) : RV := match prS r s with
  | none => sI r 11457 (b2i (psS r s))
  | some c => stF (sI r 11457 (b2i (psS r s))) w nk c
def begI (r : RV) (s : Nat) : RV := if drwV r 2 = 1 then pusF (drwF r) (tn (ai r 26 s)) else if ai r 27 s = -1 then drwF r else pusF (drwF r) (tn (ai r 27 s))
def begW (r : RV) (s : Nat) : RV := if drwV r 2 = 1 then pusF (drwF r) (tn (ai r 26 s)) else drwF r
def begB (r : RV) (s : Nat) : RV := sI (sI r 1466 (if tgS r s = none then 0 else 2)) 1467 (oI (tgS r s))
/-- a statement begins -/
def begF (r : RV) (w nk nm s : Nat) : RV := if ai r 19 s = 1 then begC r w nk nm s else if ai r 19 s = 2 then begT r w nk s else if ai r 19 s = 3 then begS r w nk s else if ai r 19 s = 4 then begI r s else if ai r 19 s = 5 then begW r s else if ai r 19 s = 7 then begB r s else if ai r 19 s = 8 then sI r 1466 3 else if ai r 19 s = 6 ∨ ai r 19 s = 9 ∨ ai r 19 s = 11 then pusF r (tn (ai r 26 s)) else r
theorem begF_1 {r : RV} {w nk nm s : Nat} (e : ai r 19 s = 1) : begF r w nk nm s = begC r w nk nm s := by
  unfold begF
  rw [if_pos e]
theorem begF_2 {r : RV} {w nk nm s : Nat} (e : ai r 19 s = 2) : begF r w nk nm s = begT r w nk s := by
  unfold begF
  rw [if_neg (by rw [e]; decide), if_pos e]
theorem begF_3 {r : RV} {w nk nm s : Nat} (e : ai r 19 s = 3) : begF r w nk nm s = begS r w nk s := by
  unfold begF
  rw [if_neg (by rw [e]; decide), if_neg (by rw [e]; decide), if_pos e]
theorem begF_4 {r : RV} {w nk nm s : Nat} (e : ai r 19 s = 4) : begF r w nk nm s = begI r s := by
  unfold begF
  rw [if_neg (by rw [e]; decide), if_neg (by rw [e]; decide), if_neg (by rw [e]; decide), if_pos e]
theorem begF_5 {r : RV} {w nk nm s : Nat} (e : ai r 19 s = 5) : begF r w nk nm s = begW r s := by
  unfold begF
  rw [if_neg (by rw [e]; decide), if_neg (by rw [e]; decide), if_neg (by rw [e]; decide), if_neg (by rw [e]; decide), if_pos e]
theorem begF_7 {r : RV} {w nk nm s : Nat} (e : ai r 19 s = 7) : begF r w nk nm s = begB r s := by
  unfold begF
  rw [if_neg (by rw [e]; decide), if_neg (by rw [e]; decide), if_neg (by rw [e]; decide), if_neg (by rw [e]; decide), if_neg (by rw [e]; decide), if_pos e]
theorem begF_8 {r : RV} {w nk nm s : Nat} (e : ai r 19 s = 8) : begF r w nk nm s = sI r 1466 3 := by
  unfold begF
  rw [if_neg (by rw [e]; decide), if_neg (by rw [e]; decide), if_neg (by rw [e]; decide), if_neg (by rw [e]; decide), if_neg (by rw [e]; decide), if_neg (by rw [e]; decide), if_pos e]
theorem begF_6 {r : RV} {w nk nm s : Nat} (e : ai r 19 s = 6) : begF r w nk nm s = pusF r (tn (ai r 26 s)) := by
  unfold begF
  rw [if_neg (by rw [e]; decide), if_neg (by rw [e]; decide), if_neg (by rw [e]; decide), if_neg (by rw [e]; decide), if_neg (by rw [e]; decide), if_neg (by rw [e]; decide), if_neg (by rw [e]; decide), if_pos (by rw [e]; decide)]
theorem begF_9 {r : RV} {w nk nm s : Nat} (e : ai r 19 s = 9) : begF r w nk nm s = pusF r (tn (ai r 26 s)) := by
  unfold begF
  rw [if_neg (by rw [e]; decide), if_neg (by rw [e]; decide), if_neg (by rw [e]; decide), if_neg (by rw [e]; decide), if_neg (by rw [e]; decide), if_neg (by rw [e]; decide), if_neg (by rw [e]; decide), if_pos (by rw [e]; decide)]
theorem begF_11 {r : RV} {w nk nm s : Nat} (e : ai r 19 s = 11) : begF r w nk nm s = pusF r (tn (ai r 26 s)) := by
  unfold begF
  rw [if_neg (by rw [e]; decide), if_neg (by rw [e]; decide), if_neg (by rw [e]; decide), if_neg (by rw [e]; decide), if_neg (by rw [e]; decide), if_neg (by rw [e]; decide), if_neg (by rw [e]; decide), if_pos (by rw [e]; decide)]
theorem begF_10 {r : RV} {w nk nm s : Nat} (e : ai r 19 s = 10) : begF r w nk nm s = r := by
  unfold begF
  rw [if_neg (by rw [e]; decide), if_neg (by rw [e]; decide), if_neg (by rw [e]; decide), if_neg (by rw [e]; decide), if_neg (by rw [e]; decide), if_neg (by rw [e]; decide), if_neg (by rw [e]; decide), if_neg (by rw [e]; decide)]
theorem begF_o {r : RV} {w nk nm s : Nat} (c : ai r 19 s < 1 ∨ 1 + Int32.ofNat 11 ≤ ai r 19 s) : begF r w nk nm s = r := by
  have ne : ∀ x : Int32, ¬ (x < 1 ∨ 1 + Int32.ofNat 11 ≤ x) → ¬ ai r 19 s = x := fun x hx z => hx (by rw [z] at c; exact c)
  unfold begF
  rw [if_neg (ne 1 (by decide)), if_neg (ne 2 (by decide)), if_neg (ne 3 (by decide)), if_neg (ne 4 (by decide)), if_neg (ne 5 (by decide)), if_neg (ne 7 (by decide)), if_neg (ne 8 (by decide)), if_neg]
  rintro (q | q | q)
  · exact ne 6 (by decide) q
  · exact ne 9 (by decide) q
  · exact ne 11 (by decide) q
theorem tgS_sI (r : RV) (f : Nat) (v : Int32) (s : Nat) : tgS (sI r f v) s = tgS r s := by
  unfold tgS
  rw [tgF_of (r := r) (r' := sI r f v) rfl rfl rfl]
  rfl
section
variable {d : Nat} {h : AH} {a w nk nm ns nb : Nat} {r : RV} {Q : Option V → AH → Prop}
theorem w_begin (R : RW r h a) (B : BV r w nk nm ns nb) (K : BLK r w ns) {s : Nat} (h1 : w * 120 ≤ s) (h2 : s < w * 120 + ns) (hf : gi r 1469 = nI (fcN r)) (hf2 : fcN r < 16) (H : ∀ h', RW (begF r w nk nm s) h' a → Q none h') : wp (d + 3) K_X12_begin 0 [] [(0, vr (some a)), (1, vi (nI s))] h Q := by
  have hw2 := B.1.2.1
  have hns := B.2.1.2.2.2.1
  have hnm := B.2.1.2.1
  have hnb := B.2.2.1
  have hnk := B.1.2.2.2.1
  obtain ⟨R26, R27, -, -, R21, -, -⟩ := B.2.2.2.1 s h1 h2
  have T := R.bq B
  have nz2 : ¬ Int32.toInt64 2 = 0 := by decide
  -- pushing a block
  have push : ∀ (r' : RV) (h' : AH) v, RW r' h' a → gi r' 1469 = gi r 1469 → rf v (w * 1024) (w * 1024 + nb) → ¬ v = -1 → ∀ Q' : Option V → AH → Prop, (∀ h', RW (pusF r' (tn v)) h' a → Q' none h') → wp (d + 2) K_X12_push 0 [] [(0, vr (some a)), (1, vi v)] h' Q' := by
    intro r' h' v R' g rv nv Q' H'
    rcases rv with rv | ⟨e1, e2, e3⟩
    · exact absurd rv nv
    · rw [e1]
      have ef : fcN r' = fcN r := by unfold fcN; rw [g]
      exact w_push R' (by omega) (by rw [ef, g]; exact hf) (by rw [ef]; exact hf2) H'
  have oks : ∀ c, prS r s = some c → ∃ s2 i, w * 120 ≤ s2 ∧ s2 < w * 120 + ns ∧ i < tn (ai r 32 s2) ∧ i < 4 ∧ c = 4 * s2 + i := fun c ec => by
    have ec : prS (view h a) s = some c := by rw [R.2]; exact ec
    obtain ⟨s2, i, g1, g2, g3, g4, g5⟩ := T.prf _ _ _ _ c (T.inB h1 h2) ec
    rw [R.ai] at g3
    exact ⟨s2, i, g1, g2, g3, g4, g5⟩
  -- from the switch on
  have S : ∀ (r' : RV) (h : AH) o, RW r' h a → BV r' w nk nm ns nb → (∀ q, ai r' q = ai r q) → al r' = al r → gi r' 1469 = gi r 1469 → (ai r 19 s = 2 ∨ ai r 19 s = 3 → o = prS r s ∧ r' = sI r 11457 (b2i (psS r s))) → (¬ (ai r 19 s = 2 ∨ ai r 19 s = 3) → r' = r) → wp (d + 3) K_X12_begin 24 [vi (oI o)] [(0, vr (some a)), (1, vi (nI s))] h Q := by
    intro r' h o R' B' ea el eg hyes hno
    have T' := R'.bq B'
    rw [rb_X12_begin_24 _ _ _ R'.1]
    simp (disch := omega) only [nI_clamp, nI_leI, nI_ltI, nI_eq, nI_add, pk_mul, vp_in_nI, nI_1, true_and, and_true, true_implies, implies_true, not_true_eq_false, not_false_eq_true, false_implies, psh, nn_some, forall_const]
    rw [R'.ai, ea]
    refine ⟨fun c => ?_, fun j hj e => ?_⟩
    · have ne : ∀ x : Int32, ¬ (x < 1 ∨ 1 + Int32.ofNat 11 ≤ x) → ¬ ai r 19 s = x := fun x hx z => hx (by rw [z] at c; exact c)
      rw [bk_X12_begin_198]
      rw [begF_o c] at H
      have := hno (by rintro (q | q); exact ne 2 (by decide) q; exact ne 3 (by decide) q)
      rw [this] at R'
      exact H h R'
    · have e191 : (ai r 19 s = 6 ∨ ai r 19 s = 9 ∨ ai r 19 s = 11) → wp (d + 3) K_X12_begin 191 [] [(0, vr (some a)), (1, vi (nI s)), (2, vi (oI o))] h Q := fun z => by
        have er := hno (by rintro (q | q) <;> (rw [q] at z; rcases z with z | z | z <;> exact absurd z (by decide)))
        subst er
        have eb : begF r' w nk nm s = pusF r' (tn (ai r' 26 s)) := by
          rcases z with z | z | z
          · exact begF_6 z
          · exact begF_9 z
          · exact begF_11 z
        rw [eb] at H
        rw [rb_X12_begin_191 _ _ _ R'.1]
        simp (disch := omega) only [nI_clamp, nI_leI, nI_ltI, nI_eq, nI_add, pk_mul, vp_in_nI, nI_1, true_and, and_true, true_implies, implies_true, not_true_eq_false, not_false_eq_true, false_implies, psh, nn_some, forall_const]
        rw [R'.ai]
        refine push r' h _ R' rfl R26 ((K s h1 h2).1 (by rcases z with z | z | z; exact Or.inr (Or.inr (Or.inl z)); exact Or.inr (Or.inr (Or.inr (Or.inl z))); exact Or.inr (Or.inr (Or.inr (Or.inr z))))) _ (fun h3 R3 => ?_)
        simp only [psh, bk_X12_begin_197, bk_X12_begin_198]
        exact H h3 R3
      have : j = 0 ∨ j = 1 ∨ j = 2 ∨ j = 3 ∨ j = 4 ∨ j = 5 ∨ j = 6 ∨ j = 7 ∨ j = 8 ∨ j = 9 ∨ j = 10 := by omega
      rcases this with z | z | z | z | z | z | z | z | z | z | z <;> subst z
      · -- call
        have e : ai r 19 s = 1 := e
        have er := hno (by rw [e]; decide)
        subst er
        rw [begF_1 e] at H
        unfold begC at H
        change wp (d + 3) K_X12_begin 30 [] _ h Q
        rw [rb_X12_begin_30 _ _ _ R'.1]
        simp (disch := omega) only [nI_clamp, nI_leI, nI_ltI, nI_eq, nI_add, pk_mul, vp_in_nI, nI_1, true_and, and_true, true_implies, implies_true, not_true_eq_false, not_false_eq_true, false_implies, psh, nn_some, forall_const]
        rw [t_methodOf T'.1, R'.al, R'.2]
        simp only [psh, bk_X12_begin_36]
        cases em : mN r' w nm (al r' 24 s) with
        | none =>
          rw [em] at H
          simp only [oI, not_true_eq_false, false_implies, true_and, not_false_eq_true, true_implies, bk_X12_begin_40]
          refine wp_cut 3 ?_
          show wp (d + 3) K_X12_begin 198 [] [(0, vr (some a)), (1, vi (nI s)), (2, vi (oI o))] h Q
          rw [bk_X12_begin_198]
          exact H h R'
        | some m =>
          have hm := mN_lt em
          rw [em] at H
          have H : ∀ h', RW (if ai r' 26 s = -1 ∨ ai r' 13 (w * 12 + m) = 0 then dtF r' w nk (w * 12 + m) else if drwV r' 2 = 1 then pusF (drwF r') (tn (ai r' 26 s)) else dtF (drwF r') w nk (w * 12 + m)) h' a → Q none h' := H
          simp (disch := omega) only [oI_some, nI_ne_m1, nI_clamp, nI_leI, nI_ltI, nI_eq, nI_add, pk_mul, vp_in_nI, nI_1, true_and, and_true, true_implies, implies_true, not_true_eq_false, not_false_eq_true, false_implies, psh, nn_some, forall_const]
          have e69 : ∀ (r2 : RV) (h : AH), RW r2 h a → BV r2 w nk nm ns nb → (∀ h', RW (dtF r2 w nk (w * 12 + m)) h' a → Q none h') → wp (d + 3) K_X12_begin 69 [] [(0, vr (some a)), (1, vi (nI s)), (2, vi (oI o)), (3, vi (nI m))] h Q := fun r2 h R2 B2 H2 => by
            rw [rb_X12_begin_69 _ _ _ _ R2.1]
            refine w_drawThrow R2 B2 hm (fun h3 R3 => ?_)
            simp only [psh, bk_X12_begin_72]
            refine wp_cut 3 ?_
            show wp (d + 3) K_X12_begin 198 [] [(0, vr (some a)), (1, vi (nI s)), (2, vi (oI o))] h3 Q
            rw [bk_X12_begin_198]
            exact H2 h3 R3
          rw [rb_X12_begin_41 _ _ _ _ R'.1]
          simp (disch := omega) only [nI_clamp, nI_leI, nI_ltI, nI_eq, nI_add, pk_mul, vp_in_nI, nI_1, true_and, and_true, true_implies, implies_true, not_true_eq_false, not_false_eq_true, false_implies, psh, nn_some, forall_const]
          rw [R'.ai]
          refine ⟨fun z => ?_, fun z => ?_⟩
          · rw [if_pos (Or.inl z)] at H
            exact e69 r' h R' B' H
          · rw [rb_X12_begin_47 _ _ _ _ R'.1, T'.1.1.2.1, lt12]
            simp (disch := omega) only [nI_clamp, nI_leI, nI_ltI, nI_eq, nI_add, pk_mul, vp_in_nI, nI_1, true_and, and_true, true_implies, implies_true, not_true_eq_false, not_false_eq_true, false_implies, psh, nn_some, forall_const]
            rw [R'.ai]
            refine ⟨fun z2 => ?_, fun z2 => ?_⟩
            · rw [if_pos (Or.inr z2)] at H
              exact e69 r' h R' B' H
            · rw [if_neg (by rintro (q | q); exact z q; exact z2 q)] at H
              rw [rb_X12_begin_57 _ _ _ _ R'.1]
              refine w_draw R' nz2 (fun h3 R3 => ?_)
              simp only [psh, bk_X12_begin_60]
              refine ⟨fun z3 => ?_, fun z3 => ?_⟩
              · rw [if_neg z3] at H
                exact e69 _ h3 R3 (BV_FJ B') H
              · rw [if_pos (Classical.not_not.mp z3)] at H
                rw [rb_X12_begin_62 _ _ _ _ R3.1]
                simp (disch := omega) only [nI_clamp, nI_leI, nI_ltI, nI_eq, nI_add, pk_mul, vp_in_nI, nI_1, true_and, and_true, true_implies, implies_true, not_true_eq_false, not_false_eq_true, false_implies, psh, nn_some, forall_const]
                rw [R3.ai]
                refine push _ h3 _ R3 rfl R26 z _ (fun h4 R4 => ?_)
                simp only [psh, bk_X12_begin_68]
                refine wp_cut 3 ?_
                show wp (d + 3) K_X12_begin 198 [] [(0, vr (some a)), (1, vi (nI s)), (2, vi (oI o))] h4 Q
                rw [bk_X12_begin_198]
                exact H h4 R4
      · -- throw
        have e : ai r 19 s = 2 := e
        obtain ⟨eo, er⟩ := hyes (Or.inl e)
        rw [begF_2 e] at H
        unfold begT at H
        change wp (d + 3) K_X12_begin 73 [] _ h Q
        rw [bk_X12_begin_73, eo]
        have e91 : wp (d + 3) K_X12_begin 91 [vi (begK r w nk s)] [(0, vr (some a)), (1, vi (nI s)), (2, vi (oI (prS r s)))] h Q := by
          rw [bk_X12_begin_91]
          refine ⟨fun z => ?_, fun z => ?_⟩
          · refine wp_cut 4 ?_
            show wp (d + 3) K_X12_begin 198 [] [(0, vr (some a)), (1, vi (nI s)), (2, vi (oI (prS r s)))] h Q
            rw [if_pos z] at H
            rw [bk_X12_begin_198]
            exact H h (by rw [← er]; exact R')
          · rw [if_neg z] at H
            rw [rb_X12_begin_95 _ _ _ _ R'.1]
            refine w_throwOne R' _ (fun h3 R3 => ?_)
            simp only [psh, bk_X12_begin_98]
            refine wp_cut 4 ?_
            show wp (d + 3) K_X12_begin 198 [] [(0, vr (some a)), (1, vi (nI s)), (2, vi (oI (prS r s)))] h3 Q
            rw [bk_X12_begin_198]
            exact H h3 (by rw [← er]; exact R3)
        have eK : begK r w nk s = (match prS r s with
          | none => oI (kN r w nk (al r 24 s) (ai r 25 s))
          | some c => ai r 56 c) := rfl
        cases ep : prS r s with
        | none =>
          rw [ep] at eK e91
          have eK : begK r w nk s = oI (kN r w nk (al r 24 s) (ai r 25 s)) := eK
          simp only [show oI none = -1 from rfl, not_true_eq_false, false_implies, true_and, not_false_eq_true, true_implies]
          rw [rb_X12_begin_76 _ _ _ R'.1]
          simp (disch := omega) only [nI_clamp, nI_leI, nI_ltI, nI_eq, nI_add, pk_mul, vp_in_nI, nI_1, true_and, and_true, true_implies, implies_true, not_true_eq_false, not_false_eq_true, false_implies, psh, nn_some, forall_const]
          rw [q_kindOf T'.1.1, R'.al, R'.ai, R'.2, el, ea]
          have e2 : kN r' w nk (al r 24 s) (ai r 25 s) = kN r w nk (al r 24 s) (ai r 25 s) := by unfold kN; rw [el, ea]
          rw [e2, ← eK]
          simp only [psh, bk_X12_begin_86]
          exact e91
        | some c =>
          rw [ep] at eK e91
          have eK : begK r w nk s = ai r 56 c := eK
          obtain ⟨s2, i, g1, g2, g3, g4, g5⟩ := oks c ep
          simp (disch := omega) only [oI_some, nI_ne_m1, nI_clamp, nI_leI, nI_ltI, nI_eq, nI_add, pk_mul, vp_in_nI, nI_1, true_and, and_true, true_implies, implies_true, not_true_eq_false, not_false_eq_true, false_implies, psh, nn_some, forall_const]
          rw [rb_X12_begin_87 _ _ _ R'.1]
          simp (disch := omega) only [nI_clamp, nI_leI, nI_ltI, nI_eq, nI_add, pk_mul, vp_in_nI, nI_1, true_and, and_true, true_implies, implies_true, not_true_eq_false, not_false_eq_true, false_implies, psh, nn_some, forall_const]
          rw [R'.ai, ea, ← eK]
          exact e91
      · -- set
        have e : ai r 19 s = 3 := e
        obtain ⟨eo, er⟩ := hyes (Or.inr e)
        rw [begF_3 e] at H
        change wp (d + 3) K_X12_begin 99 [] _ h Q
        rw [bk_X12_begin_99, eo]
        cases ep : prS r s with
        | none =>
          have eb : begS r w nk s = sI r 11457 (b2i (psS r s)) := by unfold begS; rw [ep]
          rw [eb] at H
          simp only [show oI none = -1 from rfl, not_true_eq_false, false_implies, true_and, not_false_eq_true, true_implies]
          rw [bk_X12_begin_102, bk_X12_begin_110, bk_X12_begin_111]
          refine ⟨fun _ => ?_, fun q => absurd (by decide) q⟩
          rw [bk_X12_begin_133]
          refine wp_cut 5 ?_
          show wp (d + 3) K_X12_begin 198 [] [(0, vr (some a)), (1, vi (nI s)), (2, vi (-1))] h Q
          rw [bk_X12_begin_198]
          exact H h (by rw [← er]; exact R')
        | some c =>
          have eb : begS r w nk s = stF (sI r 11457 (b2i (psS r s))) w nk c := by unfold begS; rw [ep]
          rw [eb] at H
          rw [← er] at H
          unfold stF at H
          obtain ⟨s2, i, g1, g2, g3, g4, g5⟩ := oks c ep
          have hq := ((B.2.1.2.2.2.2.2 s2 g1 g2).2.2.1 i g3).1
          rw [← g5] at hq
          have hq4 := hq.2
          simp (disch := omega) only [oI_some, nI_ne_m1, nI_clamp, nI_leI, nI_ltI, nI_eq, nI_add, pk_mul, vp_in_nI, nI_1, true_and, and_true, true_implies, implies_true, not_true_eq_false, not_false_eq_true, false_implies, psh, nn_some, forall_const]
          rw [rb_X12_begin_104 _ _ _ R'.1]
          simp (disch := omega) only [nI_clamp, nI_leI, nI_ltI, nI_eq, nI_add, pk_mul, vp_in_nI, nI_1, true_and, and_true, true_implies, implies_true, not_true_eq_false, not_false_eq_true, false_implies, psh, nn_some, forall_const]
          rw [R'.ai, bk_X12_begin_110]
          have e36 : ai r' 36 c = nI (tn (ai r' 36 c)) := by rw [ea]; exact hq.1
          have t4 : tn (ai r' 36 c) ≤ 4 := by rw [ea]; exact hq4
          rw [e36, show nI (tn (ai r' 36 c)) - 1 = kI (tn (ai r' 36 c)) from rfl]
          have L : ∀ j (r2 : RV) (h : AH), j ≤ 4 → RW r2 h a → BV r2 w nk nm ns nb → (∀ i, cgK r2 w nk c i = cgK r' w nk c i) → (∀ h', RW (fdn (fun i r2 => match cgK r' w nk c i with
              | none => tI r2 56 c (ai r2 56 c)
              | some x => tI r2 56 c (nI x)) j r2) h' a → Q none h') → wp (d + 3) K_X12_begin 111 [] [(0, vr (some a)), (1, vi (nI s)), (2, vi (nI c)), (5, vi (kI j))] h Q := by
            intro j
            induction j with
            | zero =>
              intro r2 h hj R2 B2 ec H2
              rw [bk_X12_begin_111]
              refine ⟨fun _ => ?_, fun q => absurd (by decide) q⟩
              rw [bk_X12_begin_133]
              refine wp_cut 5 ?_
              show wp (d + 3) K_X12_begin 198 [] [(0, vr (some a)), (1, vi (nI s)), (2, vi (nI c))] h Q
              rw [bk_X12_begin_198]
              exact H2 h R2
            | succ j ih =>
              intro r2 h hj R2 B2 ec H2
              rw [bk_X12_begin_111, kI_1]
              refine ⟨fun q => absurd q (nI_pos (by omega)), fun _ => ?_⟩
              have T2 := R2.bq B2
              rw [rb_X12_begin_113 _ _ _ _ R2.1, q_caughtKind T2.1.1 (by omega) (by omega), R2.2, ec]
              simp only [psh]
              rw [rb_X12_begin_117 _ _ _ _ _ R2.1, R2.1.p31474]
              have e130 : ∀ v j6, RW (tI r2 56 c v) (setAI h (a + 56) c v) a → (fdn (fun i r2 => match cgK r' w nk c i with
                  | none => tI r2 56 c (ai r2 56 c)
                  | some x => tI r2 56 c (nI x)) j (tI r2 56 c v) = fdn (fun i r2 => match cgK r' w nk c i with
                  | none => tI r2 56 c (ai r2 56 c)
                  | some x => tI r2 56 c (nI x)) (j + 1) r2) → wp (d + 3) K_X12_begin 130 [vi v, vi (nI c), vr (some (a + 56))] [(0, vr (some a)), (1, vi (nI s)), (2, vi (nI c)), (5, vi (nI j)), (6, vi j6)] h Q := fun v j6 R3 e3 => by
                rw [bk_X12_begin_130, nn_some]
                refine ⟨R2.1.t31474, by rw [R2.1.l31474]; simp (disch := omega) only [nI_clamp, nI_leI, nI_ltI, nI_eq, nI_add, pk_mul, vp_in_nI, nI_1, true_and, and_true, true_implies, implies_true, not_true_eq_false, not_false_eq_true, false_implies, psh, nn_some, forall_const], ?_⟩
                simp (disch := omega) only [nI_clamp, nI_leI, nI_ltI, nI_eq, nI_add, pk_mul, vp_in_nI, nI_1, true_and, and_true, true_implies, implies_true, not_true_eq_false, not_false_eq_true, false_implies, psh, nn_some, forall_const, kI_m1]
                refine wp_cut 6 ?_
                refine ih _ _ (by omega) R3 (BV_56 B2) ec ?_
                rw [e3]
                exact H2
              cases e9 : cgK r' w nk c j with
              | none =>
                simp only [show oI none = -1 from rfl, not_true_eq_false, false_implies, true_and, not_false_eq_true, true_implies]
                rw [rb_X12_begin_124 _ _ _ _ _ _ _ R2.1]
                simp (disch := omega) only [nI_clamp, nI_leI, nI_ltI, nI_eq, nI_add, pk_mul, vp_in_nI, nI_1, true_and, and_true, true_implies, implies_true, not_true_eq_false, not_false_eq_true, false_implies, psh, nn_some, forall_const]
                rw [R2.ai]
                refine e130 _ _ (R2.AI 56 c _) ?_
                rw [fdn, e9]
              | some x =>
                have hx : x < nk := kN_lt e9
                simp (disch := omega) only [oI_some, nI_ne_m1, nI_clamp, nI_leI, nI_ltI, nI_eq, nI_add, pk_mul, vp_in_nI, nI_1, true_and, and_true, true_implies, implies_true, not_true_eq_false, not_false_eq_true, false_implies, psh, nn_some, forall_const]
                rw [bk_X12_begin_129]
                refine e130 _ _ (R2.AI 56 c _) ?_
                rw [fdn, e9]
          exact L (tn (ai r' 36 c)) r' h t4 R' B' (fun _ => rfl) H
      · -- if
        have e : ai r 19 s = 4 := e
        have er := hno (by rw [e]; decide)
        subst er
        rw [begF_4 e] at H
        unfold begI at H
        change wp (d + 3) K_X12_begin 134 [] _ h Q
        rw [rb_X12_begin_134 _ _ _ R'.1]
        refine w_draw R' nz2 (fun h3 R3 => ?_)
        simp only [psh, bk_X12_begin_137]
        refine ⟨fun z => ?_, fun z => ?_⟩
        · rw [if_neg z] at H
          rw [rb_X12_begin_146 _ _ _ R3.1]
          simp (disch := omega) only [nI_clamp, nI_leI, nI_ltI, nI_eq, nI_add, pk_mul, vp_in_nI, nI_1, true_and, and_true, true_implies, implies_true, not_true_eq_false, not_false_eq_true, false_implies, psh, nn_some, forall_const, bk_X12_begin_198]
          rw [R3.ai]
          have g27 : ai (drwF r') 27 s = ai r' 27 s := rfl
          rw [g27]
          refine ⟨fun z2 => ?_, fun z2 => ?_⟩
          · rw [if_pos z2] at H
            exact H h3 R3
          · rw [if_neg z2] at H
            rw [rb_X12_begin_152 _ _ _ R3.1]
            simp (disch := omega) only [nI_clamp, nI_leI, nI_ltI, nI_eq, nI_add, pk_mul, vp_in_nI, nI_1, true_and, and_true, true_implies, implies_true, not_true_eq_false, not_false_eq_true, false_implies, psh, nn_some, forall_const]
            rw [R3.ai]
            refine push _ h3 _ R3 rfl R27 z2 _ (fun h4 R4 => ?_)
            simp only [psh, bk_X12_begin_158, bk_X12_begin_198]
            exact H h4 R4
        · rw [if_pos (Classical.not_not.mp z)] at H
          rw [rb_X12_begin_139 _ _ _ R3.1]
          simp (disch := omega) only [nI_clamp, nI_leI, nI_ltI, nI_eq, nI_add, pk_mul, vp_in_nI, nI_1, true_and, and_true, true_implies, implies_true, not_true_eq_false, not_false_eq_true, false_implies, psh, nn_some, forall_const]
          rw [R3.ai]
          refine push _ h3 _ R3 rfl R26 ((K s h1 h2).1 (Or.inl e)) _ (fun h4 R4 => ?_)
          simp only [psh, bk_X12_begin_145, bk_X12_begin_198]
          exact H h4 R4
      · -- while
        have e : ai r 19 s = 5 := e
        have er := hno (by rw [e]; decide)
        subst er
        rw [begF_5 e] at H
        unfold begW at H
        change wp (d + 3) K_X12_begin 159 [] _ h Q
        rw [rb_X12_begin_159 _ _ _ R'.1]
        refine w_draw R' nz2 (fun h3 R3 => ?_)
        simp only [psh, bk_X12_begin_162, bk_X12_begin_198]
        refine ⟨fun z => ?_, fun z => ?_⟩
        · rw [if_neg z] at H
          exact H h3 R3
        · rw [if_pos (Classical.not_not.mp z)] at H
          rw [rb_X12_begin_164 _ _ _ R3.1]
          simp (disch := omega) only [nI_clamp, nI_leI, nI_ltI, nI_eq, nI_add, pk_mul, vp_in_nI, nI_1, true_and, and_true, true_implies, implies_true, not_true_eq_false, not_false_eq_true, false_implies, psh, nn_some, forall_const]
          rw [R3.ai]
          refine push _ h3 _ R3 rfl R26 ((K s h1 h2).1 (Or.inr (Or.inl e))) _ (fun h4 R4 => ?_)
          simp only [psh, bk_X12_begin_170, bk_X12_begin_198]
          exact H h4 R4
      · exact e191 (Or.inl e)
      · -- break
        have e : ai r 19 s = 7 := e
        have er := hno (by rw [e]; decide)
        subst er
        rw [begF_7 e] at H
        unfold begB at H
        change wp (d + 3) K_X12_begin 171 [] _ h Q
        rw [rb_X12_begin_171 _ _ _ R'.1, b_target T' h1 h2, R'.2]
        simp only [psh, bk_X12_begin_175]
        have okk : ∀ j, tgS r' s = some j → j < 2 ^ 31 := fun j ej => by
          have : ∀ f b j, tgF r' f b = some j → j < 2 ^ 31 := by
            intro f
            induction f with
            | zero => intro b j e; cases e
            | succ f ih =>
              intro b j e
              rw [tgF] at e
              split at e
              · cases e
              · split at e
                · cases e; exact (Int32.toNatClampNeg_lt _)
                · split at e
                  · cases e
                  · exact ih _ _ e
          exact this _ _ _ ej
        have e180 : ∀ v, v = (if tgS r' s = none then (0 : Int32) else 2) → wp (d + 3) K_X12_begin 180 [vi v, vr (some a)] [(0, vr (some a)), (1, vi (nI s)), (2, vi (oI o))] h Q := fun v ev => by
          rw [rb_X12_begin_180 _ _ _ _ _ R'.1, nn_some]
          have R3 := R'.FI 1466 v
          refine ⟨R'.1.1, ?_⟩
          rw [b_target (R3.bq (BV_FI B' (by decide))) h1 h2, R3.2, tgS_sI]
          simp only [psh, bk_X12_begin_185, bk_X12_begin_198]
          rw [nn_some]
          refine ⟨R3.1.1, ?_⟩
          rw [ev] at R3 ⊢
          exact H _ (R3.FI 1467 _)
        refine ⟨fun z => ?_, fun z => ?_⟩
        · rw [bk_X12_begin_179]
          exact e180 2 (by rw [if_neg (fun q => z (by rw [q]; rfl))])
        · rw [bk_X12_begin_177]
          exact e180 0 (by rw [if_pos ((oI_m1 okk).mp (Classical.not_not.mp z))])
      · -- return
        have e : ai r 19 s = 8 := e
        have er := hno (by rw [e]; decide)
        subst er
        rw [begF_8 e] at H
        change wp (d + 3) K_X12_begin 187 [] _ h Q
        rw [rb_X12_begin_187 _ _ _ R'.1, bk_X12_begin_198]
        exact H _ (R'.FI 1466 3)
      · exact e191 (Or.inr (Or.inl e))
      · have e : ai r 19 s = 10 := e
        have er := hno (by rw [e]; decide)
        subst er
        rw [begF_10 e] at H
        change wp (d + 3) K_X12_begin 198 [] _ h Q
        rw [bk_X12_begin_198]
        exact H h R'
      · exact e191 (Or.inr (Or.inr e))
  have PP : (ai r 19 s = 2 ∨ ai r 19 s = 3) → wp (d + 3) K_X12_begin 12 [] [(0, vr (some a)), (1, vi (nI s))] h Q := fun z => by
    rw [rb_X12_begin_12 _ _ R.1]
    simp (disch := omega) only [nI_clamp, nI_leI, nI_ltI, nI_eq, nI_add, pk_mul, vp_in_nI, nI_1, true_and, and_true, true_implies, implies_true, not_true_eq_false, not_false_eq_true, false_implies, psh, nn_some, forall_const]
    rw [b_paramS T h1 h2]
    simp only [psh, bk_X12_begin_22]
    rw [R.2]
    exact S _ _ (prS r s) (R.FI 11457 _) (BV_FI B (by decide)) (fun _ => rfl) rfl rfl (fun _ => ⟨rfl, rfl⟩) (fun q => absurd z q)
  rw [rb_X12_begin_0 _ _ R.1, rb_X12_begin_6 _ _ R.1]
  simp (disch := omega) only [nI_clamp, nI_leI, nI_ltI, nI_eq, nI_add, pk_mul, vp_in_nI, nI_1, true_and, and_true, true_implies, implies_true, not_true_eq_false, not_false_eq_true, false_implies, psh, nn_some, forall_const, bk_X12_begin_23]
  rw [R.ai]
  refine ⟨fun z => PP (Or.inl z), fun z => ⟨fun z2 => ?_, fun z2 => PP (Or.inr (Classical.not_not.mp z2))⟩⟩
  rw [show vi (-1) = vi (oI none) from rfl]
  exact S r h none R B (fun _ => rfl) rfl rfl (fun q => by rcases q with q | q; exact absurd q z; exact absurd q z2) (fun _ => rfl)
end
