/-! The reference's judging of statements -/
def jcS (r : RV) (w nk : Nat) (t : Int32) (x : Nat) : Bool := fup (fun q b => b || (hasB t q && bel r w nk q x)) nk 0 (und r w nk x t)
def jcR (r : RV) (w nk c x : Nat) (n : Nat) : Bool := fup (fun j b => b || (match cgK r w nk c j with
  | none => false
  | some y => bel r w nk x y || bel r w nk y x)) n 0 false
/-- what is blamed for kind number j of catch i of statement s -/
def jcL (r : RV) (w nk s i : Nat) (t : Int32) (j : Nat) : List Nat := match cgK r w nk (4 * s + i) j with
  | none => [keyN (tn (ai r 38 (4 * (4 * s + i) + j))) 1 0]
  | some x => lif (decide (1 < x) && (chk r w nk x && !jcS r w nk t x)) (keyN (tn (ai r 38 (4 * (4 * s + i) + j))) 3 (x + 1)) ++
    (lif (und r w nk x (ahd r w nk s i)) (keyN (tn (ai r 38 (4 * (4 * s + i) + j))) 4 (x + 1)) ++
    lif (jcR r w nk (4 * s + i) x j) (keyN (tn (ai r 38 (4 * (4 * s + i) + j))) 5 (x + 1)))
def prT (r : RV) (s i : Nat) : Option Nat := (prF r (al r 34 (4 * s + i)) 2048 (oN (ai r 21 s)) false).1
/-- for catch i of statement s -/
def jtC (r : RV) (w nk s : Nat) (t : Int32) (i : Nat) : List Nat := lif (decide (¬ prT r s i = none)) (keyN (tn (ai r 35 (4 * s + i))) 2 0) ++ flr (jcL r w nk s i t) (tn (ai r 36 (4 * s + i))) 0
def jtN (r : RV) (w nm s : Nat) (i : Nat) : List Nat := lif (decide (mN r w nm (al r 30 (4 * s + i)) = none)) (keyN (tn (ai r 31 (4 * s + i))) 1 0)
def jtL (r : RV) (w nk nm s : Nat) : List Nat := flr (jtN r w nm s) (tn (ai r 29 s)) 0 ++ flr (jtC r w nk s (mask (fun k => hasB (insS r w nk nm s) k && chk r w nk k) nk)) (tn (ai r 32 s)) 0
def jsS (r : RV) (s : Nat) (o : Option Nat) (out : Bool) : List Nat := match o with
  | none => [keyN (tn (ai r 25 s)) 1 0]
  | some c => lif (decide (1 < tn (ai r 36 c))) (keyN (tn (ai r 25 s)) 6 0) ++ lif out (keyN (tn (ai r 25 s)) 12 0)
theorem prT_put (r : RV) (p c : Int32) (x y z : Nat → Int32) (s i : Nat) : prT (put r p c x y z) s i = prT r s i := by
  unfold prT
  rw [prF_of (r := r) (r' := put r p c x y z) rfl rfl rfl rfl rfl]
  rfl
section
variable {d : Nat} {h : AH} {a w nk nm ns nb : Nat} {r : RV} {l : List Nat} {Q : Option V → AH → Prop}
theorem j_set (B : BV r w nk nm ns nb) (J : JT r h a l) {s : Nat} (h1 : w * 120 ≤ s) (h2 : s < w * 120 + ns) (P : pl (ai r 25 s)) {o : Option Nat} (ho : ∀ c, o = some c → c < 960 ∧ cnt (ai r 36 c) 4) {out : Bool} (hl : l.length + (jsS r s o out).length ≤ 4000)
    (H : ∀ h' l', JT r h' a l' → l'.Perm (jsS r s o out ++ l) → Q none h') : wp (d + 2) K_X12_judgeSet 0 [] [(0, vr (some a)), (1, vi (nI s)), (2, vi (oI o)), (3, vi (b2i out))] h Q := by
  have T := J.bq B
  have K := T.1.1; have hs := K.1; have hw2 := K.2.2.1
  have hns := T.1.2.2.2.2.1
  rw [bk_X12_judgeSet_0]
  cases o with
  | none =>
    simp only [oI, not_true_eq_false, false_implies, true_and, not_false_eq_true, true_implies]
    rw [rb_X12_judgeSet_3 _ _ _ _ hs]
    simp (disch := omega) only [nI_clamp, nI_leI, nI_ltI, nI_eq, nI_add, pk_mul, vp_in_nI, nI_1, true_and, and_true, true_implies, implies_true, not_true_eq_false, not_false_eq_true, false_implies, psh, nn_some, forall_const]
    rw [J.ai (by decide) (by decide) (by decide), P.1, ← kI_0, lt1]
    have e : jsS r s none out = [keyN (tn (ai r 25 s)) 1 0] := rfl
    rw [e] at hl H
    refine J.blame (by simp only [List.length_cons, List.length_nil] at hl; omega) P.2 (by omega) (by omega) (fun h' l' J' pm => ?_)
    rw [bk_X12_judgeSet_11]
    exact H h' l' J' pm
  | some c =>
    obtain ⟨hc, hq⟩ := ho c rfl
    have hq4 := hq.2
    have e : jsS r s (some c) out = lif (decide (1 < tn (ai r 36 c))) (keyN (tn (ai r 25 s)) 6 0) ++ lif out (keyN (tn (ai r 25 s)) 12 0) := rfl
    rw [e] at hl H
    rw [List.length_append] at hl
    have A : ∀ (h : AH) l1, JT r h a l1 → l1.Perm (lif (decide (1 < tn (ai r 36 c))) (keyN (tn (ai r 25 s)) 6 0) ++ l) → wp (d + 2) K_X12_judgeSet 26 [] [(0, vr (some a)), (1, vi (nI s)), (2, vi (nI c)), (3, vi (b2i out))] h Q := by
      intro h l1 J1 pm1
      have len1 := pm_len pm1
      have hs := (J1.bq B).1.1.1
      rw [bk_X12_judgeSet_26, bk_X12_judgeSet_36]
      simp only [b2i_0]
      refine ⟨fun z => ?_, fun z => ?_⟩
      · rw [z] at H
        exact H h l1 J1 (by simpa [lif] using pm1)
      · have z := bt z
        rw [rb_X12_judgeSet_28 _ _ _ _ hs]
        simp (disch := omega) only [nI_clamp, nI_leI, nI_ltI, nI_eq, nI_add, pk_mul, vp_in_nI, nI_1, true_and, and_true, true_implies, implies_true, not_true_eq_false, not_false_eq_true, false_implies, psh, nn_some, forall_const]
        rw [J1.ai (by decide) (by decide) (by decide), P.1, ← kI_0, show (12 : Int32) = nI 12 from rfl]
        rw [z, lif_t] at hl H
        refine J1.blame (by simp only [List.length_cons, List.length_nil] at hl; omega) P.2 (by omega) (by omega) (fun h' l' J' pm => ?_)
        rw [bk_X12_judgeSet_36]
        exact H h' l' J' (pm_step pm1 pm)
    simp (disch := omega) only [oI_some, nI_ne_m1, nI_clamp, nI_leI, nI_ltI, nI_eq, nI_add, pk_mul, vp_in_nI, nI_1, true_and, and_true, true_implies, implies_true, not_true_eq_false, not_false_eq_true, false_implies, psh, nn_some, forall_const]
    rw [rb_X12_judgeSet_12 _ _ _ _ hs]
    simp (disch := omega) only [nI_clamp, nI_leI, nI_ltI, nI_eq, nI_add, pk_mul, vp_in_nI, nI_1, true_and, and_true, true_implies, implies_true, not_true_eq_false, not_false_eq_true, false_implies, psh, nn_some, forall_const]
    rw [J.ai (by decide) (by decide) (by decide), hq.1, lt1]
    simp (disch := omega) only [nI_clamp, nI_leI, nI_ltI, nI_eq, nI_add, pk_mul, vp_in_nI, nI_1, true_and, and_true, true_implies, implies_true, not_true_eq_false, not_false_eq_true, false_implies, psh, nn_some, forall_const]
    refine ⟨fun z => A h l J ?_, fun z => ?_⟩
    · rw [decide_eq_false (by omega)]; exact List.Perm.refl _
    · rw [rb_X12_judgeSet_18 _ _ _ _ hs]
      simp (disch := omega) only [nI_clamp, nI_leI, nI_ltI, nI_eq, nI_add, pk_mul, vp_in_nI, nI_1, true_and, and_true, true_implies, implies_true, not_true_eq_false, not_false_eq_true, false_implies, psh, nn_some, forall_const]
      rw [J.ai (by decide) (by decide) (by decide), P.1, ← kI_0, show (6 : Int32) = nI 6 from rfl]
      rw [decide_eq_true (by omega), lif_t] at hl A
      refine J.blame (by simp only [List.length_cons, List.length_nil] at hl; omega) P.2 (by omega) (by omega) (fun h' l' J' pm => ?_)
      exact A h' l' J' pm
theorem j_caught (B : BV r w nk nm ns nb) (J : JT r h a l) {s i j : Nat} (h1 : w * 120 ≤ s) (h2 : s < w * 120 + ns) (hi : i < tn (ai r 32 s)) (hj : j < tn (ai r 36 (4 * s + i))) (P : pl (ai r 38 (4 * (4 * s + i) + j))) (t : Int32) (hl : l.length + (jcL r w nk s i t j).length ≤ 4000)
    (H : ∀ h' l', JT r h' a l' → l'.Perm (jcL r w nk s i t j ++ l) → Q none h') : wp (d + 4) K_X12_judgeCaught 0 [] [(0, vr (some a)), (1, vi (nI (4 * s + i))), (2, vi (nI j)), (3, vi t)] h Q := by
  have T := J.bq B
  have K := T.1.1; have hs := K.1; have hw2 := K.2.2.1; have hn := K.2.2.2.2.1
  have hns := T.1.2.2.2.2.1
  obtain ⟨-, hc, hcs, -⟩ := B.2.1.2.2.2.2.2 s h1 h2
  have hc4 := hc.2
  have hcc := (hcs i hi).1
  have hcc4 := hcc.2
  obtain ⟨p1, c1, x1, y1, z1, ev⟩ := vput J
  rw [rb_X12_judgeCaught_0 _ _ _ _ hs, q_caughtKind K (by omega) (by omega)]
  simp only [psh]
  rw [rb_X12_judgeCaught_4 _ _ _ _ _ hs, lt4]
  simp (disch := omega) only [nI_clamp, nI_leI, nI_ltI, nI_eq, nI_add, pk_mul, vp_in_nI, nI_1, true_and, and_true, true_implies, implies_true, not_true_eq_false, not_false_eq_true, false_implies, psh, nn_some, forall_const]
  rw [J.ai (by decide) (by decide) (by decide), P.1]
  have ek : cgK (view h a) w nk (4 * s + i) j = cgK r w nk (4 * s + i) j := by rw [ev]; rfl
  rw [ek]
  have eL : jcL r w nk s i t j = (match cgK r w nk (4 * s + i) j with
    | none => [keyN (tn (ai r 38 (4 * (4 * s + i) + j))) 1 0]
    | some x => lif (decide (1 < x) && (chk r w nk x && !jcS r w nk t x)) (keyN (tn (ai r 38 (4 * (4 * s + i) + j))) 3 (x + 1)) ++
      (lif (und r w nk x (ahd r w nk s i)) (keyN (tn (ai r 38 (4 * (4 * s + i) + j))) 4 (x + 1)) ++
      lif (jcR r w nk (4 * s + i) x j) (keyN (tn (ai r 38 (4 * (4 * s + i) + j))) 5 (x + 1)))) := rfl
  cases eq : cgK r w nk (4 * s + i) j with
  | none =>
    rw [eq] at eL
    have eL : jcL r w nk s i t j = [keyN (tn (ai r 38 (4 * (4 * s + i) + j))) 1 0] := eL
    rw [eL] at hl H
    simp only [oI, not_true_eq_false, false_implies, true_and, not_false_eq_true, true_implies]
    rw [rb_X12_judgeCaught_17 _ _ _ _ _ _ hs, ← kI_0, lt1]
    refine J.blame (by simp only [List.length_cons, List.length_nil] at hl; omega) P.2 (by omega) (by omega) (fun h' l' J' pm => ?_)
    simp only [psh, bk_X12_judgeCaught_22]
    exact H h' l' J' pm
  | some x =>
    have hx : x < nk := kN_lt eq
    rw [eq] at eL
    have eL : jcL r w nk s i t j = lif (decide (1 < x) && (chk r w nk x && !jcS r w nk t x)) (keyN (tn (ai r 38 (4 * (4 * s + i) + j))) 3 (x + 1)) ++
      (lif (und r w nk x (ahd r w nk s i)) (keyN (tn (ai r 38 (4 * (4 * s + i) + j))) 4 (x + 1)) ++
      lif (jcR r w nk (4 * s + i) x j) (keyN (tn (ai r 38 (4 * (4 * s + i) + j))) 5 (x + 1))) := eL
    rw [eL] at hl H
    rw [List.length_append, List.length_append] at hl
    have hp := P.2
    generalize tn (ai r 38 (4 * (4 * s + i) + j)) = pp at *
    simp (disch := omega) only [oI_some, nI_ne_m1, nI_clamp, nI_leI, nI_ltI, nI_eq, nI_add, pk_mul, vp_in_nI, nI_1, true_and, and_true, true_implies, implies_true, not_true_eq_false, not_false_eq_true, false_implies, psh, nn_some, forall_const]
    -- the last one: near
    have A3 : ∀ (h : AH) l2 j6 j7, JT r h a l2 → l2.Perm (lif (und r w nk x (ahd r w nk s i)) (keyN pp 4 (x + 1)) ++ (lif (decide (1 < x) && (chk r w nk x && !jcS r w nk t x)) (keyN pp 3 (x + 1)) ++ l)) → wp (d + 4) K_X12_judgeCaught 80 [] [(0, vr (some a)), (1, vi (nI (4 * s + i))), (2, vi (nI j)), (3, vi t), (4, vi (nI x)), (5, vi (nI pp)), (6, vi j6), (7, vi j7)] h Q := by
      intro h l2 j6 j7 J2 pm2
      have len2 := pm_len pm2
      rw [List.length_append] at len2
      have T := J2.bq B
      have K := T.1.1; have hs := K.1
      obtain ⟨p1, c1, x1, y1, z1, ev⟩ := vput J2
      rw [bk_X12_judgeCaught_80]
      have L : ∀ m k b, k + m = j → fup (fun j b => b || (match cgK r w nk (4 * s + i) j with
          | none => false
          | some y => bel r w nk x y || bel r w nk y x)) m k b = jcR r w nk (4 * s + i) x j → wp (d + 4) K_X12_judgeCaught 84 [] [(0, vr (some a)), (1, vi (nI (4 * s + i))), (2, vi (nI j)), (3, vi t), (4, vi (nI x)), (5, vi (nI pp)), (6, vi j6), (7, vi (b2i b)), (8, vi (nI k))] h Q := by
        intro m
        induction m with
        | zero =>
          intro k b e eb
          have eb : b = jcR r w nk (4 * s + i) x j := eb
          rw [bk_X12_judgeCaught_84, bk_X12_judgeCaught_113]
          simp (disch := omega) only [nI_clamp, nI_leI, nI_ltI, nI_eq, nI_add, pk_mul, vp_in_nI, nI_1, true_and, and_true, true_implies, implies_true, not_true_eq_false, not_false_eq_true, false_implies, psh, nn_some, forall_const, show j ≤ k by omega, b2i_0, bk_X12_judgeCaught_120]
          rw [eb]
          refine ⟨fun z => ?_, fun z => ?_⟩
          · refine H h l2 J2 ?_
            rw [z, lif_f, List.append_nil]
            refine pm2.trans ?_
            rw [← List.append_assoc]
            exact List.Perm.append_right l List.perm_append_comm
          · have z := bt z
            rw [rb_X12_judgeCaught_115 _ _ _ _ _ _ _ _ _ hs, ← kI_1 x, show (5 : Int32) = nI 5 from rfl]
            rw [z, lif_t] at hl H
            refine J2.blame (by simp only [List.length_cons, List.length_nil] at hl; omega) hp (by omega) (by omega) (fun h' l' J' pm => ?_)
            simp only [psh, bk_X12_judgeCaught_120]
            refine H h' l' J' ?_
            have := pm_step (pm_step (List.Perm.refl _) pm2) pm
            simpa only [List.append_assoc] using this
        | succ m ih =>
          intro k b e eb
          rw [bk_X12_judgeCaught_84]
          simp (disch := omega) only [nI_clamp, nI_leI, nI_ltI, nI_eq, nI_add, pk_mul, vp_in_nI, nI_1, true_and, and_true, true_implies, implies_true, not_true_eq_false, not_false_eq_true, false_implies, psh, nn_some, forall_const, show ¬ j ≤ k by omega]
          rw [rb_X12_judgeCaught_87 _ _ _ _ _ _ _ _ _ hs, q_caughtKind K (by omega) (by omega)]
          have ek : cgK (view h a) w nk (4 * s + i) k = cgK r w nk (4 * s + i) k := by rw [ev]; rfl
          simp only [psh, bk_X12_judgeCaught_91, b2i_0, ek]
          have eb : fup (fun j b => b || (match cgK r w nk (4 * s + i) j with
            | none => false
            | some y => bel r w nk x y || bel r w nk y x)) m (k + 1) (b || (match cgK r w nk (4 * s + i) k with
            | none => false
            | some y => bel r w nk x y || bel r w nk y x)) = jcR r w nk (4 * s + i) x j := eb
          have nx : ∀ b' j9, b' = (b || (match cgK r w nk (4 * s + i) k with
            | none => false
            | some y => bel r w nk x y || bel r w nk y x)) → wp (d + 4) K_X12_judgeCaught 110 [vi (b2i b')] [(0, vr (some a)), (1, vi (nI (4 * s + i))), (2, vi (nI j)), (3, vi t), (4, vi (nI x)), (5, vi (nI pp)), (6, vi j6), (7, vi (b2i b)), (8, vi (nI k)), (9, vi j9)] h Q := fun b' j9 eb' => by
            rw [bk_X12_judgeCaught_110, nI_1]
            refine wp_cut 9 ?_
            exact ih (k + 1) b' (by omega) (by rw [eb']; exact eb)
          refine ⟨fun z => ?_, fun z => ?_⟩
          · rw [bk_X12_judgeCaught_107, show vi 1 = vi (b2i true) from rfl]
            exact nx true _ (by rw [bt z]; rfl)
          · have z := Classical.not_not.mp z
            subst z
            rw [bk_X12_judgeCaught_94]
            cases e9 : cgK r w nk (4 * s + i) k with
            | none =>
              simp only [oI, not_true_eq_false, false_implies, and_true, true_implies]
              rw [bk_X12_judgeCaught_109, show vi 0 = vi (b2i false) from rfl]
              exact nx false _ (by rw [e9]; rfl)
            | some y =>
              have hy : y < nk := kN_lt e9
              simp (disch := omega) only [oI_some, nI_ne_m1, nI_clamp, nI_leI, nI_ltI, nI_eq, nI_add, pk_mul, vp_in_nI, nI_1, true_and, and_true, true_implies, implies_true, not_true_eq_false, not_false_eq_true, false_implies, psh, nn_some, forall_const]
              rw [rb_X12_judgeCaught_97 _ _ _ _ _ _ _ _ _ _ hs, q_isBelow K hx (by omega)]
              have e1 : bel (view h a) w nk x y = bel r w nk x y := by rw [ev]; rfl
              have e2 : bel (view h a) w nk y x = bel r w nk y x := by rw [ev]; rfl
              simp only [psh, bk_X12_judgeCaught_101, b2i_0, e1]
              refine ⟨fun z => ?_, fun z => ?_⟩
              · rw [bk_X12_judgeCaught_107, show vi 1 = vi (b2i true) from rfl]
                exact nx true _ (by rw [e9]; simp [bt z])
              · have z := Classical.not_not.mp z
                rw [rb_X12_judgeCaught_102 _ _ _ _ _ _ _ _ _ _ hs, q_isBelow K hy (by omega)]
                simp only [psh, bk_X12_judgeCaught_106, b2i_0, e2]
                refine ⟨fun z2 => ?_, fun z2 => ?_⟩
                · rw [bk_X12_judgeCaught_109, show vi 0 = vi (b2i false) from rfl]
                  exact nx false _ (by rw [e9]; simp [z, z2])
                · rw [bk_X12_judgeCaught_107, show vi 1 = vi (b2i true) from rfl]
                  exact nx true _ (by rw [e9]; simp [bt z2])
      exact L j 0 false (by omega) rfl
    -- the middle one: caught ahead
    have A2 : ∀ (h : AH) l1 j6 j7, JT r h a l1 → l1.Perm (lif (decide (1 < x) && (chk r w nk x && !jcS r w nk t x)) (keyN pp 3 (x + 1)) ++ l) → wp (d + 4) K_X12_judgeCaught 68 [] [(0, vr (some a)), (1, vi (nI (4 * s + i))), (2, vi (nI j)), (3, vi t), (4, vi (nI x)), (5, vi (nI pp)), (6, vi j6), (7, vi j7)] h Q := by
      intro h l1 j6 j7 J1 pm1
      have len1 := pm_len pm1
      have T := J1.bq B
      have K := T.1.1; have hs := K.1
      obtain ⟨p1, c1, x1, y1, z1, ev⟩ := vput J1
      rw [rb_X12_judgeCaught_68 _ _ _ _ _ _ _ _ hs, t_ahead T.1 h1 h2 (by rw [J1.ai (by decide) (by decide) (by decide)]; exact hi)]
      simp only [psh, bk_X12_judgeCaught_73, nn_some, hs.1, true_and]
      rw [q_isUnder K hx]
      have e2 : und (view h a) w nk x (ahd (view h a) w nk s i) = und r w nk x (ahd r w nk s i) := by rw [ev]; rfl
      simp only [psh, bk_X12_judgeCaught_74, b2i_0, e2]
      refine ⟨fun z => A3 h l1 _ _ J1 ?_, fun z => ?_⟩
      · rw [z]; exact pm1
      · have z := bt z
        rw [rb_X12_judgeCaught_75 _ _ _ _ _ _ _ _ hs, ← kI_1 x, lt4]
        rw [z, lif_t] at hl A3
        refine J1.blame (by simp only [List.length_cons, List.length_nil] at hl; omega) hp (by omega) (by omega) (fun h' l' J' pm => ?_)
        simp only [psh]
        rw [kI_1]
        refine A3 h' l' _ _ J' (pm.trans (List.Perm.append_left _ pm1))
    rw [rb_X12_judgeCaught_23 _ _ _ _ _ _ hs, q_isUnder K hx]
    have e2 : und (view h a) w nk x t = und r w nk x t := by rw [ev]; rfl
    simp only [psh, bk_X12_judgeCaught_27, e2]
    have L : ∀ m k b, k + m = nk → fup (fun q b => b || (hasB t q && bel r w nk q x)) m k b = jcS r w nk t x → wp (d + 4) K_X12_judgeCaught 30 [] [(0, vr (some a)), (1, vi (nI (4 * s + i))), (2, vi (nI j)), (3, vi t), (4, vi (nI x)), (5, vi (nI pp)), (6, vi (b2i b)), (7, vi (nI k))] h Q := by
      intro m
      induction m with
      | zero =>
        intro k b e eb
        have eb : b = jcS r w nk t x := eb
        have hw := K.2.1; have hk := K.2.2.2.1
        rw [rb_X12_judgeCaught_30 _ _ _ _ _ _ _ _ hs, bk_X12_judgeCaught_54, lt1]
        simp (disch := omega) only [hw, hk, nI_clamp, nI_leI, nI_ltI, nI_eq, nI_add, pk_mul, vp_in_nI, nI_1, true_and, and_true, true_implies, implies_true, not_true_eq_false, not_false_eq_true, false_implies, psh, nn_some, forall_const, show nk ≤ k by omega]
        refine ⟨fun z => A2 h l _ _ J ?_, fun z => ?_⟩
        · rw [decide_eq_false (by omega)]; exact List.Perm.refl _
        · have z : 1 < x := by omega
          rw [rb_X12_judgeCaught_57 _ _ _ _ _ _ _ _ hs, q_isChecked K hx]
          have e3 : chk (view h a) w nk x = chk r w nk x := by rw [ev]; rfl
          simp only [psh, bk_X12_judgeCaught_60, b2i_0, e3, bk_X12_judgeCaught_61]
          refine ⟨fun z2 => A2 h l _ _ J ?_, fun z2 => ⟨fun z3 => A2 h l _ _ J ?_, fun z3 => ?_⟩⟩
          · rw [z2]; simp [lif]
          · rw [← eb, bt z3]; simp [lif]
          · have z2 := bt z2
            have z3 := Classical.not_not.mp z3
            rw [rb_X12_judgeCaught_63 _ _ _ _ _ _ _ _ hs, ← kI_1 x, lt3]
            rw [decide_eq_true z, z2, ← eb, z3] at hl A2
            refine J.blame (by simp only [Bool.not_false, Bool.and_true, lif_t, List.length_cons, List.length_nil] at hl; omega) hp (by omega) (by omega) (fun h' l' J' pm => ?_)
            simp only [psh]
            rw [kI_1]
            exact A2 h' l' _ _ J' pm
      | succ m ih =>
        intro k b e eb
        have hw := K.2.1; have hk := K.2.2.2.1
        have eb : fup (fun q b => b || (hasB t q && bel r w nk q x)) m (k + 1) (b || (hasB t k && bel r w nk k x)) = jcS r w nk t x := eb
        rw [rb_X12_judgeCaught_30 _ _ _ _ _ _ _ _ hs]
        simp (disch := omega) only [hw, hk, nI_clamp, nI_leI, nI_ltI, nI_eq, nI_add, pk_mul, vp_in_nI, nI_1, true_and, and_true, true_implies, implies_true, not_true_eq_false, not_false_eq_true, false_implies, psh, nn_some, forall_const, show ¬ nk ≤ k by omega, bk_X12_judgeCaught_37, b2i_0, bk_X12_judgeCaught_39, e_has, bk_X12_judgeCaught_42]
        have nx : ∀ b', b' = (b || (hasB t k && bel r w nk k x)) → wp (d + 4) K_X12_judgeCaught 51 [vi (b2i b')] [(0, vr (some a)), (1, vi (nI (4 * s + i))), (2, vi (nI j)), (3, vi t), (4, vi (nI x)), (5, vi (nI pp)), (6, vi (b2i b)), (7, vi (nI k))] h Q := fun b' eb' => by
          rw [bk_X12_judgeCaught_51, nI_1]
          exact ih (k + 1) b' (by omega) (by rw [eb']; exact eb)
        refine ⟨fun z => ?_, fun z => ⟨fun z2 => ?_, fun z2 => ?_⟩⟩
        · rw [bk_X12_judgeCaught_48, show vi 1 = vi (b2i true) from rfl]
          exact nx true (by rw [bt z]; rfl)
        · have z := Classical.not_not.mp z
          rw [bk_X12_judgeCaught_50, show vi 0 = vi (b2i false) from rfl]
          exact nx false (by rw [z, z2]; rfl)
        · have z := Classical.not_not.mp z
          rw [rb_X12_judgeCaught_43 _ _ _ _ _ _ _ _ hs, q_isBelow K (by omega) (by omega)]
          have e1 : bel (view h a) w nk k x = bel r w nk k x := by rw [ev]; rfl
          simp only [psh, bk_X12_judgeCaught_47, b2i_0, e1]
          refine ⟨fun z3 => ?_, fun z3 => ?_⟩
          · rw [bk_X12_judgeCaught_50, show vi 0 = vi (b2i false) from rfl]
            exact nx false (by rw [z, z3]; simp)
          · rw [bk_X12_judgeCaught_48, show vi 1 = vi (b2i true) from rfl]
            exact nx true (by rw [bt z2, bt z3]; simp)
    exact L nk 0 _ (by omega) rfl
end
