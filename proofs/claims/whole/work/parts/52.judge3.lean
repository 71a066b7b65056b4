/-! The reference's judging of try and of a statement -/
def jnK (r : RV) (w nk s i : Nat) : List Nat := lif (decide (kN r w nk (al r 30 (4 * s + i)) (ai r 31 (4 * s + i)) = none)) (keyN (tn (ai r 31 (4 * s + i))) 1 0)
/-- what is blamed for statement s, but that the next one is never reached -/
def jsA (r : RV) (w nk nm ns s : Nat) : List Nat := if ai r 19 s = 1 then (match mN r w nm (al r 24 s) with
    | none => [keyN (tn (ai r 25 s)) 1 0]
    | some j => match oN (ai r 26 s) with
      | none => []
      | some b => lif (decide (ai r 13 (w * 12 + j) = 0)) (keyN (tn (ai r 43 b)) 11 0))
  else if ai r 19 s = 2 then (match prS r s with
    | none => lif (decide (kN r w nk (al r 24 s) (ai r 25 s) = none)) (keyN (tn (ai r 25 s)) 1 0)
    | some c => lif (psS r s && stS r w ns c) (keyN (tn (ai r 25 s)) 12 0))
  else if ai r 19 s = 3 then jsS r s (prS r s) (psS r s)
  else if ai r 19 s = 9 then jtL r w nk nm s
  else if ai r 19 s = 10 then flr (jnK r w nk s) (tn (ai r 29 s)) 0 ++ flr (unL r w nk (bcS r (oN (ai r 26 s))) (nmS r w nk nm s) (tn (ai r 20 s))) nk 0
  else if ai r 19 s = 7 then lif (decide (tgS r s = none)) (keyN (tn (ai r 20 s)) 8 0)
  else []
def jsB (r : RV) (s : Nat) : List Nat := match oN (ai r 23 s) with
  | none => []
  | some t => lif (decide (ai r 48 s = 0)) (keyN (tn (ai r 20 t)) 7 0)
def jsL (r : RV) (w nk nm ns s : Nat) : List Nat := jsA r w nk nm ns s ++ jsB r s
theorem tgF_of {r r' : RV} (e40 : ai r' 40 = ai r 40) (e41 : ai r' 41 = ai r 41) (e21 : ai r' 21 = ai r 21) : ∀ f b, tgF r' f b = tgF r f b := by
  intro f
  induction f with
  | zero => intro b; rfl
  | succ f ih =>
    intro b
    have u : upB r' b = upB r b := by unfold upB; rw [e41, e21]
    rw [tgF, tgF, u, e40, e41]
    simp only [ih]
theorem tgS_put (r : RV) (p c : Int32) (x y z : Nat → Int32) (s : Nat) : tgS (put r p c x y z) s = tgS r s := by
  unfold tgS
  rw [tgF_of (r := r) (r' := put r p c x y z) rfl rfl rfl]
  rfl
section
variable {d : Nat} {h : AH} {a w nk nm ns nb : Nat} {r : RV} {l : List Nat} {Q : Option V → AH → Prop}
theorem j_try (B : BV r w nk nm ns nb) (P : PV r w nk nm ns nb) (J : JT r h a l) {s : Nat} (h1 : w * 120 ≤ s) (h2 : s < w * 120 + ns) (hl : l.length + (jtL r w nk nm s).length ≤ 4000)
    (H : ∀ h' l', JT r h' a l' → l'.Perm (jtL r w nk nm s ++ l) → Q none h') : wp (d + 5) K_X12_judgeTry 0 [] [(0, vr (some a)), (1, vi (nI s))] h Q := by
  have hw2 := B.1.2.1
  have hns := B.2.1.2.2.2.1
  obtain ⟨hN, hc, hcs, -⟩ := B.2.1.2.2.2.2.2 s h1 h2
  have hN4 := hN.2
  have hc4 := hc.2
  obtain ⟨-, -, PN, PC⟩ := P.2.2.1 s h1 h2
  unfold jtL at hl H
  rw [List.length_append] at hl
  generalize et : mask (fun k => hasB (insS r w nk nm s) k && chk r w nk k) nk = t at hl H
  -- the catches
  have LC : ∀ m k (h : AH) l1, k + m = tn (ai r 32 s) → JT r h a l1 → l1.length + (flr (jtC r w nk s t) m k).length ≤ 4000 → (∀ h' l', JT r h' a l' → l'.Perm (flr (jtC r w nk s t) m k ++ l1) → Q none h') → wp (d + 5) K_X12_judgeTry 42 [] [(0, vr (some a)), (1, vi (nI s)), (2, vi t), (3, vi (nI k))] h Q := by
    intro m
    induction m with
    | zero =>
      intro k h l1 e J1 hl1 H1
      have hs := (J1.bq B).1.1.1
      rw [rb_X12_judgeTry_42 _ _ _ _ hs, nI_clamp (by omega), J1.ai (by decide) (by decide) (by decide), hc.1]
      simp (disch := omega) only [nI_clamp, nI_leI, nI_ltI, nI_eq, nI_add, pk_mul, vp_in_nI, nI_1, true_and, and_true, true_implies, implies_true, not_true_eq_false, not_false_eq_true, false_implies, psh, nn_some, forall_const, show tn (ai r 32 s) ≤ k by omega, bk_X12_judgeTry_91]
      exact J1.nil H1
    | succ m ih =>
      intro k h l1 e J1 hl1 H1
      have T := J1.bq B
      have hs := T.1.1.1
      obtain ⟨p1, c1, x1, y1, z1, ev⟩ := vput J1
      have eL : flr (jtC r w nk s t) (m + 1) k = (lif (decide (¬ prT r s k = none)) (keyN (tn (ai r 35 (4 * s + k))) 2 0) ++ flr (jcL r w nk s k t) (tn (ai r 36 (4 * s + k))) 0) ++ flr (jtC r w nk s t) m (k + 1) := rfl
      rw [eL] at hl1 H1
      rw [List.length_append, List.length_append] at hl1
      obtain ⟨PA, PK⟩ := PC k (by omega)
      have hcc := (hcs k (by omega)).1
      have hcc4 := hcc.2
      rw [rb_X12_judgeTry_42 _ _ _ _ hs, nI_clamp (by omega), J1.ai (by decide) (by decide) (by decide), hc.1]
      simp (disch := omega) only [nI_clamp, nI_leI, nI_ltI, nI_eq, nI_add, pk_mul, vp_in_nI, nI_1, true_and, and_true, true_implies, implies_true, not_true_eq_false, not_false_eq_true, false_implies, psh, nn_some, forall_const, show ¬ tn (ai r 32 s) ≤ k by omega]
      rw [rb_X12_judgeTry_48 _ _ _ _ hs, lt4]
      simp (disch := omega) only [nI_clamp, nI_leI, nI_ltI, nI_eq, nI_add, pk_mul, vp_in_nI, nI_1, true_and, and_true, true_implies, implies_true, not_true_eq_false, not_false_eq_true, false_implies, psh, nn_some, forall_const]
      rw [J1.al, J1.ai (by decide) (by decide) (by decide), rf_oI (B.2.2.2.1 s h1 h2).2.2.2.2.1, b_paramOf T _ (fun b e => (rf_some (B.2.2.2.1 s h1 h2).2.2.2.2.1 e).2)]
      have ep : (prF (view h a) (al r 34 (4 * s + k)) 2048 (oN (ai r 21 s)) false).1 = prT r s k := by
        rw [ev]; exact prT_put r p1 c1 x1 y1 z1 s k
      simp only [psh, bk_X12_judgeTry_64]
      rw [ep]
      have J2 := J1.psd (b2i (prF (view h a) (al r 34 (4 * s + k)) 2048 (oN (ai r 21 s)) false).2)
      generalize setFI h 11457 a (b2i (prF (view h a) (al r 34 (4 * s + k)) 2048 (oN (ai r 21 s)) false).2) = h2' at J2 ⊢
      -- the kinds
      have A : ∀ (h : AH) l2, JT r h a l2 → l2.Perm (lif (decide (¬ prT r s k = none)) (keyN (tn (ai r 35 (4 * s + k))) 2 0) ++ l1) → wp (d + 5) K_X12_judgeTry 74 [] [(0, vr (some a)), (1, vi (nI s)), (2, vi t), (3, vi (nI k)), (4, vi (nI (4 * s + k)))] h Q := by
        intro h l2 J2 pm2
        have len2 := pm_len pm2
        rw [bk_X12_judgeTry_74]
        have LK : ∀ m2 j (h : AH) l3, j + m2 = tn (ai r 36 (4 * s + k)) → JT r h a l3 → l3.length + (flr (jcL r w nk s k t) m2 j).length + (flr (jtC r w nk s t) m (k + 1)).length ≤ 4000 → (∀ h' l', JT r h' a l' → l'.Perm ((flr (jcL r w nk s k t) m2 j ++ flr (jtC r w nk s t) m (k + 1)) ++ l3) → Q none h') → wp (d + 5) K_X12_judgeTry 76 [] [(0, vr (some a)), (1, vi (nI s)), (2, vi t), (3, vi (nI k)), (4, vi (nI (4 * s + k))), (5, vi (nI j))] h Q := by
          intro m2
          induction m2 with
          | zero =>
            intro j h l3 e3 J3 hl3 H3
            have hs := (J3.bq B).1.1.1
            rw [rb_X12_judgeTry_76 _ _ _ _ _ _ hs, nI_clamp (by omega), J3.ai (by decide) (by decide) (by decide), hcc.1]
            simp (disch := omega) only [nI_clamp, nI_leI, nI_ltI, nI_eq, nI_add, pk_mul, vp_in_nI, nI_1, true_and, and_true, true_implies, implies_true, not_true_eq_false, not_false_eq_true, false_implies, psh, nn_some, forall_const, show tn (ai r 36 (4 * s + k)) ≤ j by omega, bk_X12_judgeTry_89]
            refine wp_cut 4 ?_
            exact ih (k + 1) h l3 (by omega) J3 (by simp only [flr, List.length_nil] at hl3; omega) H3
          | succ m2 ih2 =>
            intro j h l3 e3 J3 hl3 H3
            have hs := (J3.bq B).1.1.1
            have eK : flr (jcL r w nk s k t) (m2 + 1) j = jcL r w nk s k t j ++ flr (jcL r w nk s k t) m2 (j + 1) := rfl
            rw [eK] at hl3 H3
            rw [List.length_append] at hl3
            rw [rb_X12_judgeTry_76 _ _ _ _ _ _ hs, nI_clamp (by omega), J3.ai (by decide) (by decide) (by decide), hcc.1]
            simp (disch := omega) only [nI_clamp, nI_leI, nI_ltI, nI_eq, nI_add, pk_mul, vp_in_nI, nI_1, true_and, and_true, true_implies, implies_true, not_true_eq_false, not_false_eq_true, false_implies, psh, nn_some, forall_const, show ¬ tn (ai r 36 (4 * s + k)) ≤ j by omega]
            rw [rb_X12_judgeTry_82 _ _ _ _ _ _ hs]
            refine j_caught B J3 h1 h2 (by omega) (by omega) (PK j (by omega)) t (by omega) (fun h' l' J' pm => ?_)
            simp only [psh, bk_X12_judgeTry_87, nI_1]
            refine ih2 (j + 1) h' l' (by omega) J' (by rw [pm_len pm]; omega) (fun h4 l4 J4 pm4 => H3 h4 l4 J4 ?_)
            have := pm_step pm pm4
            rwa [← List.append_assoc] at this
        refine LK (tn (ai r 36 (4 * s + k))) 0 h l2 (by omega) J2 (by omega) (fun h4 l4 J4 pm4 => H1 h4 l4 J4 ?_)
        have := pm_step pm2 pm4
        rwa [← List.append_assoc] at this
      have okp : ∀ j, prT r s k = some j → j < 2 ^ 31 := fun j ej => by
        rw [← ep] at ej
        have := T.prf _ _ _ _ _ (fun b e => (rf_some (B.2.2.2.1 s h1 h2).2.2.2.2.1 e).2) ej
        omega
      refine ⟨fun z => A h2' l1 J2 ?_, fun z => ?_⟩
      · rw [(oI_m1 okp).mp z]; exact List.Perm.refl _
      · have z : ¬ prT r s k = none := fun q => z (by rw [q]; rfl)
        have hs2 := (J2.bq B).1.1.1
        rw [rb_X12_judgeTry_66 _ _ _ _ _ hs2]
        simp (disch := omega) only [nI_clamp, nI_leI, nI_ltI, nI_eq, nI_add, pk_mul, vp_in_nI, nI_1, true_and, and_true, true_implies, implies_true, not_true_eq_false, not_false_eq_true, false_implies, psh, nn_some, forall_const]
        rw [J2.ai (by decide) (by decide) (by decide), PA.1, ← kI_0, lt2]
        rw [decide_eq_true z, lif_t] at hl1 A
        refine J2.blame (by simp only [List.length_cons, List.length_nil] at hl1; omega) PA.2 (by omega) (by omega) (fun h' l' J' pm => ?_)
        exact A h' l' J' pm
  -- the names
  have LN : ∀ m k (h : AH) l1, k + m = tn (ai r 29 s) → JT r h a l1 → l1.length + (flr (jtN r w nm s) m k).length + (flr (jtC r w nk s t) (tn (ai r 32 s)) 0).length ≤ 4000 → (∀ h' l', JT r h' a l' → l'.Perm ((flr (jtN r w nm s) m k ++ flr (jtC r w nk s t) (tn (ai r 32 s)) 0) ++ l1) → Q none h') → wp (d + 5) K_X12_judgeTry 2 [] [(0, vr (some a)), (1, vi (nI s)), (2, vi (nI k))] h Q := by
    intro m
    induction m with
    | zero =>
      intro k h l1 e J1 hl1 H1
      have T := J1.bq B
      have K := T.1.1; have hs := K.1
      obtain ⟨p1, c1, x1, y1, z1, ev⟩ := vput J1
      rw [rb_X12_judgeTry_2 _ _ _ hs, nI_clamp (by omega), J1.ai (by decide) (by decide) (by decide), hN.1]
      simp (disch := omega) only [nI_clamp, nI_leI, nI_ltI, nI_eq, nI_add, pk_mul, vp_in_nI, nI_1, true_and, and_true, true_implies, implies_true, not_true_eq_false, not_false_eq_true, false_implies, psh, nn_some, forall_const, show tn (ai r 29 s) ≤ k by omega]
      rw [rb_X12_judgeTry_34 _ _ _ hs, b_inside T h1 h2]
      simp only [psh, bk_X12_judgeTry_38, nn_some, hs.1, true_and]
      rw [q_checkedOf K]
      have e2 : mask (fun k => hasB (insS (view h a) w nk nm s) k && chk (view h a) w nk k) nk = t := by
        rw [ev, insS_put]; exact et
      simp only [psh, bk_X12_judgeTry_39, e2]
      exact LC (tn (ai r 32 s)) 0 h l1 (by omega) J1 (by simp only [flr, List.length_nil] at hl1; omega) H1
    | succ m ih =>
      intro k h l1 e J1 hl1 H1
      have T := J1.bq B
      have hs := T.1.1.1
      obtain ⟨p1, c1, x1, y1, z1, ev⟩ := vput J1
      have eL : flr (jtN r w nm s) (m + 1) k = jtN r w nm s k ++ flr (jtN r w nm s) m (k + 1) := rfl
      rw [eL] at hl1 H1
      rw [List.length_append] at hl1
      rw [rb_X12_judgeTry_2 _ _ _ hs, nI_clamp (by omega), J1.ai (by decide) (by decide) (by decide), hN.1]
      simp (disch := omega) only [nI_clamp, nI_leI, nI_ltI, nI_eq, nI_add, pk_mul, vp_in_nI, nI_1, true_and, and_true, true_implies, implies_true, not_true_eq_false, not_false_eq_true, false_implies, psh, nn_some, forall_const, show ¬ tn (ai r 29 s) ≤ k by omega]
      rw [rb_X12_judgeTry_8 _ _ _ hs, lt4]
      simp (disch := omega) only [nI_clamp, nI_leI, nI_ltI, nI_eq, nI_add, pk_mul, vp_in_nI, nI_1, true_and, and_true, true_implies, implies_true, not_true_eq_false, not_false_eq_true, false_implies, psh, nn_some, forall_const]
      rw [J1.al, t_methodOf T.1]
      have em : mN (view h a) w nm (al r 30 (4 * s + k)) = mN r w nm (al r 30 (4 * s + k)) := by rw [ev]; rfl
      simp only [psh, bk_X12_judgeTry_18, em]
      have nx : ∀ (h' : AH) l', JT r h' a l' → l'.Perm (jtN r w nm s k ++ l1) → wp (d + 5) K_X12_judgeTry 32 [] [(0, vr (some a)), (1, vi (nI s)), (2, vi (nI k))] h' Q := fun h' l' J' pm => by
        rw [bk_X12_judgeTry_32, nI_1]
        refine ih (k + 1) h' l' (by omega) J' (by rw [pm_len pm]; omega) (fun h4 l4 J4 pm4 => H1 h4 l4 J4 ?_)
        have := pm_step pm pm4
        rwa [← List.append_assoc] at this
      have oke : ∀ j, mN r w nm (al r 30 (4 * s + k)) = some j → j < 2 ^ 31 := fun j ej => by have := mN_lt ej; have := B.2.1.2.1; omega
      have en : jtN r w nm s k = lif (decide (mN r w nm (al r 30 (4 * s + k)) = none)) (keyN (tn (ai r 31 (4 * s + k))) 1 0) := rfl
      refine ⟨fun z => nx h l1 J1 ?_, fun z => ?_⟩
      · have z : ¬ mN r w nm (al r 30 (4 * s + k)) = none := fun q => z (by rw [q]; rfl)
        rw [en, decide_eq_false z]; exact List.Perm.refl _
      · have z := (oI_m1 oke).mp (Classical.not_not.mp z)
        rw [rb_X12_judgeTry_20 _ _ _ hs, lt4]
        simp (disch := omega) only [nI_clamp, nI_leI, nI_ltI, nI_eq, nI_add, pk_mul, vp_in_nI, nI_1, true_and, and_true, true_implies, implies_true, not_true_eq_false, not_false_eq_true, false_implies, psh, nn_some, forall_const]
        have Pk := PN k (by omega)
        rw [J1.ai (by decide) (by decide) (by decide), Pk.1, ← kI_0, lt1]
        rw [en, decide_eq_true z, lif_t] at hl1 nx
        refine J1.blame (by simp only [List.length_cons, List.length_nil] at hl1; omega) Pk.2 (by omega) (by omega) (fun h' l' J' pm => ?_)
        exact nx h' l' J' pm
  rw [bk_X12_judgeTry_0]
  exact LN (tn (ai r 29 s)) 0 h l (by omega) J (by omega) H
theorem j_stmt (B : BV r w nk nm ns nb) (P : PV r w nk nm ns nb) (J : JT r h a l) {s : Nat} (h1 : w * 120 ≤ s) (h2 : s < w * 120 + ns) (hl : l.length + (jsL r w nk nm ns s).length ≤ 4000)
    (H : ∀ h' l', JT r h' a l' → l'.Perm (jsL r w nk nm ns s ++ l) → Q none h') : wp (d + 6) K_X12_judgeStatement 0 [] [(0, vr (some a)), (1, vi (nI s))] h Q := by
  have hw2 := B.1.2.1
  have hns := B.2.1.2.2.2.1
  have hnm := B.2.1.2.1
  have hnb := B.2.2.1
  have hnk := B.1.2.2.2.1
  obtain ⟨hN, -, -, -⟩ := B.2.1.2.2.2.2.2 s h1 h2
  have hN4 := hN.2
  obtain ⟨R26, -, -, -, R21, -, R23⟩ := B.2.2.2.1 s h1 h2
  obtain ⟨PL, PW, PN, -⟩ := P.2.2.1 s h1 h2
  unfold jsL at hl H
  rw [List.length_append] at hl
  -- what follows
  have F : ∀ (h : AH) l1 x2 x3, JT r h a l1 → l1.Perm (jsA r w nk nm ns s ++ l) → wp (d + 6) K_X12_judgeStatement 203 [] [(0, vr (some a)), (1, vi (nI s)), (2, vi x2), (3, vi x3)] h Q := by
    intro h l1 x2 x3 J1 pm1
    have len1 := pm_len pm1
    have hs := (J1.bq B).1.1.1
    have eB : jsB r s = (match oN (ai r 23 s) with
      | none => []
      | some t => lif (decide (ai r 48 s = 0)) (keyN (tn (ai r 20 t)) 7 0)) := rfl
    rw [rb_X12_judgeStatement_203 _ _ _ _ hs]
    simp (disch := omega) only [nI_clamp, nI_leI, nI_ltI, nI_eq, nI_add, pk_mul, vp_in_nI, nI_1, true_and, and_true, true_implies, implies_true, not_true_eq_false, not_false_eq_true, false_implies, psh, nn_some, forall_const, bk_X12_judgeStatement_225]
    rw [J1.ai (by decide) (by decide) (by decide)]
    refine ⟨fun z => ?_, fun z => ?_⟩
    · rw [z] at eB
      have eB : jsB r s = [] := eB
      refine H h l1 J1 ?_
      rw [eB, List.append_nil]; exact pm1
    · rw [rb_X12_judgeStatement_209 _ _ _ _ hs]
      simp (disch := omega) only [nI_clamp, nI_leI, nI_ltI, nI_eq, nI_add, pk_mul, vp_in_nI, nI_1, true_and, and_true, true_implies, implies_true, not_true_eq_false, not_false_eq_true, false_implies, psh, nn_some, forall_const, bk_X12_judgeStatement_225]
      rw [J1.ai (by decide) (by decide) (by decide)]
      cases et : oN (ai r 23 s) with
      | none => exact absurd (rf_none et) z
      | some t =>
        rw [et] at eB
        have eB : jsB r s = lif (decide (ai r 48 s = 0)) (keyN (tn (ai r 20 t)) 7 0) := eB
        obtain ⟨t1, t2, t3⟩ := rf_some R23 et
        have Pt := (P.2.2.1 t (by omega) t3).1
        refine ⟨fun z2 => ?_, fun z2 => ?_⟩
        · refine H h l1 J1 ?_
          rw [eB, decide_eq_false z2, lif_f, List.append_nil]; exact pm1
        · have z2 := Classical.not_not.mp z2
          rw [rb_X12_judgeStatement_214 _ _ _ _ hs]
          simp (disch := omega) only [nI_clamp, nI_leI, nI_ltI, nI_eq, nI_add, pk_mul, vp_in_nI, nI_1, true_and, and_true, true_implies, implies_true, not_true_eq_false, not_false_eq_true, false_implies, psh, nn_some, forall_const]
          rw [J1.ai (by decide) (by decide) (by decide), t1]
          simp (disch := omega) only [nI_clamp, nI_leI, nI_ltI, nI_eq, nI_add, pk_mul, vp_in_nI, nI_1, true_and, and_true, true_implies, implies_true, not_true_eq_false, not_false_eq_true, false_implies, psh, nn_some, forall_const]
          rw [J1.ai (by decide) (by decide) (by decide), Pt.1, ← kI_0, show (7 : Int32) = nI 7 from rfl]
          rw [eB, decide_eq_true z2, lif_t] at hl H
          refine J1.blame (by simp only [List.length_cons, List.length_nil] at hl; omega) Pt.2 (by omega) (by omega) (fun h' l' J' pm => ?_)
          simp only [psh, bk_X12_judgeStatement_225]
          exact H h' l' J' (pm_step pm1 pm)
  have F0 : ∀ (h : AH) x2 x3, JT r h a l → jsA r w nk nm ns s = [] → wp (d + 6) K_X12_judgeStatement 203 [] [(0, vr (some a)), (1, vi (nI s)), (2, vi x2), (3, vi x3)] h Q := fun h x2 x3 J z => F h l x2 x3 J (by rw [z]; exact List.Perm.refl _)
  have F4 : ∀ (h : AH) l1 x2 x3 x4, JT r h a l1 → l1.Perm (jsA r w nk nm ns s ++ l) → wp (d + 6) K_X12_judgeStatement 203 [] [(0, vr (some a)), (1, vi (nI s)), (2, vi x2), (3, vi x3), (4, vi x4)] h Q := fun h l1 x2 x3 x4 J pm => wp_cut 4 (F h l1 x2 x3 J pm)
  have F5 : ∀ (h : AH) l1 x2 x3 x4, JT r h a l1 → l1.Perm (jsA r w nk nm ns s ++ l) → wp (d + 6) K_X12_judgeStatement 203 [] [(0, vr (some a)), (1, vi (nI s)), (2, vi x2), (3, vi x3), (5, vi x4)] h Q := fun h l1 x2 x3 x4 J pm => wp_cut 5 (F h l1 x2 x3 J pm)
  have eA : jsA r w nk nm ns s = if ai r 19 s = 1 then (match mN r w nm (al r 24 s) with
      | none => [keyN (tn (ai r 25 s)) 1 0]
      | some j => match oN (ai r 26 s) with
        | none => []
        | some b => lif (decide (ai r 13 (w * 12 + j) = 0)) (keyN (tn (ai r 43 b)) 11 0))
    else if ai r 19 s = 2 then (match prS r s with
      | none => lif (decide (kN r w nk (al r 24 s) (ai r 25 s) = none)) (keyN (tn (ai r 25 s)) 1 0)
      | some c => lif (psS r s && stS r w ns c) (keyN (tn (ai r 25 s)) 12 0))
    else if ai r 19 s = 3 then jsS r s (prS r s) (psS r s)
    else if ai r 19 s = 9 then jtL r w nk nm s
    else if ai r 19 s = 10 then flr (jnK r w nk s) (tn (ai r 29 s)) 0 ++ flr (unL r w nk (bcS r (oN (ai r 26 s))) (nmS r w nk nm s) (tn (ai r 20 s))) nk 0
    else if ai r 19 s = 7 then lif (decide (tgS r s = none)) (keyN (tn (ai r 20 s)) 8 0)
    else [] := rfl
  have okP : ∀ (h : AH), JT r h a l → ∀ c, prS r s = some c → ∃ s2 i, w * 120 ≤ s2 ∧ s2 < w * 120 + ns ∧ i < tn (ai r 32 s2) ∧ i < 4 ∧ c = 4 * s2 + i := fun h J c ec => by
    obtain ⟨p1, c1, x1, y1, z1, ev⟩ := vput J
    have T := J.bq B
    have ec : prS (view h a) s = some c := by rw [ev, prS_put]; exact ec
    obtain ⟨s2, i, g1, g2, g3, g4, g5⟩ := T.prf _ _ _ _ c (T.inB h1 h2) ec
    rw [J.ai (by decide) (by decide) (by decide)] at g3
    exact ⟨s2, i, g1, g2, g3, g4, g5⟩
  -- from the switch on, the parameter known
  have S : ∀ (h : AH), JT r h a l → ∀ o, (ai r 19 s = 2 ∨ ai r 19 s = 3 → o = prS r s ∧ fI h 11457 a = b2i (psS r s)) → wp (d + 6) K_X12_judgeStatement 24 [vi (oI o)] [(0, vr (some a)), (1, vi (nI s))] h Q := by
    intro h J o ho
    have T := J.bq B
    have K := T.1.1; have hs := K.1; have hw := K.2.1
    obtain ⟨p1, c1, x1, y1, z1, ev⟩ := vput J
    rw [rb_X12_judgeStatement_24 _ _ _ hs]
    simp (disch := omega) only [nI_clamp, nI_leI, nI_ltI, nI_eq, nI_add, pk_mul, vp_in_nI, nI_1, true_and, and_true, true_implies, implies_true, not_true_eq_false, not_false_eq_true, false_implies, psh, nn_some, forall_const]
    rw [J.ai (by decide) (by decide) (by decide)]
    refine ⟨fun c => F0 h _ _ J ?_, fun j hj e => ?_⟩
    · rw [eA]
      have ne : ∀ x : Int32, ¬ (x < 1 ∨ 1 + Int32.ofNat 10 ≤ x) → ¬ ai r 19 s = x := fun x hx z => hx (by rw [z] at c; exact c)
      rw [if_neg (ne 1 (by decide)), if_neg (ne 2 (by decide)), if_neg (ne 3 (by decide)), if_neg (ne 9 (by decide)), if_neg (ne 10 (by decide)), if_neg (ne 7 (by decide))]
    · have : j = 0 ∨ j = 1 ∨ j = 2 ∨ j = 3 ∨ j = 4 ∨ j = 5 ∨ j = 6 ∨ j = 7 ∨ j = 8 ∨ j = 9 := by omega
      rcases this with z | z | z | z | z | z | z | z | z | z <;> subst z
      · -- call
        have e : ai r 19 s = 1 := e
        have Pw := PW (Or.inl e)
        rw [e] at eA
        have eA : jsA r w nk nm ns s = (match mN r w nm (al r 24 s) with
          | none => [keyN (tn (ai r 25 s)) 1 0]
          | some j => match oN (ai r 26 s) with
            | none => []
            | some b => lif (decide (ai r 13 (w * 12 + j) = 0)) (keyN (tn (ai r 43 b)) 11 0)) := eA
        change wp (d + 6) K_X12_judgeStatement 33 [] _ h Q
        rw [rb_X12_judgeStatement_33 _ _ _ _ hs]
        simp (disch := omega) only [nI_clamp, nI_leI, nI_ltI, nI_eq, nI_add, pk_mul, vp_in_nI, nI_1, true_and, and_true, true_implies, implies_true, not_true_eq_false, not_false_eq_true, false_implies, psh, nn_some, forall_const]
        rw [J.al, t_methodOf T.1]
        have em : mN (view h a) w nm (al r 24 s) = mN r w nm (al r 24 s) := by rw [ev]; rfl
        simp only [psh, bk_X12_judgeStatement_39, em]
        cases eq : mN r w nm (al r 24 s) with
        | none =>
          rw [eq] at eA
          have eA : jsA r w nk nm ns s = [keyN (tn (ai r 25 s)) 1 0] := eA
          simp only [oI, not_true_eq_false, false_implies, true_and, not_false_eq_true, true_implies]
          rw [rb_X12_judgeStatement_43 _ _ _ _ _ hs]
          simp (disch := omega) only [nI_clamp, nI_leI, nI_ltI, nI_eq, nI_add, pk_mul, vp_in_nI, nI_1, true_and, and_true, true_implies, implies_true, not_true_eq_false, not_false_eq_true, false_implies, psh, nn_some, forall_const]
          rw [J.ai (by decide) (by decide) (by decide), Pw.1, ← kI_0, lt1]
          rw [eA] at hl F4
          refine J.blame (by simp only [List.length_cons, List.length_nil] at hl; omega) Pw.2 (by omega) (by omega) (fun h' l' J' pm => ?_)
          simp only [psh, bk_X12_judgeStatement_51]
          exact F4 h' l' _ _ _ J' pm
        | some j =>
          have hj := mN_lt eq
          rw [eq] at eA
          have eA : jsA r w nk nm ns s = (match oN (ai r 26 s) with
            | none => []
            | some b => lif (decide (ai r 13 (w * 12 + j) = 0)) (keyN (tn (ai r 43 b)) 11 0)) := eA
          simp (disch := omega) only [oI_some, nI_ne_m1, nI_clamp, nI_leI, nI_ltI, nI_eq, nI_add, pk_mul, vp_in_nI, nI_1, true_and, and_true, true_implies, implies_true, not_true_eq_false, not_false_eq_true, false_implies, psh, nn_some, forall_const]
          rw [rb_X12_judgeStatement_52 _ _ _ _ _ hs]
          simp (disch := omega) only [nI_clamp, nI_leI, nI_ltI, nI_eq, nI_add, pk_mul, vp_in_nI, nI_1, true_and, and_true, true_implies, implies_true, not_true_eq_false, not_false_eq_true, false_implies, psh, nn_some, forall_const]
          rw [J.ai (by decide) (by decide) (by decide)]
          refine ⟨fun z => F4 h l _ _ _ J ?_, fun z => ?_⟩
          · rw [z] at eA
            have eA : jsA r w nk nm ns s = [] := eA
            rw [eA]; exact List.Perm.refl _
          · cases eb : oN (ai r 26 s) with
            | none => exact absurd (rf_none eb) z
            | some b =>
              rw [eb] at eA
              have eA : jsA r w nk nm ns s = lif (decide (ai r 13 (w * 12 + j) = 0)) (keyN (tn (ai r 43 b)) 11 0) := eA
              obtain ⟨b1, b2, b3⟩ := rf_some R26 eb
              have Pb := P.2.2.2 b b2 b3
              rw [rb_X12_judgeStatement_58 _ _ _ _ _ hs]
              simp (disch := omega) only [hw, lt12, nI_clamp, nI_leI, nI_ltI, nI_eq, nI_add, pk_mul, vp_in_nI, nI_1, true_and, and_true, true_implies, implies_true, not_true_eq_false, not_false_eq_true, false_implies, psh, nn_some, forall_const]
              rw [J.ai (by decide) (by decide) (by decide)]
              refine ⟨fun z2 => F4 h l _ _ _ J ?_, fun z2 => ?_⟩
              · rw [eA, decide_eq_false z2]; exact List.Perm.refl _
              · have z2 := Classical.not_not.mp z2
                rw [rb_X12_judgeStatement_68 _ _ _ _ _ hs]
                simp (disch := omega) only [nI_clamp, nI_leI, nI_ltI, nI_eq, nI_add, pk_mul, vp_in_nI, nI_1, true_and, and_true, true_implies, implies_true, not_true_eq_false, not_false_eq_true, false_implies, psh, nn_some, forall_const]
                rw [J.ai (by decide) (by decide) (by decide), b1]
                simp (disch := omega) only [nI_clamp, nI_leI, nI_ltI, nI_eq, nI_add, pk_mul, vp_in_nI, nI_1, true_and, and_true, true_implies, implies_true, not_true_eq_false, not_false_eq_true, false_implies, psh, nn_some, forall_const]
                rw [J.ai (by decide) (by decide) (by decide), Pb.1, ← kI_0, show (11 : Int32) = nI 11 from rfl]
                rw [eA, decide_eq_true z2, lif_t] at hl F4
                refine J.blame (by simp only [List.length_cons, List.length_nil] at hl; omega) Pb.2 (by omega) (by omega) (fun h' l' J' pm => ?_)
                simp only [psh, bk_X12_judgeStatement_79]
                exact F4 h' l' _ _ _ J' pm
      · -- throw
        have e : ai r 19 s = 2 := e
        have Pw := PW (Or.inr (Or.inl e))
        obtain ⟨eo, eq⟩ := ho (Or.inl e)
        rw [e] at eA
        have eA : jsA r w nk nm ns s = (match prS r s with
          | none => lif (decide (kN r w nk (al r 24 s) (ai r 25 s) = none)) (keyN (tn (ai r 25 s)) 1 0)
          | some c => lif (psS r s && stS r w ns c) (keyN (tn (ai r 25 s)) 12 0)) := eA
        change wp (d + 6) K_X12_judgeStatement 80 [] _ h Q
        rw [bk_X12_judgeStatement_80, eq, eo]
        have G : ∀ (h : AH) l1, JT r h a l1 → prS r s = none → l1.Perm (jsA r w nk nm ns s ++ l) → wp (d + 6) K_X12_judgeStatement 103 [] [(0, vr (some a)), (1, vi (nI s)), (2, vi (oI none)), (3, vi (b2i (psS r s)))] h Q := fun h l1 J ep pm => by
          rw [bk_X12_judgeStatement_103]
          simp only [oI, not_true_eq_false, false_implies, and_true, true_implies]
          exact F h l1 _ _ J pm
        cases ep : prS r s with
        | none =>
          rw [ep] at eA
          have eA : jsA r w nk nm ns s = lif (decide (kN r w nk (al r 24 s) (ai r 25 s) = none)) (keyN (tn (ai r 25 s)) 1 0) := eA
          simp only [show oI none = -1 from rfl, not_true_eq_false, false_implies, true_and, not_false_eq_true, true_implies]
          rw [rb_X12_judgeStatement_83 _ _ _ _ hs]
          simp (disch := omega) only [nI_clamp, nI_leI, nI_ltI, nI_eq, nI_add, pk_mul, vp_in_nI, nI_1, true_and, and_true, true_implies, implies_true, not_true_eq_false, not_false_eq_true, false_implies, psh, nn_some, forall_const]
          rw [J.al, J.ai (by decide) (by decide) (by decide), q_kindOf K]
          have ek : kN (view h a) w nk (al r 24 s) (ai r 25 s) = kN r w nk (al r 24 s) (ai r 25 s) := by rw [ev]; rfl
          simp only [psh, bk_X12_judgeStatement_93, ek]
          have okk : ∀ j, kN r w nk (al r 24 s) (ai r 25 s) = some j → j < 2 ^ 31 := kN_ok hnk
          refine ⟨fun z => G h l J ep ?_, fun z => ?_⟩
          · have z : ¬ kN r w nk (al r 24 s) (ai r 25 s) = none := fun q => z (by rw [q]; rfl)
            rw [eA, decide_eq_false z]; exact List.Perm.refl _
          · have z := (oI_m1 okk).mp (Classical.not_not.mp z)
            rw [rb_X12_judgeStatement_95 _ _ _ _ hs]
            simp (disch := omega) only [nI_clamp, nI_leI, nI_ltI, nI_eq, nI_add, pk_mul, vp_in_nI, nI_1, true_and, and_true, true_implies, implies_true, not_true_eq_false, not_false_eq_true, false_implies, psh, nn_some, forall_const]
            rw [J.ai (by decide) (by decide) (by decide), Pw.1, ← kI_0, lt1]
            rw [eA, decide_eq_true z, lif_t] at hl G
            refine J.blame (by simp only [List.length_cons, List.length_nil] at hl; omega) Pw.2 (by omega) (by omega) (fun h' l' J' pm => ?_)
            have := G h' l' J' ep pm
            rw [show oI none = kI 0 from kI_0.symm] at this
            exact this
        | some c =>
          rw [ep] at eA
          have eA : jsA r w nk nm ns s = lif (psS r s && stS r w ns c) (keyN (tn (ai r 25 s)) 12 0) := eA
          obtain ⟨s2, i, g1, g2, g3, g4, g5⟩ := okP h J c ep
          simp (disch := omega) only [oI_some, nI_ne_m1, nI_clamp, nI_leI, nI_ltI, nI_eq, nI_add, pk_mul, vp_in_nI, nI_1, true_and, and_true, true_implies, implies_true, not_true_eq_false, not_false_eq_true, false_implies, psh, nn_some, forall_const, bk_X12_judgeStatement_103, bk_X12_judgeStatement_106, b2i_0]
          refine ⟨fun z => F0 h _ _ J (by rw [eA, z]; rfl), fun z => ?_⟩
          rw [rb_X12_judgeStatement_108 _ _ _ _ hs]
          refine b_isSet T (by omega) (fun v => ?_)
          have es : stS (view h a) w ns c = stS r w ns c := by rw [ev, stS_put]
          simp only [psh, bk_X12_judgeStatement_111, b2i_0, es]
          have J2 := J.psd v
          generalize setFI h 11457 a v = h2' at J2 ⊢
          refine ⟨fun z2 => F0 h2' _ _ J2 (by rw [eA, z2]; simp [lif]), fun z2 => ?_⟩
          have hs2 := (J2.bq B).1.1.1
          rw [rb_X12_judgeStatement_112 _ _ _ _ hs2]
          simp (disch := omega) only [nI_clamp, nI_leI, nI_ltI, nI_eq, nI_add, pk_mul, vp_in_nI, nI_1, true_and, and_true, true_implies, implies_true, not_true_eq_false, not_false_eq_true, false_implies, psh, nn_some, forall_const]
          rw [J2.ai (by decide) (by decide) (by decide), Pw.1, ← kI_0, show (12 : Int32) = nI 12 from rfl]
          rw [eA, bt z, bt z2, Bool.and_self, lif_t] at hl
          rw [eA, bt z2, Bool.and_true] at F
          refine J2.blame (by simp only [List.length_cons, List.length_nil] at hl; omega) Pw.2 (by omega) (by omega) (fun h' l' J' pm => ?_)
          simp only [psh, bk_X12_judgeStatement_120]
          refine F h' l' _ _ J' ?_
          rw [bt z]; exact pm
      · -- set
        have e : ai r 19 s = 3 := e
        have Pw := PW (Or.inr (Or.inr e))
        obtain ⟨eo, eq⟩ := ho (Or.inr e)
        rw [e] at eA
        have eA : jsA r w nk nm ns s = jsS r s (prS r s) (psS r s) := eA
        change wp (d + 6) K_X12_judgeStatement 121 [] _ h Q
        rw [rb_X12_judgeStatement_121 _ _ _ _ hs, eq, eo]
        rw [eA] at hl F
        refine j_set B J h1 h2 Pw (fun c ec => ?_) (by omega) (fun h' l' J' pm => ?_)
        · obtain ⟨s2, i, g1, g2, g3, g4, g5⟩ := okP h J c ec
          refine ⟨by omega, ?_⟩
          rw [g5]
          exact ((B.2.1.2.2.2.2.2 s2 g1 g2).2.2.1 i g3).1
        · simp only [psh, bk_X12_judgeStatement_126]
          exact F h' l' _ _ J' pm
      · exact F0 h _ _ J (by rw [eA, show ai r 19 s = 4 from e]; rfl)
      · exact F0 h _ _ J (by rw [eA, show ai r 19 s = 5 from e]; rfl)
      · exact F0 h _ _ J (by rw [eA, show ai r 19 s = 6 from e]; rfl)
      · -- break
        have e : ai r 19 s = 7 := e
        rw [e] at eA
        have eA : jsA r w nk nm ns s = lif (decide (tgS r s = none)) (keyN (tn (ai r 20 s)) 8 0) := eA
        change wp (d + 6) K_X12_judgeStatement 189 [] _ h Q
        rw [rb_X12_judgeStatement_189 _ _ _ _ hs, b_target T h1 h2]
        have eg : tgS (view h a) s = tgS r s := by rw [ev, tgS_put]
        simp only [psh, bk_X12_judgeStatement_192, eg]
        have okk : ∀ j, tgS r s = some j → j < 2 ^ 31 := fun j ej => by
          have : ∀ f b j, tgF r f b = some j → j < 2 ^ 31 := by
            intro f
            induction f with
            | zero => intro b j e; cases e
            | succ f ih =>
              intro b j e
              rw [tgF] at e
              split at e
              · cases e
              · split at e
                · cases e; exact (Int32.toNatClampNeg_lt _)
                · split at e
                  · cases e
                  · exact ih _ _ e
          exact this _ _ _ ej
        refine ⟨fun z => F0 h _ _ J ?_, fun z => ?_⟩
        · have z : ¬ tgS r s = none := fun q => z (by rw [q]; rfl)
          rw [eA, decide_eq_false z]; rfl
        · have z := (oI_m1 okk).mp (Classical.not_not.mp z)
          rw [rb_X12_judgeStatement_194 _ _ _ _ hs]
          simp (disch := omega) only [nI_clamp, nI_leI, nI_ltI, nI_eq, nI_add, pk_mul, vp_in_nI, nI_1, true_and, and_true, true_implies, implies_true, not_true_eq_false, not_false_eq_true, false_implies, psh, nn_some, forall_const]
          rw [J.ai (by decide) (by decide) (by decide), PL.1, ← kI_0, show (8 : Int32) = nI 8 from rfl]
          rw [eA, decide_eq_true z, lif_t] at hl F
          refine J.blame (by simp only [List.length_cons, List.length_nil] at hl; omega) PL.2 (by omega) (by omega) (fun h' l' J' pm => ?_)
          simp only [psh, bk_X12_judgeStatement_202]
          exact F h' l' _ _ J' pm
      · exact F0 h _ _ J (by rw [eA, show ai r 19 s = 8 from e]; rfl)
      · -- try
        have e : ai r 19 s = 9 := e
        rw [e] at eA
        have eA : jsA r w nk nm ns s = jtL r w nk nm s := eA
        change wp (d + 6) K_X12_judgeStatement 127 [] _ h Q
        rw [rb_X12_judgeStatement_127 _ _ _ _ hs]
        rw [eA] at hl F
        refine j_try B P J h1 h2 (by omega) (fun h' l' J' pm => ?_)
        simp only [psh, bk_X12_judgeStatement_130]
        exact F h' l' _ _ J' pm
      · -- run
        have e : ai r 19 s = 10 := e
        rw [e] at eA
        have eA : jsA r w nk nm ns s = flr (jnK r w nk s) (tn (ai r 29 s)) 0 ++ flr (unL r w nk (bcS r (oN (ai r 26 s))) (nmS r w nk nm s) (tn (ai r 20 s))) nk 0 := eA
        rw [eA] at hl F5
        rw [List.length_append] at hl
        change wp (d + 6) K_X12_judgeStatement 131 [] _ h Q
        rw [bk_X12_judgeStatement_131]
        have L : ∀ m k (h : AH) l1 x2 x3, k + m = tn (ai r 29 s) → JT r h a l1 → l1.length + (flr (jnK r w nk s) m k).length + (flr (unL r w nk (bcS r (oN (ai r 26 s))) (nmS r w nk nm s) (tn (ai r 20 s))) nk 0).length ≤ 4000 → (∀ (h' : AH) l' x2 x3 x5, JT r h' a l' → l'.Perm ((flr (jnK r w nk s) m k ++ flr (unL r w nk (bcS r (oN (ai r 26 s))) (nmS r w nk nm s) (tn (ai r 20 s))) nk 0) ++ l1) → wp (d + 6) K_X12_judgeStatement 203 [] [(0, vr (some a)), (1, vi (nI s)), (2, vi x2), (3, vi x3), (5, vi x5)] h' Q) → wp (d + 6) K_X12_judgeStatement 133 [] [(0, vr (some a)), (1, vi (nI s)), (2, vi x2), (3, vi x3), (5, vi (nI k))] h Q := by
          intro m
          induction m with
          | zero =>
            intro k h l1 x2 x3 e J1 hl1 H1
            have T := J1.bq B
            have K := T.1.1; have hs := K.1
            obtain ⟨p1, c1, x1, y1, z1, ev⟩ := vput J1
            rw [rb_X12_judgeStatement_133 _ _ _ _ _ hs, nI_clamp (by omega), J1.ai (by decide) (by decide) (by decide), hN.1]
            simp (disch := omega) only [nI_clamp, nI_leI, nI_ltI, nI_eq, nI_add, pk_mul, vp_in_nI, nI_1, true_and, and_true, true_implies, implies_true, not_true_eq_false, not_false_eq_true, false_implies, psh, nn_some, forall_const, show tn (ai r 29 s) ≤ k by omega]
            rw [rb_X12_judgeStatement_173 _ _ _ _ _ hs]
            simp (disch := omega) only [nI_clamp, nI_leI, nI_ltI, nI_eq, nI_add, pk_mul, vp_in_nI, nI_1, true_and, and_true, true_implies, implies_true, not_true_eq_false, not_false_eq_true, false_implies, psh, nn_some, forall_const]
            rw [J1.ai (by decide) (by decide) (by decide), rf_oI R26, b_blockCan T (fun b e => (rf_some R26 e).2)]
            simp only [psh]
            rw [rb_X12_judgeStatement_180 _ _ _ _ _ _ _ hs, t_namesOf T.1 h1 h2]
            simp only [psh]
            rw [rb_X12_judgeStatement_183 _ _ _ _ _ _ _ _ hs]
            simp (disch := omega) only [nI_clamp, nI_leI, nI_ltI, nI_eq, nI_add, pk_mul, vp_in_nI, nI_1, true_and, and_true, true_implies, implies_true, not_true_eq_false, not_false_eq_true, false_implies, psh, nn_some, forall_const, nn_some, hs.1]
            rw [J1.ai (by decide) (by decide) (by decide), PL.1, ev, bcS_put]
            have e2 : nmS (put r p1 c1 x1 y1 z1) w nk nm s = nmS r w nk nm s := rfl
            rw [e2]
            refine j_untold B J1 _ _ PL.2 (by simp only [flr, List.length_nil] at hl1; omega) (fun h' l' J' pm => ?_)
            simp only [psh, bk_X12_judgeStatement_188]
            exact H1 h' l' _ _ _ J' pm
          | succ m ih =>
            intro k h l1 x2 x3 e J1 hl1 H1
            have T := J1.bq B
            have K := T.1.1; have hs := K.1
            obtain ⟨p1, c1, x1, y1, z1, ev⟩ := vput J1
            have eL : flr (jnK r w nk s) (m + 1) k = jnK r w nk s k ++ flr (jnK r w nk s) m (k + 1) := rfl
            rw [eL] at hl1 H1
            rw [List.length_append] at hl1
            rw [rb_X12_judgeStatement_133 _ _ _ _ _ hs, nI_clamp (by omega), J1.ai (by decide) (by decide) (by decide), hN.1]
            simp (disch := omega) only [nI_clamp, nI_leI, nI_ltI, nI_eq, nI_add, pk_mul, vp_in_nI, nI_1, true_and, and_true, true_implies, implies_true, not_true_eq_false, not_false_eq_true, false_implies, psh, nn_some, forall_const, show ¬ tn (ai r 29 s) ≤ k by omega]
            rw [rb_X12_judgeStatement_139 _ _ _ _ _ hs, lt4]
            simp (disch := omega) only [nI_clamp, nI_leI, nI_ltI, nI_eq, nI_add, pk_mul, vp_in_nI, nI_1, true_and, and_true, true_implies, implies_true, not_true_eq_false, not_false_eq_true, false_implies, psh, nn_some, forall_const]
            rw [J1.al, J1.ai (by decide) (by decide) (by decide), q_kindOf K]
            have ek : kN (view h a) w nk (al r 30 (4 * s + k)) (ai r 31 (4 * s + k)) = kN r w nk (al r 30 (4 * s + k)) (ai r 31 (4 * s + k)) := by rw [ev]; rfl
            simp only [psh, bk_X12_judgeStatement_157, ek]
            have nx : ∀ (h' : AH) l', JT r h' a l' → l'.Perm (jnK r w nk s k ++ l1) → wp (d + 6) K_X12_judgeStatement 171 [] [(0, vr (some a)), (1, vi (nI s)), (2, vi x2), (3, vi x3), (5, vi (nI k))] h' Q := fun h' l' J' pm => by
              rw [bk_X12_judgeStatement_171, nI_1]
              refine ih (k + 1) h' l' _ _ (by omega) J' (by rw [pm_len pm]; omega) (fun h4 l4 x2 x3 x5 J4 pm4 => H1 h4 l4 _ _ _ J4 ?_)
              have := pm_step pm pm4
              rwa [← List.append_assoc] at this
            have en : jnK r w nk s k = lif (decide (kN r w nk (al r 30 (4 * s + k)) (ai r 31 (4 * s + k)) = none)) (keyN (tn (ai r 31 (4 * s + k))) 1 0) := rfl
            refine ⟨fun z => nx h l1 J1 ?_, fun z => ?_⟩
            · have z : ¬ kN r w nk (al r 30 (4 * s + k)) (ai r 31 (4 * s + k)) = none := fun q => z (by rw [q]; rfl)
              rw [en, decide_eq_false z]; exact List.Perm.refl _
            · have z := (oI_m1 (kN_ok hnk)).mp (Classical.not_not.mp z)
              rw [rb_X12_judgeStatement_159 _ _ _ _ _ hs, lt4]
              simp (disch := omega) only [nI_clamp, nI_leI, nI_ltI, nI_eq, nI_add, pk_mul, vp_in_nI, nI_1, true_and, and_true, true_implies, implies_true, not_true_eq_false, not_false_eq_true, false_implies, psh, nn_some, forall_const]
              have Pk := PN k (by omega)
              rw [J1.ai (by decide) (by decide) (by decide), Pk.1, ← kI_0, lt1]
              rw [en, decide_eq_true z, lif_t] at hl1 nx
              refine J1.blame (by simp only [List.length_cons, List.length_nil] at hl1; omega) Pk.2 (by omega) (by omega) (fun h' l' J' pm => ?_)
              exact nx h' l' J' pm
        exact L (tn (ai r 29 s)) 0 h l _ _ (by omega) J (by omega) (fun h' l' x2 x3 x5 J' pm => F5 h' l' _ _ _ J' pm)
  have T := J.bq B
  have hs := T.1.1.1
  obtain ⟨p1, c1, x1, y1, z1, ev⟩ := vput J
  have PP : wp (d + 6) K_X12_judgeStatement 12 [] [(0, vr (some a)), (1, vi (nI s))] h Q := by
    rw [rb_X12_judgeStatement_12 _ _ hs]
    simp (disch := omega) only [nI_clamp, nI_leI, nI_ltI, nI_eq, nI_add, pk_mul, vp_in_nI, nI_1, true_and, and_true, true_implies, implies_true, not_true_eq_false, not_false_eq_true, false_implies, psh, nn_some, forall_const]
    rw [b_paramS T h1 h2]
    simp only [psh, bk_X12_judgeStatement_22]
    rw [ev, prS_put, psS_put]
    exact S _ (J.psd _) _ (fun _ => ⟨rfl, fFI_same _ _ _ _⟩)
  rw [rb_X12_judgeStatement_0 _ _ hs, rb_X12_judgeStatement_6 _ _ hs]
  simp (disch := omega) only [nI_clamp, nI_leI, nI_ltI, nI_eq, nI_add, pk_mul, vp_in_nI, nI_1, true_and, and_true, true_implies, implies_true, not_true_eq_false, not_false_eq_true, false_implies, psh, nn_some, forall_const, bk_X12_judgeStatement_23]
  rw [J.ai (by decide) (by decide) (by decide)]
  refine ⟨fun _ => PP, fun z => ⟨fun z2 => ?_, fun _ => PP⟩⟩
  rw [show vi (-1) = vi (oI none) from rfl]
  exact S h J none (fun q => by rcases q with q | q; exact absurd q z; exact absurd q z2)
end
