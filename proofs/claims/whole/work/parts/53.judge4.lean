/-! The reference's judging, whole -/
/-- a loop downwards -/
def fdn {α : Type} (f : Nat → α → α) : Nat → α → α
  | 0, x => x
  | j + 1, x => fdn f j (f j x)
/-- the view with other answers: what statements can throw, which can be left -/
def pcl (r : RV) (C L : Nat → Int32) : RV := (r.1, r.2.1, fun q => if q = 47 then C else if q = 48 then L else r.2.2.1 q, r.2.2.2)
theorem pcl_self (r : RV) : pcl r (ai r 47) (ai r 48) = r := by
  have e2 : (fun q => if q = 47 then ai r 47 else if q = 48 then ai r 48 else r.2.2.1 q) = r.2.2.1 := by
    funext q
    by_cases c : q = 47
    · rw [if_pos c, c]; rfl
    · rw [if_neg c]
      by_cases c : q = 48
      · rw [if_pos c, c]; rfl
      · rw [if_neg c]
  unfold pcl
  rw [e2]
theorem pcl_pcl (r : RV) (C L C' L' : Nat → Int32) : pcl (pcl r C L) C' L' = pcl r C' L' := by
  have e2 : (fun q => if q = 47 then C' else if q = 48 then L' else if q = 47 then C else if q = 48 then L else r.2.2.1 q) = (fun q => if q = 47 then C' else if q = 48 then L' else r.2.2.1 q) := by
    funext q
    by_cases c : q = 47 <;> by_cases c1 : q = 48 <;> simp [c, c1]
  show (_, _, _, _) = (_, _, _, _)
  exact congrArg (Prod.mk r.1) (congrArg (Prod.mk r.2.1) (congr (congrArg Prod.mk e2) rfl))
theorem put_t47 (r : RV) (C L : Nat → Int32) (p c : Int32) (x y z : Nat → Int32) (i : Nat) (v : Int32) : tI (put (pcl r C L) p c x y z) 47 i v = put (pcl r (up1 C i v) L) p c x y z := by
  have e : up2 (put (pcl r C L) p c x y z).2.2.1 47 i v = (put (pcl r (up1 C i v) L) p c x y z).2.2.1 := by
    funext q j
    show (if q = 47 ∧ j = i then v else (if q = 49 then x else if q = 50 then y else if q = 51 then z else if q = 47 then C else if q = 48 then L else r.2.2.1 q) j) = (if q = 49 then x else if q = 50 then y else if q = 51 then z else if q = 47 then up1 C i v else if q = 48 then L else r.2.2.1 q) j
    by_cases c : q = 47
    · subst c; simp [up1]
    · rw [if_neg (fun z => c z.1), if_neg c, if_neg c]
  show (_, _, _, _) = (_, _, _, _)
  rw [e]
  rfl
theorem put_t48 (r : RV) (C L : Nat → Int32) (p c : Int32) (x y z : Nat → Int32) (i : Nat) (v : Int32) : tI (put (pcl r C L) p c x y z) 48 i v = put (pcl r C (up1 L i v)) p c x y z := by
  have e : up2 (put (pcl r C L) p c x y z).2.2.1 48 i v = (put (pcl r C (up1 L i v)) p c x y z).2.2.1 := by
    funext q j
    show (if q = 48 ∧ j = i then v else (if q = 49 then x else if q = 50 then y else if q = 51 then z else if q = 47 then C else if q = 48 then L else r.2.2.1 q) j) = (if q = 49 then x else if q = 50 then y else if q = 51 then z else if q = 47 then C else if q = 48 then up1 L i v else r.2.2.1 q) j
    by_cases c : q = 48
    · subst c; simp [up1]
    · rw [if_neg (fun z => c z.1), if_neg c, if_neg c]
  show (_, _, _, _) = (_, _, _, _)
  rw [e]
  rfl
theorem BV_pcl {r : RV} {w nk nm ns nb : Nat} {C L : Nat → Int32} (B : BV r w nk nm ns nb) : BV (pcl r C L) w nk nm ns nb := B
theorem PV_pcl {r : RV} {w nk nm ns nb : Nat} {C L : Nat → Int32} (P : PV r w nk nm ns nb) : PV (pcl r C L) w nk nm ns nb := P
theorem hlF_put (r : RV) (p c : Int32) (x y z : Nat → Int32) (t : Nat) : ∀ f b q, hlF (put r p c x y z) t f b q = hlF r t f b q := by
  intro f
  induction f with
  | zero => intro b q; rfl
  | succ f ih =>
    intro b q
    have u : upB (put r p c x y z) b = upB r b := rfl
    have v : hlP (put r p c x y z) b = hlP r b := rfl
    have e : ai (put r p c x y z) 41 b = ai r 41 b := rfl
    rw [hlF, hlF, u, v, e]
    simp only [ih]
theorem lvS_put (r : RV) (p c : Int32) (x y z : Nat → Int32) (w ns s : Nat) : lvS (put r p c x y z) w ns s = lvS r w ns s := by
  have e1 : ∀ k, hlS (put r p c x y z) k s = hlS r k s := fun k => by
    unfold hlS
    rw [hlF_put]
    rfl
  have e2 : lvL (put r p c x y z) w ns s = lvL r w ns s := by
    unfold lvL
    simp only [tgS_put, e1]
    rfl
  unfold lvS
  rw [e2]
  rfl
/-- the first loop: which statements can be left; nothing can be thrown yet -/
def leF (r : RV) (w ns : Nat) (j : Nat) (g : (Nat → Int32) × (Nat → Int32)) : (Nat → Int32) × (Nat → Int32) := (up1 g.1 (w * 120 + j) 0, up1 g.2 (w * 120 + j) (b2i (lvS (pcl r g.1 g.2) w ns (w * 120 + j))))
def leA (r : RV) (w ns : Nat) : (Nat → Int32) × (Nat → Int32) := fdn (leF r w ns) ns (ai r 47, ai r 48)
/-- a sweep over what can be thrown -/
def swF (r : RV) (w nk nm ns : Nat) (L : Nat → Int32) (j : Nat) (g : (Nat → Int32) × Bool) : (Nat → Int32) × Bool := (up1 g.1 (w * 120 + j) (canS (pcl r g.1 L) w nk nm ns (w * 120 + j)), g.2 || decide (¬ canS (pcl r g.1 L) w nk nm ns (w * 120 + j) = g.1 (w * 120 + j)))
def swA (r : RV) (w nk nm ns : Nat) (L C : Nat → Int32) : (Nat → Int32) × Bool := fdn (swF r w nk nm ns L) ns (C, false)
def itr (r : RV) (w nk nm ns : Nat) (L : Nat → Int32) : Nat → (Nat → Int32) → (Nat → Int32)
  | 0, C => C
  | n + 1, C => itr r w nk nm ns L n (swA r w nk nm ns L C).1
def jkL (r : RV) (w nk k : Nat) : List Nat := lif (decide (¬ kN r w nk (al r 3 (w * 16 + k)) (ai r 4 (w * 16 + k)) = none)) (keyN (tn (ai r 4 (w * 16 + k))) 2 0) ++ lif (decide (kN r w nk (al r 6 (w * 16 + k)) (ai r 7 (w * 16 + k)) = none)) (keyN (tn (ai r 7 (w * 16 + k))) 1 0)
/-- all that is blamed -/
def jL (r : RV) (w nk nm ns : Nat) : List Nat := flr (jkL r w nk) (nk - 4) 4 ++ (flr (jmL r w nk nm) nm 0 ++ flr (fun k => jsL r w nk nm ns (w * 120 + k)) ns 0)
def CS (r : RV) (h : AH) (a : Nat) (C L : Nat → Int32) : Prop := RS h a ∧ ∃ p c x y z, view h a = put (pcl r C L) p c x y z
theorem kI_m1 (j : Nat) : nI j + (-1) = kI j := by
  unfold kI
  rw [Int32.sub_eq_add_neg]
theorem kI_neg (j : Nat) (hj : j < 2 ^ 30) : (kI j < 0) = (j = 0) := by
  apply propext
  rw [Int32.lt_iff_toInt_lt, kI_toInt hj]
  have : (0 : Int32).toInt = 0 := by decide
  omega
section
variable {d : Nat} {h : AH} {a w nk nm ns nb : Nat} {r : RV} {l : List Nat} {Q : Option V → AH → Prop}
theorem CS.bq {C L : Nat → Int32} (J : CS r h a C L) (B : BV r w nk nm ns nb) : BQ h a w nk nm ns nb := by
  obtain ⟨hs, p, c, x, y, z, ev⟩ := J
  rw [BQ_iff, ev]
  exact ⟨hs, BV_put (BV_pcl B)⟩
/-- the blaming, after the sweeps -/
theorem j_tail (B : BV r w nk nm ns nb) (P : PV r w nk nm ns nb) (hs : RS h a) (hv : ∃ p c x y z, view h a = put r p c x y z) (hl : (jL r w nk nm ns).length ≤ 4000) (x1 : Int32)
    (H : ∀ h' l', JT r h' a l' → l'.Perm (jL r w nk nm ns) → Q none h') : wp (d + 7) K_X12_judge 86 [] [(0, vr (some a)), (1, vi x1)] h Q := by
  have hw2 := B.1.2.1
  have hns := B.2.1.2.2.2.1
  have hnm := B.2.1.2.1
  have hnk := B.1.2.2.2.1
  have hnk4 := B.1.2.2.2.2.1
  unfold jL at hl H
  rw [List.length_append, List.length_append] at hl
  have LS : ∀ m k (h : AH) l1 x1, k + m = ns → JT r h a l1 → l1.length + (flr (fun k => jsL r w nk nm ns (w * 120 + k)) m k).length ≤ 4000 → (∀ h' l', JT r h' a l' → l'.Perm (flr (fun k => jsL r w nk nm ns (w * 120 + k)) m k ++ l1) → Q none h') → wp (d + 7) K_X12_judge 163 [] [(0, vr (some a)), (1, vi x1), (2, vi (nI k))] h Q := by
    intro m
    induction m with
    | zero =>
      intro k h l1 x1 e J1 hl1 H1
      have T := J1.bq B
      have hs := T.1.1.1; have hw := T.1.1.2.1; have hn := T.1.2.2.2.1
      rw [rb_X12_judge_163 _ _ _ hs]
      simp (disch := omega) only [hw, hn, nI_clamp, nI_leI, nI_ltI, nI_eq, nI_add, pk_mul, vp_in_nI, nI_1, true_and, and_true, true_implies, implies_true, not_true_eq_false, not_false_eq_true, false_implies, psh, nn_some, forall_const, show ns ≤ k by omega, bk_X12_judge_180]
      exact J1.nil H1
    | succ m ih =>
      intro k h l1 x1 e J1 hl1 H1
      have T := J1.bq B
      have hs := T.1.1.1; have hw := T.1.1.2.1; have hn := T.1.2.2.2.1
      have eL : flr (fun k => jsL r w nk nm ns (w * 120 + k)) (m + 1) k = jsL r w nk nm ns (w * 120 + k) ++ flr (fun k => jsL r w nk nm ns (w * 120 + k)) m (k + 1) := rfl
      rw [eL] at hl1 H1
      rw [List.length_append] at hl1
      rw [rb_X12_judge_163 _ _ _ hs]
      simp (disch := omega) only [hw, hn, nI_clamp, nI_leI, nI_ltI, nI_eq, nI_add, pk_mul, vp_in_nI, nI_1, true_and, and_true, true_implies, implies_true, not_true_eq_false, not_false_eq_true, false_implies, psh, nn_some, forall_const, show ¬ ns ≤ k by omega]
      rw [rb_X12_judge_170 _ _ _ hs, lt120]
      simp (disch := omega) only [hw, nI_clamp, nI_leI, nI_ltI, nI_eq, nI_add, pk_mul, vp_in_nI, nI_1, true_and, and_true, true_implies, implies_true, not_true_eq_false, not_false_eq_true, false_implies, psh, nn_some, forall_const]
      refine j_stmt B P J1 (by omega) (by omega) (by omega) (fun h' l' J' pm => ?_)
      simp only [psh, bk_X12_judge_178, nI_1]
      exact ih (k + 1) h' l' _ (by omega) J' (by rw [pm_len pm]; omega) (fun h4 l4 J4 pm4 => H1 h4 l4 J4 (pm_step pm pm4))
  have LM : ∀ m k (h : AH) l1 x1, k + m = nm → JT r h a l1 → l1.length + ((flr (jmL r w nk nm) m k).length + (flr (fun k => jsL r w nk nm ns (w * 120 + k)) ns 0).length) ≤ 4000 → (∀ h' l', JT r h' a l' → l'.Perm ((flr (jmL r w nk nm) m k ++ flr (fun k => jsL r w nk nm ns (w * 120 + k)) ns 0) ++ l1) → Q none h') → wp (d + 7) K_X12_judge 149 [] [(0, vr (some a)), (1, vi x1), (2, vi (nI k))] h Q := by
    intro m
    induction m with
    | zero =>
      intro k h l1 x1 e J1 hl1 H1
      have T := J1.bq B
      have hs := T.1.1.1; have hw := T.1.1.2.1; have hn := T.1.2.1
      rw [rb_X12_judge_149 _ _ _ hs]
      simp (disch := omega) only [hw, hn, nI_clamp, nI_leI, nI_ltI, nI_eq, nI_add, pk_mul, vp_in_nI, nI_1, true_and, and_true, true_implies, implies_true, not_true_eq_false, not_false_eq_true, false_implies, psh, nn_some, forall_const, show nm ≤ k by omega, bk_X12_judge_161]
      exact LS ns 0 h l1 _ (by omega) J1 (by simp only [flr, List.length_nil] at hl1; omega) H1
    | succ m ih =>
      intro k h l1 x1 e J1 hl1 H1
      have T := J1.bq B
      have hs := T.1.1.1; have hw := T.1.1.2.1; have hn := T.1.2.1
      have eL : flr (jmL r w nk nm) (m + 1) k = jmL r w nk nm k ++ flr (jmL r w nk nm) m (k + 1) := rfl
      rw [eL] at hl1 H1
      rw [List.length_append] at hl1
      rw [rb_X12_judge_149 _ _ _ hs]
      simp (disch := omega) only [hw, hn, nI_clamp, nI_leI, nI_ltI, nI_eq, nI_add, pk_mul, vp_in_nI, nI_1, true_and, and_true, true_implies, implies_true, not_true_eq_false, not_false_eq_true, false_implies, psh, nn_some, forall_const, show ¬ nm ≤ k by omega]
      rw [rb_X12_judge_156 _ _ _ hs]
      refine j_method B P J1 (by omega) (by omega) (fun h' l' J' pm => ?_)
      simp only [psh, bk_X12_judge_159, nI_1]
      refine ih (k + 1) h' l' _ (by omega) J' (by rw [pm_len pm]; omega) (fun h4 l4 J4 pm4 => H1 h4 l4 J4 ?_)
      have := pm_step pm pm4
      rwa [← List.append_assoc] at this
  have LK : ∀ m k (h : AH) l1 x1, k + m = nk → 4 ≤ k → JT r h a l1 → l1.length + ((flr (jkL r w nk) m k).length + ((flr (jmL r w nk nm) nm 0).length + (flr (fun k => jsL r w nk nm ns (w * 120 + k)) ns 0).length)) ≤ 4000 → (∀ h' l', JT r h' a l' → l'.Perm ((flr (jkL r w nk) m k ++ (flr (jmL r w nk nm) nm 0 ++ flr (fun k => jsL r w nk nm ns (w * 120 + k)) ns 0)) ++ l1) → Q none h') → wp (d + 7) K_X12_judge 91 [] [(0, vr (some a)), (1, vi x1), (2, vi (nI k))] h Q := by
    intro m
    induction m with
    | zero =>
      intro k h l1 x1 e h4 J1 hl1 H1
      have T := J1.bq B
      have hs := T.1.1.1; have hw := T.1.1.2.1; have hk := T.1.1.2.2.2.1
      rw [rb_X12_judge_91 _ _ _ hs]
      simp (disch := omega) only [hw, hk, nI_clamp, nI_leI, nI_ltI, nI_eq, nI_add, pk_mul, vp_in_nI, nI_1, true_and, and_true, true_implies, implies_true, not_true_eq_false, not_false_eq_true, false_implies, psh, nn_some, forall_const, show nk ≤ k by omega, bk_X12_judge_147]
      exact LM nm 0 h l1 _ (by omega) J1 (by simp only [flr, List.length_nil] at hl1; omega) H1
    | succ m ih =>
      intro k h l1 x1 e h4 J1 hl1 H1
      have T := J1.bq B
      have K := T.1.1; have hs := K.1; have hw := K.2.1; have hk := K.2.2.2.1
      obtain ⟨p1, c1, x1', y1, z1, ev⟩ := vput J1
      obtain ⟨Pa, Pb⟩ := P.1 k h4 (by omega)
      have eL : flr (jkL r w nk) (m + 1) k = (lif (decide (¬ kN r w nk (al r 3 (w * 16 + k)) (ai r 4 (w * 16 + k)) = none)) (keyN (tn (ai r 4 (w * 16 + k))) 2 0) ++ lif (decide (kN r w nk (al r 6 (w * 16 + k)) (ai r 7 (w * 16 + k)) = none)) (keyN (tn (ai r 7 (w * 16 + k))) 1 0)) ++ flr (jkL r w nk) m (k + 1) := rfl
      rw [eL] at hl1 H1
      rw [List.length_append, List.length_append] at hl1
      rw [rb_X12_judge_91 _ _ _ hs]
      simp (disch := omega) only [hw, hk, nI_clamp, nI_leI, nI_ltI, nI_eq, nI_add, pk_mul, vp_in_nI, nI_1, true_and, and_true, true_implies, implies_true, not_true_eq_false, not_false_eq_true, false_implies, psh, nn_some, forall_const, show ¬ nk ≤ k by omega]
      rw [rb_X12_judge_98 _ _ _ hs, lt16]
      simp (disch := omega) only [hw, nI_clamp, nI_leI, nI_ltI, nI_eq, nI_add, pk_mul, vp_in_nI, nI_1, true_and, and_true, true_implies, implies_true, not_true_eq_false, not_false_eq_true, false_implies, psh, nn_some, forall_const]
      rw [J1.al, J1.ai (by decide) (by decide) (by decide), q_kindOf K]
      have ek : kN (view h a) w nk (al r 3 (w * 16 + k)) (ai r 4 (w * 16 + k)) = kN r w nk (al r 3 (w * 16 + k)) (ai r 4 (w * 16 + k)) := by rw [ev]; rfl
      simp only [psh, bk_X12_judge_115, ek]
      have okk : ∀ x wh j, kN r w nk x wh = some j → j < 2 ^ 31 := fun x wh => kN_ok hnk
      have A : ∀ (h : AH) l2, JT r h a l2 → l2.Perm (lif (decide (¬ kN r w nk (al r 3 (w * 16 + k)) (ai r 4 (w * 16 + k)) = none)) (keyN (tn (ai r 4 (w * 16 + k))) 2 0) ++ l1) → wp (d + 7) K_X12_judge 125 [] [(0, vr (some a)), (1, vi x1), (2, vi (nI k)), (3, vi (nI (w * 16 + k)))] h Q := by
        intro h l2 J2 pm2
        have len2 := pm_len pm2
        have T := J2.bq B
        have K := T.1.1; have hs := K.1
        obtain ⟨p1, c1, x1', y1, z1, ev⟩ := vput J2
        rw [rb_X12_judge_125 _ _ _ _ hs]
        simp (disch := omega) only [nI_clamp, nI_leI, nI_ltI, nI_eq, nI_add, pk_mul, vp_in_nI, nI_1, true_and, and_true, true_implies, implies_true, not_true_eq_false, not_false_eq_true, false_implies, psh, nn_some, forall_const]
        rw [J2.al, J2.ai (by decide) (by decide) (by decide), q_kindOf K]
        have ek : kN (view h a) w nk (al r 6 (w * 16 + k)) (ai r 7 (w * 16 + k)) = kN r w nk (al r 6 (w * 16 + k)) (ai r 7 (w * 16 + k)) := by rw [ev]; rfl
        simp only [psh, bk_X12_judge_135, ek]
        have nx : ∀ (h : AH) l3, JT r h a l3 → l3.Perm (lif (decide (kN r w nk (al r 6 (w * 16 + k)) (ai r 7 (w * 16 + k)) = none)) (keyN (tn (ai r 7 (w * 16 + k))) 1 0) ++ l2) → wp (d + 7) K_X12_judge 145 [] [(0, vr (some a)), (1, vi x1), (2, vi (nI k)), (3, vi (nI (w * 16 + k)))] h Q := fun h l3 J3 pm3 => by
          rw [bk_X12_judge_145, nI_1]
          refine wp_cut 3 ?_
          refine ih (k + 1) h l3 _ (by omega) (by omega) J3 (by rw [pm_len pm3]; omega) (fun h4 l4 J4 pm4 => H1 h4 l4 J4 ?_)
          have := pm_step pm2 (pm_step pm3 pm4)
          simpa only [List.append_assoc] using this
        refine ⟨fun z => nx h l2 J2 ?_, fun z => ?_⟩
        · have z : ¬ kN r w nk (al r 6 (w * 16 + k)) (ai r 7 (w * 16 + k)) = none := fun q => z (by rw [q]; rfl)
          rw [decide_eq_false z]; exact List.Perm.refl _
        · have z := (oI_m1 (okk _ _)).mp (Classical.not_not.mp z)
          rw [rb_X12_judge_137 _ _ _ _ hs]
          simp (disch := omega) only [nI_clamp, nI_leI, nI_ltI, nI_eq, nI_add, pk_mul, vp_in_nI, nI_1, true_and, and_true, true_implies, implies_true, not_true_eq_false, not_false_eq_true, false_implies, psh, nn_some, forall_const]
          rw [J2.ai (by decide) (by decide) (by decide), Pb.1, ← kI_0, lt1]
          rw [decide_eq_true z, lif_t] at hl1 nx
          refine J2.blame (by simp only [List.length_cons, List.length_nil] at hl1; omega) Pb.2 (by omega) (by omega) (fun h' l' J' pm => ?_)
          exact nx h' l' J' pm
      refine ⟨fun z => A h l1 J1 ?_, fun z => ?_⟩
      · have z := (oI_m1 (okk _ _)).mp z
        rw [decide_eq_false (fun q => q z)]; exact List.Perm.refl _
      · have z : ¬ kN r w nk (al r 3 (w * 16 + k)) (ai r 4 (w * 16 + k)) = none := fun q => z (by rw [q]; rfl)
        rw [rb_X12_judge_117 _ _ _ _ hs]
        simp (disch := omega) only [nI_clamp, nI_leI, nI_ltI, nI_eq, nI_add, pk_mul, vp_in_nI, nI_1, true_and, and_true, true_implies, implies_true, not_true_eq_false, not_false_eq_true, false_implies, psh, nn_some, forall_const]
        rw [J1.ai (by decide) (by decide) (by decide), Pa.1, ← kI_0, lt2]
        rw [decide_eq_true z, lif_t] at hl1 A
        refine J1.blame (by simp only [List.length_cons, List.length_nil] at hl1; omega) Pa.2 (by omega) (by omega) (fun h' l' J' pm => ?_)
        exact A h' l' J' pm
  obtain ⟨p, c, x, y, z, ev⟩ := hv
  rw [rb_X12_judge_86 _ _ hs]
  refine LK (nk - 4) 4 _ [] _ (by omega) (by omega) ⟨⟨hs, List.Pairwise.nil, ⟨?_, fun i hi => absurd hi (by simp)⟩, p, 0, x, y, z, ?_⟩, fun e m => by cases m⟩ (by simp only [List.length_nil]; omega) (fun h' l' J' pm => H h' l' J' (by rwa [List.append_nil] at pm))
  · rw [view_FI, gi_sI]; rfl
  · rw [view_FI, ev, put_sC]
theorem j_judge (B : BV r w nk nm ns nb) (P : PV r w nk nm ns nb) (hs : RS h a) (ev : view h a = r)
    (hl : ∀ n, (swA r w nk nm ns (leA r w ns).2 (itr r w nk nm ns (leA r w ns).2 n (leA r w ns).1)).2 = false → (jL (pcl r (swA r w nk nm ns (leA r w ns).2 (itr r w nk nm ns (leA r w ns).2 n (leA r w ns).1)).1 (leA r w ns).2) w nk nm ns).length ≤ 4000)
    (hN : ∃ n, (swA r w nk nm ns (leA r w ns).2 (itr r w nk nm ns (leA r w ns).2 n (leA r w ns).1)).2 = false)
    (H : ∀ n h' l', (swA r w nk nm ns (leA r w ns).2 (itr r w nk nm ns (leA r w ns).2 n (leA r w ns).1)).2 = false → JT (pcl r (swA r w nk nm ns (leA r w ns).2 (itr r w nk nm ns (leA r w ns).2 n (leA r w ns).1)).1 (leA r w ns).2) h' a l' → l'.Perm (jL (pcl r (swA r w nk nm ns (leA r w ns).2 (itr r w nk nm ns (leA r w ns).2 n (leA r w ns).1)).1 (leA r w ns).2) w nk nm ns) → Q none h') : wp (d + 8) K_X12_judge 0 [] [(0, vr (some a))] h Q := by
  have hw2 := B.1.2.1
  have hns := B.2.1.2.2.2.1
  generalize eA : leA r w ns = A at *
  -- one sweep
  have SW : ∀ L j C b (h : AH), j ≤ ns → CS r h a C L → ∀ X : Prop, (∀ h' x2, CS r h' a (fdn (swF r w nk nm ns L) j (C, b)).1 L → wp (d + 8) K_X12_judge 85 [] [(0, vr (some a)), (1, vi (b2i (fdn (swF r w nk nm ns L) j (C, b)).2)), (2, vi x2)] h' Q) → wp (d + 8) K_X12_judge 53 [] [(0, vr (some a)), (1, vi (b2i b)), (2, vi (kI j))] h Q := by
    intro L j
    induction j with
    | zero =>
      intro C b h hj J X G
      rw [bk_X12_judge_53]
      simp (disch := omega) only [kI_neg, nI_clamp, nI_leI, nI_ltI, nI_eq, nI_add, pk_mul, vp_in_nI, nI_1, true_and, and_true, true_implies, implies_true, not_true_eq_false, not_false_eq_true, false_implies, psh, nn_some, forall_const]
      exact G h _ J
    | succ j ih =>
      intro C b h hj J X G
      have T := J.bq B
      have hs := T.1.1.1; have hw := T.1.1.2.1
      obtain ⟨-, p, c, x, y, z, ev⟩ := J
      rw [bk_X12_judge_53]
      simp (disch := omega) only [kI_neg, nI_clamp, nI_leI, nI_ltI, nI_eq, nI_add, pk_mul, vp_in_nI, nI_1, true_and, and_true, true_implies, implies_true, not_true_eq_false, not_false_eq_true, false_implies, psh, nn_some, forall_const, show ¬ j + 1 = 0 by omega]
      rw [kI_1, rb_X12_judge_55 _ _ _ hs, lt120]
      simp (disch := omega) only [hw, nI_clamp, nI_leI, nI_ltI, nI_eq, nI_add, pk_mul, vp_in_nI, nI_1, true_and, and_true, true_implies, implies_true, not_true_eq_false, not_false_eq_true, false_implies, psh, nn_some, forall_const]
      refine b_canOf T (by omega) (by omega) (fun v => ?_)
      have ec : canS (view h a) w nk nm ns (w * 120 + j) = canS (pcl r C L) w nk nm ns (w * 120 + j) := by rw [ev, canS_put]
      rw [ec]
      have evv : view (setFI h 11457 a v) a = put (pcl r C L) v c x y z := by rw [view_FI, ev, put_sP]
      have hs2 : RS (setFI h 11457 a v) a := hs
      have aa : aI (setFI h 11457 a v) (a + 47) (w * 120 + j) = C (w * 120 + j) := by
        show ai (view (setFI h 11457 a v) a) 47 _ = _
        rw [evv]; rfl
      generalize setFI h 11457 a v = h2 at evv hs2 aa ⊢
      simp only [psh, bk_X12_judge_65, b2i_0]
      have nx : ∀ b', b' = (b || decide (¬ canS (pcl r C L) w nk nm ns (w * 120 + j) = C (w * 120 + j))) → wp (d + 8) K_X12_judge 77 [vi (b2i b')] [(0, vr (some a)), (1, vi (b2i b)), (2, vi (nI j)), (3, vi (nI (w * 120 + j))), (4, vi (canS (pcl r C L) w nk nm ns (w * 120 + j)))] h2 Q := fun b' eb => by
        rw [rb_X12_judge_77 _ _ _ _ _ _ hs2, kI_m1]
        simp (disch := omega) only [nI_clamp, nI_leI, nI_ltI, nI_eq, nI_add, pk_mul, vp_in_nI, nI_1, true_and, and_true, true_implies, implies_true, not_true_eq_false, not_false_eq_true, false_implies, psh, nn_some, forall_const]
        refine wp_cut 3 ?_
        refine ih (up1 C (w * 120 + j) (canS (pcl r C L) w nk nm ns (w * 120 + j))) b' _ (by omega) ⟨hs2, v, c, x, y, z, ?_⟩ X ?_
        · rw [view_AI, evv, put_t47]
        · have e3 : fdn (swF r w nk nm ns L) j (up1 C (w * 120 + j) (canS (pcl r C L) w nk nm ns (w * 120 + j)), b') = fdn (swF r w nk nm ns L) (j + 1) (C, b) := by rw [eb]; rfl
          rw [e3]
          exact G
      refine ⟨fun z => ?_, fun z => ?_⟩
      · rw [bk_X12_judge_74, show vi 1 = vi (b2i true) from rfl]
        exact nx true (by rw [bt z]; rfl)
      · have z := Classical.not_not.mp z
        rw [rb_X12_judge_68 _ _ _ _ _ hs2]
        simp (disch := omega) only [nI_clamp, nI_leI, nI_ltI, nI_eq, nI_add, pk_mul, vp_in_nI, nI_1, true_and, and_true, true_implies, implies_true, not_true_eq_false, not_false_eq_true, false_implies, psh, nn_some, forall_const, aa]
        refine ⟨fun z2 => ?_, fun z2 => ?_⟩
        · rw [bk_X12_judge_76, show vi 0 = vi (b2i false) from rfl]
          exact nx false (by rw [z, decide_eq_false (fun q => q z2)]; rfl)
        · rw [bk_X12_judge_74, show vi 1 = vi (b2i true) from rfl]
          exact nx true (by rw [z, decide_eq_true z2]; rfl)
  -- the sweeps
  have LOOP : ∀ n m C (h : AH), C = itr r w nk nm ns A.2 m A.1 → (swA r w nk nm ns A.2 (itr r w nk nm ns A.2 n C)).2 = false → CS r h a C A.2 → wp (d + 8) K_X12_judge 43 [] [(0, vr (some a)), (1, vi 1)] h Q := by
    have itrS : ∀ m C, itr r w nk nm ns A.2 (m + 1) C = (swA r w nk nm ns A.2 (itr r w nk nm ns A.2 m C)).1 := by
      intro m
      induction m with
      | zero => intro C; rfl
      | succ m ih => intro C; exact ih _
    have ONE : ∀ m C (h : AH), C = itr r w nk nm ns A.2 m A.1 → CS r h a C A.2 → ((swA r w nk nm ns A.2 C).2 = true → ∀ h', CS r h' a (swA r w nk nm ns A.2 C).1 A.2 → wp (d + 8) K_X12_judge 43 [] [(0, vr (some a)), (1, vi 1)] h' Q) → wp (d + 8) K_X12_judge 43 [] [(0, vr (some a)), (1, vi 1)] h Q := by
      intro m C h eC J G
      have T := J.bq B
      have hs := T.1.1.1; have hw := T.1.1.2.1; have hn := T.1.2.2.2.1
      rw [rb_X12_judge_43 _ _ hs]
      simp (disch := omega) only [hw, hn, nI_clamp, nI_leI, nI_ltI, nI_eq, nI_add, pk_mul, vp_in_nI, nI_1, true_and, and_true, true_implies, implies_true, not_true_eq_false, not_false_eq_true, false_implies, psh, nn_some, forall_const]
      rw [show ((1 : Nat), vi 0) = (1, vi (b2i false)) from rfl, show nI ns - 1 = kI ns from rfl]
      refine SW A.2 ns C false h (Nat.le_refl _) J True (fun h' x2 J' => ?_)
      rw [bk_X12_judge_85]
      refine wp_cut 2 ?_
      show wp (d + 8) K_X12_judge 41 [] [(0, vr (some a)), (1, vi (b2i (swA r w nk nm ns A.2 C).2))] h' Q
      rw [bk_X12_judge_41]
      simp only [b2i_0]
      refine ⟨fun z => ?_, fun z => ?_⟩
      · obtain ⟨hs', hv'⟩ := J'
        have z' := z
        rw [eC] at z
        have P' := PV_pcl (C := (swA r w nk nm ns A.2 C).1) (L := A.2) P
        refine j_tail (BV_pcl B) P' hs' hv' (by have := hl m z; rw [← eC] at this; exact this) _ (fun h2 l2 J2 pm2 => ?_)
        have := H m h2 l2 z
        rw [← eC] at this
        exact this J2 pm2
      · have z := bt z
        rw [z]
        exact G z h' J'
    intro n
    induction n with
    | zero =>
      intro m C h eC e J
      refine ONE m C h eC J (fun z => ?_)
      have e : (swA r w nk nm ns A.2 C).2 = false := e
      rw [e] at z; cases z
    | succ n ih =>
      intro m C h eC e J
      refine ONE m C h eC J (fun z h' J' => ?_)
      exact ih (m + 1) (swA r w nk nm ns A.2 C).1 h' (by rw [itrS, eC]) e J'
  -- the first loop
  have FST : ∀ j g (h : AH), j ≤ ns → CS r h a g.1 g.2 → fdn (leF r w ns) j g = A → wp (d + 8) K_X12_judge 8 [] [(0, vr (some a)), (1, vi (kI j))] h Q := by
    intro j
    induction j with
    | zero =>
      intro g h hj J e
      have e : g = A := e
      rw [bk_X12_judge_8]
      simp (disch := omega) only [kI_neg, nI_clamp, nI_leI, nI_ltI, nI_eq, nI_add, pk_mul, vp_in_nI, nI_1, true_and, and_true, true_implies, implies_true, not_true_eq_false, not_false_eq_true, false_implies, psh, nn_some, forall_const, bk_X12_judge_39]
      rw [bk_X12_judge_41]
      refine ⟨fun z => absurd z (by decide), fun _ => ?_⟩
      obtain ⟨n, hn⟩ := hN
      rw [e] at J
      exact LOOP n 0 A.1 h rfl hn J
    | succ j ih =>
      intro g h hj J e
      have T := J.bq B
      have hs := T.1.1.1; have hw := T.1.1.2.1
      obtain ⟨-, p, c, x, y, z, ev⟩ := J
      rw [bk_X12_judge_8]
      simp (disch := omega) only [kI_neg, nI_clamp, nI_leI, nI_ltI, nI_eq, nI_add, pk_mul, vp_in_nI, nI_1, true_and, and_true, true_implies, implies_true, not_true_eq_false, not_false_eq_true, false_implies, psh, nn_some, forall_const, show ¬ j + 1 = 0 by omega]
      rw [kI_1, rb_X12_judge_10 _ _ hs, lt120]
      simp (disch := omega) only [hw, nI_clamp, nI_leI, nI_ltI, nI_eq, nI_add, pk_mul, vp_in_nI, nI_1, true_and, and_true, true_implies, implies_true, not_true_eq_false, not_false_eq_true, false_implies, psh, nn_some, forall_const]
      rw [b_leaves T (by omega) (by omega)]
      have el : lvS (view h a) w ns (w * 120 + j) = lvS (pcl r g.1 g.2) w ns (w * 120 + j) := by rw [ev, lvS_put]
      simp only [psh, el]
      rw [hs.p31459, rb_X12_judge_26 _ _ _ _ _ hs]
      have f1 : ∀ v, fI (setAI h (a + 48) (w * 120 + j) v) 1402 a = nI w := fun v => hw
      simp (disch := omega) only [nn_some, hs.t31459, hs.l31459, nI_clamp, nI_leI, nI_ltI, nI_eq, nI_add, pk_mul, vp_in_nI, nI_1, true_and, and_true, true_implies, implies_true, not_true_eq_false, not_false_eq_true, false_implies, psh, nn_some, forall_const, f1, lt120, kI_m1]
      refine ⟨Or.inr (by rw [b2i_ok]; trivial), ?_⟩
      refine ih (leF r w ns j g) _ (by omega) ⟨hs, p, c, x, y, z, ?_⟩ e
      rw [view_AI, view_AI, ev, put_t48, put_t47]
      rfl
  have T : BQ h a w nk nm ns nb := (BQ_iff _ _ _ _ _ _ _).mpr ⟨hs, by rw [ev]; exact B⟩
  have hw := T.1.1.2.1; have hn := T.1.2.2.2.1
  rw [rb_X12_judge_0 _ hs]
  simp (disch := omega) only [hw, hn, nI_clamp, nI_leI, nI_ltI, nI_eq, nI_add, pk_mul, vp_in_nI, nI_1, true_and, and_true, true_implies, implies_true, not_true_eq_false, not_false_eq_true, false_implies, psh, nn_some, forall_const]
  refine FST ns (ai r 47, ai r 48) h (Nat.le_refl _) ⟨hs, gi r 11457, gi r 1460, ai r 49, ai r 50, ai r 51, ?_⟩ eA
  show view h a = put (pcl r (ai r 47) (ai r 48)) _ _ _ _ _
  rw [pcl_self, put_self, ev]
end
