/-! The reference's judging: what is blamed, as lists of numbers -/
def KV (r : RV) (w nk : Nat) : Prop := gi r 1402 = nI w ∧ w < 2 ∧ ai r 2 w = nI nk ∧ nk ≤ 16 ∧ 4 ≤ nk ∧ ∀ k, 0 < k → k < nk → parN r w nk k < k
def TV (r : RV) (w nm ns : Nat) : Prop := ai r 8 w = nI nm ∧ nm ≤ 12 ∧ ai r 18 w = nI ns ∧ ns ≤ 120 ∧ (∀ m, m < nm → cnt (ai r 14 (w * 12 + m)) 4) ∧
  ∀ s, w * 120 ≤ s → s < w * 120 + ns → cnt (ai r 29 s) 4 ∧ cnt (ai r 32 s) 4 ∧ (∀ i, i < tn (ai r 32 s) → cnt (ai r 36 (4 * s + i)) 4 ∧ (ai r 33 (4 * s + i) = -1 ∨ idx (ai r 33 (4 * s + i)) 2048)) ∧ (ai r 23 s = -1 ∨ (idx (ai r 23 s) (w * 120 + ns) ∧ s < tn (ai r 23 s))) ∧ (ai r 26 s = -1 ∨ idx (ai r 26 s) 2048) ∧ (ai r 27 s = -1 ∨ idx (ai r 27 s) 2048) ∧ (ai r 28 s = -1 ∨ idx (ai r 28 s) 2048)
def LV (r : RV) (w nm ns nb : Nat) : Prop := nb ≤ 1024 ∧
  (∀ s, w * 120 ≤ s → s < w * 120 + ns → rf (ai r 26 s) (w * 1024) (w * 1024 + nb) ∧ rf (ai r 27 s) (w * 1024) (w * 1024 + nb) ∧ rf (ai r 28 s) (w * 1024) (w * 1024 + nb) ∧
    (∀ i, i < tn (ai r 32 s) → rf (ai r 33 (4 * s + i)) (w * 1024) (w * 1024 + nb)) ∧ rf (ai r 21 s) (w * 1024) (w * 1024 + nb) ∧ ¬ ai r 21 s = -1 ∧ rf (ai r 23 s) (s + 1) (w * 120 + ns)) ∧
  (∀ b, w * 1024 ≤ b → b < w * 1024 + nb → rf (ai r 44 b) (w * 120) (w * 120 + ns) ∧ rf (ai r 45 b) (w * 120) (w * 120 + ns) ∧ rf (ai r 41 b) (w * 120) (w * 120 + ns) ∧
    (ai r 41 b = -1 ↔ ai r 40 b = 0) ∧ (ai r 40 b = 6 → ai r 42 b = nI (tn (ai r 42 b)) ∧ tn (ai r 42 b) < tn (ai r 32 (tn (ai r 41 b)))) ∧
    (¬ ai r 41 b = -1 → tn (ai r 21 (tn (ai r 41 b))) < b)) ∧
  ∀ m, m < nm → rf (ai r 17 (w * 12 + m)) (w * 1024) (w * 1024 + nb)
def BV (r : RV) (w nk nm ns nb : Nat) : Prop := KV r w nk ∧ TV r w nm ns ∧ LV r w nm ns nb
theorem BQ_iff (h : AH) (a w nk nm ns nb : Nat) : BQ h a w nk nm ns nb ↔ RS h a ∧ BV (view h a) w nk nm ns nb :=
  ⟨fun T => ⟨T.1.1.1, T.1.1.2, T.1.2, T.2⟩, fun T => ⟨⟨⟨T.1, T.2.1⟩, T.2.2.1⟩, T.2.2.2⟩⟩
theorem BV_put {r : RV} {w nk nm ns nb : Nat} {p c : Int32} {x y z : Nat → Int32} (B : BV r w nk nm ns nb) : BV (put r p c x y z) w nk nm ns nb := B
def pl (v : Int32) : Prop := v = nI (tn v) ∧ tn v < 4096
/-- all places are places -/
def PV (r : RV) (w nk nm ns nb : Nat) : Prop := (∀ k, 4 ≤ k → k < nk → pl (ai r 4 (w * 16 + k)) ∧ pl (ai r 7 (w * 16 + k))) ∧
  (∀ m, m < nm → pl (ai r 10 (w * 12 + m)) ∧ (¬ al r 11 (w * 12 + m) = 0 → pl (ai r 12 (w * 12 + m))) ∧ ∀ i, i < tn (ai r 14 (w * 12 + m)) → pl (ai r 16 (4 * (w * 12 + m) + i))) ∧
  (∀ s, w * 120 ≤ s → s < w * 120 + ns → pl (ai r 20 s) ∧ (ai r 19 s = 1 ∨ ai r 19 s = 2 ∨ ai r 19 s = 3 → pl (ai r 25 s)) ∧ (∀ i, i < tn (ai r 29 s) → pl (ai r 31 (4 * s + i))) ∧ ∀ i, i < tn (ai r 32 s) → pl (ai r 35 (4 * s + i)) ∧ ∀ j, j < tn (ai r 36 (4 * s + i)) → pl (ai r 38 (4 * (4 * s + i) + j))) ∧
  ∀ b, w * 1024 ≤ b → b < w * 1024 + nb → pl (ai r 43 b)
def lif (b : Bool) (e : Nat) : List Nat := if b then [e] else []
theorem bt {b : Bool} (h : ¬ b = false) : b = true := by cases b <;> simp_all
theorem oI_some (k : Nat) : oI (some k) = nI k := rfl
theorem lif_t (e : Nat) : lif true e = [e] := rfl
theorem lif_f (e : Nat) : lif false e = [] := rfl
def flr (f : Nat → List Nat) : Nat → Nat → List Nat
  | 0, _ => []
  | m + 1, k => f k ++ flr f m (k + 1)
theorem pm_step {A B l l1 l2 : List Nat} (h1 : l1.Perm (A ++ l)) (h2 : l2.Perm (B ++ l1)) : l2.Perm ((A ++ B) ++ l) := by
  refine h2.trans ((List.Perm.append_left B h1).trans ?_)
  rw [← List.append_assoc]
  exact List.Perm.append_right l List.perm_append_comm
theorem pm_len {A l l1 : List Nat} (h : l1.Perm (A ++ l)) : l1.length = A.length + l.length := by rw [h.length_eq, List.length_append]
/-- the mistakes are l, and all else is as in r -/
def JT (r : RV) (h : AH) (a : Nat) (l : List Nat) : Prop := JS r h a l ∧ ∀ e, e ∈ l → e < 2 ^ 31
section
variable {d : Nat} {h : AH} {a w nk nm ns nb : Nat} {r : RV} {l : List Nat} {Q : Option V → AH → Prop}
theorem JT.bq (J : JT r h a l) (B : BV r w nk nm ns nb) : BQ h a w nk nm ns nb := by
  obtain ⟨⟨hs, -, -, p, c, x, y, z, ev⟩, -⟩ := J
  rw [BQ_iff, ev]
  exact ⟨hs, BV_put B⟩
theorem JT.ai (J : JT r h a l) {q : Nat} (h1 : ¬ q = 49) (h2 : ¬ q = 50) (h3 : ¬ q = 51) (i : Nat) : aI h (a + q) i = ai r q i := by
  obtain ⟨⟨hs, -, -, p, c, x, y, z, ev⟩, -⟩ := J
  show Jvm.Pilot.CThrowRulesLaw_law_r5179_b2991a.ai (view h a) q i = _
  rw [ev]
  show (if q = 49 then x else if q = 50 then y else if q = 51 then z else r.2.2.1 q) i = _
  rw [if_neg h1, if_neg h2, if_neg h3]
  rfl
theorem JT.al (J : JT r h a l) (q i : Nat) : aJ h (a + q) i = al r q i := by
  obtain ⟨⟨hs, -, -, p, c, x, y, z, ev⟩, -⟩ := J
  show Jvm.Pilot.CThrowRulesLaw_law_r5179_b2991a.al (view h a) q i = _
  rw [ev]
  rfl
theorem JT.psd (J : JT r h a l) (v : Int32) : JT r (setFI h 11457 a v) a l := by
  obtain ⟨⟨hs, hl, M, p, c, x, y, z, ev⟩, he⟩ := J
  exact ⟨⟨hs, hl, M, v, c, x, y, z, by rw [view_FI, ev, put_sP]⟩, he⟩
theorem JT.blame (J : JT r h a l) (hl : l.length < 4000) {p c k : Nat} (hp : p < 4096) (hc : c < 16) (hk : k < 32)
    (H : ∀ h' l', JT r h' a l' → l'.Perm ([keyN p c k] ++ l) → Q none h') : wp (d + 1) K_X12_blame 0 [] [(0, vr (some a)), (1, vi (nI c)), (2, vi (nI p)), (3, vi (kI k))] h Q :=
  j_blame J.1 hl J.2 (by omega) hc hk (fun h' l' j pm => H h' l' ⟨j, fun e m => by
    rcases List.mem_cons.mp (pm.mem_iff.mp m) with m | m
    · rw [m]; unfold keyN; omega
    · exact J.2 e m⟩ pm)
theorem JT.nil (J : JT r h a l) (H : ∀ h' l', JT r h' a l' → l'.Perm ([] ++ l) → Q none h') : Q none h := H h l J (List.Perm.refl _)
def unL (r : RV) (w nk : Nat) (s t : Int32) (p k : Nat) : List Nat := lif (hasB s k && (chk r w nk k && !und r w nk k t)) (keyN p 9 (k + 1))
theorem vput {r : RV} {h : AH} {a : Nat} {l : List Nat} (J : JT r h a l) : ∃ p c x y z, view h a = put r p c x y z := J.1.2.2.2
theorem j_untold (B : BV r w nk nm ns nb) (J : JT r h a l) (s t : Int32) {p : Nat} (hp : p < 4096) (hl : l.length + (flr (unL r w nk s t p) nk 0).length ≤ 4000)
    (H : ∀ h' l', JT r h' a l' → l'.Perm (flr (unL r w nk s t p) nk 0 ++ l) → Q none h') : wp (d + 5) K_X12_untold 0 [] [(0, vr (some a)), (1, vi s), (2, vi t), (3, vi (nI p))] h Q := by
  have L : ∀ m k (h : AH) (l : List Nat), k + m = nk → JT r h a l → l.length + (flr (unL r w nk s t p) m k).length ≤ 4000 → (∀ h' l', JT r h' a l' → l'.Perm (flr (unL r w nk s t p) m k ++ l) → Q none h') → wp (d + 5) K_X12_untold 2 [] [(0, vr (some a)), (1, vi s), (2, vi t), (3, vi (nI p)), (4, vi (nI k))] h Q := by
    intro m
    induction m with
    | zero =>
      intro k h l e J hl H
      have T := J.bq B
      have K := T.1.1; have hs := K.1; have hw := K.2.1; have hw2 := K.2.2.1; have hk := K.2.2.2.1; have hn := K.2.2.2.2.1
      rw [rb_X12_untold_2 _ _ _ _ _ hs]
      simp (disch := omega) only [hw, hk, nI_clamp, nI_leI, nI_ltI, nI_eq, nI_add, pk_mul, vp_in_nI, nI_1, true_and, and_true, true_implies, implies_true, not_true_eq_false, not_false_eq_true, false_implies, psh, nn_some, forall_const, bk_X12_untold_29, show nk ≤ k by omega]
      exact J.nil H
    | succ m ih =>
      intro k h l e J hl H
      have T := J.bq B
      have K := T.1.1; have hs := K.1; have hw := K.2.1; have hw2 := K.2.2.1; have hk := K.2.2.2.1; have hn := K.2.2.2.2.1
      rw [rb_X12_untold_2 _ _ _ _ _ hs]
      simp (disch := omega) only [hw, hk, nI_clamp, nI_leI, nI_ltI, nI_eq, nI_add, pk_mul, vp_in_nI, nI_1, true_and, and_true, true_implies, implies_true, not_true_eq_false, not_false_eq_true, false_implies, psh, nn_some, forall_const, show ¬ nk ≤ k by omega, bk_X12_untold_9, e_has, bk_X12_untold_12, b2i_0]
      have eL : flr (unL r w nk s t p) (m + 1) k = unL r w nk s t p k ++ flr (unL r w nk s t p) m (k + 1) := rfl
      rw [eL] at hl H
      rw [List.length_append] at hl
      have nx : ∀ h' l', JT r h' a l' → l'.Perm (unL r w nk s t p k ++ l) → wp (d + 5) K_X12_untold 27 [] [(0, vr (some a)), (1, vi s), (2, vi t), (3, vi (nI p)), (4, vi (nI k))] h' Q := fun h' l' J' pm => by
        rw [bk_X12_untold_27, nI_1]
        refine ih (k + 1) h' l' (by omega) J' (by rw [pm_len pm]; omega) (fun h2 l2 J2 pm2 => H h2 l2 J2 (pm_step pm pm2))
      have no : unL r w nk s t p k = [] → wp (d + 5) K_X12_untold 27 [] [(0, vr (some a)), (1, vi s), (2, vi t), (3, vi (nI p)), (4, vi (nI k))] h Q := fun z => nx h l J (by rw [z]; exact List.Perm.refl _)
      rw [rb_X12_untold_13 _ _ _ _ _ hs, q_isChecked K (by omega)]
      simp only [psh, bk_X12_untold_16, b2i_0]
      rw [rb_X12_untold_17 _ _ _ _ _ hs, q_isUnder K (by omega)]
      simp only [psh, bk_X12_untold_21, b2i_0]
      obtain ⟨p1, c1, x1, y1, z1, ev⟩ := vput J
      rw [ev]
      have e1 : chk (put r p1 c1 x1 y1 z1) w nk k = chk r w nk k := rfl
      have e2 : und (put r p1 c1 x1 y1 z1) w nk k t = und r w nk k t := rfl
      rw [e1, e2]
      have hu : unL r w nk s t p k = lif (hasB s k && (chk r w nk k && !und r w nk k t)) (keyN p 9 (k + 1)) := rfl
      refine ⟨fun z1 => no (by rw [hu, z1]; rfl), fun z1 => ⟨fun z2 => no (by rw [hu, z2]; simp [lif]), fun z2 => ⟨fun z3 => no (by rw [hu, bt z3]; simp [lif]), fun z3 => ?_⟩⟩⟩
      have y1 : hasB s k = true := bt z1
      have y2 : chk r w nk k = true := bt z2
      have y3 : und r w nk k t = false := Classical.not_not.mp z3
      have hu : unL r w nk s t p k = [keyN p 9 (k + 1)] := by rw [hu, y1, y2, y3]; rfl
      rw [rb_X12_untold_22 _ _ _ _ _ hs, ← kI_1 k]
      rw [hu] at hl nx
      refine J.blame (c := 9) (k := k + 1) (by simp only [List.length_cons, List.length_nil] at hl; omega) hp (by omega) (by omega) (fun h' l' J' pm => ?_)
      rw [kI_1]
      exact nx h' l' J' pm
  rw [bk_X12_untold_0]
  exact L nk 0 h l (by omega) J hl H
def jmN (r : RV) (w nk : Nat) (x : Nat) (o : Option Nat) (i : Nat) : List Nat := match kN r w nk (al r 15 (4 * x + i)) (ai r 16 (4 * x + i)) with
  | none => [keyN (tn (ai r 16 (4 * x + i))) 1 0]
  | some k => lif (decide (¬ o = none) && (chk r w nk k && !und r w nk k (thrO r w nk o))) (keyN (tn (ai r 16 (4 * x + i))) 10 (k + 1))
def abv (r : RV) (w nm x : Nat) : Option Nat := if al r 11 x = 0 then none else mN r w nm (al r 11 x)
/-- what is blamed for method m -/
def jmL (r : RV) (w nk nm m : Nat) : List Nat := lif (decide (¬ mN r w nm (al r 9 (w * 12 + m)) = some m)) (keyN (tn (ai r 10 (w * 12 + m))) 2 0) ++
  (lif (decide (¬ al r 11 (w * 12 + m) = 0) && decide (abv r w nm (w * 12 + m) = none)) (keyN (tn (ai r 12 (w * 12 + m))) 1 0) ++
  (flr (jmN r w nk (w * 12 + m) (abv r w nm (w * 12 + m))) (tn (ai r 14 (w * 12 + m))) 0 ++
  flr (unL r w nk (bcS r (oN (ai r 17 (w * 12 + m)))) (thrS r w nk (w * 12 + m)) (tn (ai r 10 (w * 12 + m)))) nk 0))
theorem j_method (B : BV r w nk nm ns nb) (P : PV r w nk nm ns nb) (J : JT r h a l) {m : Nat} (hm : m < nm) (hl : l.length + (jmL r w nk nm m).length ≤ 4000)
    (H : ∀ h' l', JT r h' a l' → l'.Perm (jmL r w nk nm m ++ l) → Q none h') : wp (d + 6) K_X12_judgeMethod 0 [] [(0, vr (some a)), (1, vi (nI m))] h Q := by
  have T := J.bq B
  have K := T.1.1; have hs := K.1; have hw := K.2.1; have hw2 := K.2.2.1; have hk := K.2.2.2.1; have hn := K.2.2.2.2.1
  have hnm := T.1.2.2.1
  obtain ⟨P1, P2, P3⟩ := P.2.1 m hm
  have hthr := B.2.1.2.2.2.2.1 m hm
  have hth4 := hthr.2
  unfold jmL at hl H
  rw [List.length_append, List.length_append, List.length_append] at hl
  rw [rb_X12_judgeMethod_0 _ _ hs]
  simp (disch := omega) only [hw, lt12, nI_clamp, nI_leI, nI_ltI, nI_eq, nI_add, pk_mul, vp_in_nI, nI_1, true_and, and_true, true_implies, implies_true, not_true_eq_false, not_false_eq_true, false_implies, psh, nn_some, forall_const]
  rw [t_methodOf T.1, J.al]
  simp only [psh, bk_X12_judgeMethod_13]
  obtain ⟨p1, c1, x1, y1, z1, ev⟩ := vput J
  have em : mN (view h a) w nm (al r 9 (w * 12 + m)) = mN r w nm (al r 9 (w * 12 + m)) := by rw [ev]; rfl
  rw [em]
  have okm : ∀ j, mN r w nm (al r 9 (w * 12 + m)) = some j → j < 2 ^ 31 := fun j ej => by have := mN_lt ej; omega
  have eqm : (oI (mN r w nm (al r 9 (w * 12 + m))) = nI m) = (mN r w nm (al r 9 (w * 12 + m)) = some m) := by
    apply propext
    constructor
    · intro z; rw [← oN_oI okm, z, oN_nI (by omega)]
    · intro z; rw [z]; rfl
  rw [eqm]
  -- what follows the name
  have A2 : ∀ (h : AH) l1, JT r h a l1 → l1.Perm (lif (decide (¬ mN r w nm (al r 9 (w * 12 + m)) = some m)) (keyN (tn (ai r 10 (w * 12 + m))) 2 0) ++ l) → wp (d + 6) K_X12_judgeMethod 23 [] [(0, vr (some a)), (1, vi (nI m)), (2, vi (nI (w * 12 + m)))] h Q := by
    intro h l1 J1 pm1
    have len1 := pm_len pm1
    have T := J1.bq B
    have K := T.1.1; have hs := K.1; have hw := K.2.1; have hk := K.2.2.2.1
    obtain ⟨p1, c1, x1, y1, z1, ev⟩ := vput J1
    -- the loop over the throws
    have L : ∀ i k (h : AH) l2, k + i = tn (ai r 14 (w * 12 + m)) → JT r h a l2 → l2.length + (flr (jmN r w nk (w * 12 + m) (abv r w nm (w * 12 + m))) i k).length + (flr (unL r w nk (bcS r (oN (ai r 17 (w * 12 + m)))) (thrS r w nk (w * 12 + m)) (tn (ai r 10 (w * 12 + m)))) nk 0).length ≤ 4000 → (∀ h' l', JT r h' a l' → l'.Perm ((flr (jmN r w nk (w * 12 + m) (abv r w nm (w * 12 + m))) i k ++ flr (unL r w nk (bcS r (oN (ai r 17 (w * 12 + m)))) (thrS r w nk (w * 12 + m)) (tn (ai r 10 (w * 12 + m)))) nk 0) ++ l2) → Q none h') → wp (d + 6) K_X12_judgeMethod 59 [] [(0, vr (some a)), (1, vi (nI m)), (2, vi (nI (w * 12 + m))), (3, vi (oI (abv r w nm (w * 12 + m)))), (4, vi (nI k))] h Q := by
      intro i
      induction i with
      | zero =>
        intro k h l2 e J2 hl2 H2
        have T := J2.bq B
        have K := T.1.1; have hs := K.1
        obtain ⟨p1, c1, x1, y1, z1, ev⟩ := vput J2
        rw [rb_X12_judgeMethod_59 _ _ _ _ _ hs, nI_clamp (by omega), J2.ai (by decide) (by decide) (by decide), hthr.1]
        simp (disch := omega) only [nI_clamp, nI_leI, nI_ltI, nI_eq, nI_add, pk_mul, vp_in_nI, nI_1, true_and, and_true, true_implies, implies_true, not_true_eq_false, not_false_eq_true, false_implies, psh, nn_some, forall_const, show tn (ai r 14 (w * 12 + m)) ≤ k by omega]
        rw [rb_X12_judgeMethod_128 _ _ _ _ _ hs]
        simp (disch := omega) only [nI_clamp, nI_leI, nI_ltI, nI_eq, nI_add, pk_mul, vp_in_nI, nI_1, true_and, and_true, true_implies, implies_true, not_true_eq_false, not_false_eq_true, false_implies, psh, nn_some, forall_const]
        have R17 := B.2.2.2.2.2 m hm
        rw [J2.ai (by decide) (by decide) (by decide), rf_oI R17, b_blockCan T (fun b e => (rf_some R17 e).2)]
        simp only [psh]
        rw [rb_X12_judgeMethod_135 _ _ _ _ _ _ _ hs, show vi (nI m) = vi (oI (some m)) from rfl, q_throwsOf K (some m) (fun j e => by cases e; exact ⟨by omega, by rw [J2.ai (by decide) (by decide) (by decide)]; exact hthr⟩)]
        simp only [psh]
        rw [show vi (oI (some m)) = vi (nI m) from rfl, rb_X12_judgeMethod_138 _ _ _ _ _ _ _ _ hs]
        simp (disch := omega) only [nI_clamp, nI_leI, nI_ltI, nI_eq, nI_add, pk_mul, vp_in_nI, nI_1, true_and, and_true, true_implies, implies_true, not_true_eq_false, not_false_eq_true, false_implies, psh, nn_some, forall_const, nn_some, hs.1]
        rw [J2.ai (by decide) (by decide) (by decide), P1.1, ev]
        have e1 : bcS (put r p1 c1 x1 y1 z1) (oN (ai r 17 (w * 12 + m))) = bcS r (oN (ai r 17 (w * 12 + m))) := bcS_put _ _ _ _ _ _ _
        have e2 : thrO (put r p1 c1 x1 y1 z1) w nk (some m) = thrS r w nk (w * 12 + m) := rfl
        rw [e1, e2]
        refine j_untold B J2 _ _ P1.2 (by simp [flr] at hl2; omega) (fun h' l' J' pm => ?_)
        simp only [psh, bk_X12_judgeMethod_143]
        exact H2 h' l' J' pm
      | succ i ih =>
        intro k h l2 e J2 hl2 H2
        have T := J2.bq B
        have K := T.1.1; have hs := K.1
        obtain ⟨p1, c1, x1, y1, z1, ev⟩ := vput J2
        have P3k := P3 k (by omega)
        rw [rb_X12_judgeMethod_59 _ _ _ _ _ hs, nI_clamp (by omega), J2.ai (by decide) (by decide) (by decide), hthr.1]
        simp (disch := omega) only [nI_clamp, nI_leI, nI_ltI, nI_eq, nI_add, pk_mul, vp_in_nI, nI_1, true_and, and_true, true_implies, implies_true, not_true_eq_false, not_false_eq_true, false_implies, psh, nn_some, forall_const, show ¬ tn (ai r 14 (w * 12 + m)) ≤ k by omega]
        rw [rb_X12_judgeMethod_65 _ _ _ _ _ hs, lt4]
        simp (disch := omega) only [nI_clamp, nI_leI, nI_ltI, nI_eq, nI_add, pk_mul, vp_in_nI, nI_1, true_and, and_true, true_implies, implies_true, not_true_eq_false, not_false_eq_true, false_implies, psh, nn_some, forall_const]
        rw [J2.ai (by decide) (by decide) (by decide), J2.al, q_kindOf K]
        simp only [psh, bk_X12_judgeMethod_83]
        have eL : flr (jmN r w nk (w * 12 + m) (abv r w nm (w * 12 + m))) (i + 1) k = jmN r w nk (w * 12 + m) (abv r w nm (w * 12 + m)) k ++ flr (jmN r w nk (w * 12 + m) (abv r w nm (w * 12 + m))) i (k + 1) := rfl
        rw [eL] at hl2 H2
        rw [List.length_append] at hl2
        have nx : ∀ (h' : AH) l' j, JT r h' a l' → l'.Perm (jmN r w nk (w * 12 + m) (abv r w nm (w * 12 + m)) k ++ l2) → wp (d + 6) K_X12_judgeMethod 126 [] [(0, vr (some a)), (1, vi (nI m)), (2, vi (nI (w * 12 + m))), (3, vi (oI (abv r w nm (w * 12 + m)))), (4, vi (nI k)), (5, vi j)] h' Q := fun h' l' j J' pm => by
          rw [bk_X12_judgeMethod_126, nI_1]
          refine wp_cut 5 ?_
          refine ih (k + 1) h' l' (by omega) J' (by rw [pm_len pm]; omega) (fun h2 l2 J2 pm2 => H2 h2 l2 J2 ?_)
          have := pm_step pm pm2
          rwa [← List.append_assoc] at this
        have ek : kN (view h a) w nk (al r 15 (4 * (w * 12 + m) + k)) (ai r 16 (4 * (w * 12 + m) + k)) = kN r w nk (al r 15 (4 * (w * 12 + m) + k)) (ai r 16 (4 * (w * 12 + m) + k)) := by rw [ev]; rfl
        rw [ek]
        have ej : jmN r w nk (w * 12 + m) (abv r w nm (w * 12 + m)) k = (match kN r w nk (al r 15 (4 * (w * 12 + m) + k)) (ai r 16 (4 * (w * 12 + m) + k)) with
          | none => [keyN (tn (ai r 16 (4 * (w * 12 + m) + k))) 1 0]
          | some q => lif (decide (¬ abv r w nm (w * 12 + m) = none) && (chk r w nk q && !und r w nk q (thrO r w nk (abv r w nm (w * 12 + m))))) (keyN (tn (ai r 16 (4 * (w * 12 + m) + k))) 10 (q + 1))) := rfl
        have oka : ∀ j, abv r w nm (w * 12 + m) = some j → j < nm := fun j ej => by
          unfold abv at ej
          split at ej
          · cases ej
          · exact mN_lt ej
        cases eq : kN r w nk (al r 15 (4 * (w * 12 + m) + k)) (ai r 16 (4 * (w * 12 + m) + k)) with
        | none =>
          rw [eq] at ej
          have ej : jmN r w nk (w * 12 + m) (abv r w nm (w * 12 + m)) k = [keyN (tn (ai r 16 (4 * (w * 12 + m) + k))) 1 0] := ej
          simp only [oI, not_true_eq_false, false_implies, true_and, not_false_eq_true, true_implies]
          rw [rb_X12_judgeMethod_87 _ _ _ _ _ _ hs, lt4]
          simp (disch := omega) only [nI_clamp, nI_leI, nI_ltI, nI_eq, nI_add, pk_mul, vp_in_nI, nI_1, true_and, and_true, true_implies, implies_true, not_true_eq_false, not_false_eq_true, false_implies, psh, nn_some, forall_const]
          rw [J2.ai (by decide) (by decide) (by decide), P3k.1, ← kI_0, lt1]
          rw [ej] at hl2 nx
          refine J2.blame (by simp only [List.length_cons, List.length_nil] at hl2; omega) P3k.2 (by omega) (by omega) (fun h' l' J' pm => ?_)
          simp only [psh, bk_X12_judgeMethod_99]
          exact nx h' l' _ J' pm
        | some q =>
          have hq := kN_lt eq
          rw [eq] at ej
          have ej : jmN r w nk (w * 12 + m) (abv r w nm (w * 12 + m)) k = lif (decide (¬ abv r w nm (w * 12 + m) = none) && (chk r w nk q && !und r w nk q (thrO r w nk (abv r w nm (w * 12 + m))))) (keyN (tn (ai r 16 (4 * (w * 12 + m) + k))) 10 (q + 1)) := ej
          have no : ∀ j, jmN r w nk (w * 12 + m) (abv r w nm (w * 12 + m)) k = [] → wp (d + 6) K_X12_judgeMethod 126 [] [(0, vr (some a)), (1, vi (nI m)), (2, vi (nI (w * 12 + m))), (3, vi (oI (abv r w nm (w * 12 + m)))), (4, vi (nI k)), (5, vi j)] h Q := fun j z => nx h l2 j J2 (by rw [z]; exact List.Perm.refl _)
          simp (disch := omega) only [oI_some, nI_ne_m1, nI_clamp, nI_leI, nI_ltI, nI_eq, nI_add, pk_mul, vp_in_nI, nI_1, true_and, and_true, true_implies, implies_true, not_true_eq_false, not_false_eq_true, false_implies, psh, nn_some, forall_const, bk_X12_judgeMethod_100]
          refine ⟨fun z1 => no _ ?_, fun z1 => ?_⟩
          · have : abv r w nm (w * 12 + m) = none := (oI_m1 (fun j ej => by have := oka j ej; omega)).mp z1
            rw [ej, this]
            rfl
          · have z1 : ¬ abv r w nm (w * 12 + m) = none := fun z => z1 (by rw [z]; rfl)
            rw [rb_X12_judgeMethod_103 _ _ _ _ _ _ hs, q_isChecked K hq]
            simp only [psh, bk_X12_judgeMethod_106, b2i_0]
            have e1 : chk (view h a) w nk q = chk r w nk q := by rw [ev]; rfl
            rw [e1]
            refine ⟨fun z2 => no _ (by rw [ej, z2]; simp [lif]), fun z2 => ?_⟩
            rw [rb_X12_judgeMethod_107 _ _ _ _ _ _ hs, q_throwsOf K (abv r w nm (w * 12 + m)) (fun j e => ⟨by have := oka j e; omega, by rw [J2.ai (by decide) (by decide) (by decide)]; exact B.2.1.2.2.2.2.1 j (oka j e)⟩)]
            simp only [psh, bk_X12_judgeMethod_112, nn_some, hs.1, true_and]
            rw [q_isUnder K hq]
            simp only [psh, bk_X12_judgeMethod_113, b2i_0]
            have e2 : und (view h a) w nk q (thrO (view h a) w nk (abv r w nm (w * 12 + m))) = und r w nk q (thrO r w nk (abv r w nm (w * 12 + m))) := by rw [ev]; rfl
            rw [e2]
            refine ⟨fun z3 => no _ (by rw [ej, bt z3]; simp [lif]), fun z3 => ?_⟩
            have y2 : chk r w nk q = true := bt z2
            have y3 : und r w nk q (thrO r w nk (abv r w nm (w * 12 + m))) = false := Classical.not_not.mp z3
            have ej : jmN r w nk (w * 12 + m) (abv r w nm (w * 12 + m)) k = [keyN (tn (ai r 16 (4 * (w * 12 + m) + k))) 10 (q + 1)] := by rw [ej, y2, y3]; simp [lif, z1]
            rw [rb_X12_judgeMethod_114 _ _ _ _ _ _ hs, lt4]
            simp (disch := omega) only [nI_clamp, nI_leI, nI_ltI, nI_eq, nI_add, pk_mul, vp_in_nI, nI_1, true_and, and_true, true_implies, implies_true, not_true_eq_false, not_false_eq_true, false_implies, psh, nn_some, forall_const]
            rw [J2.ai (by decide) (by decide) (by decide), P3k.1, ← kI_1 q]
            rw [ej] at hl2 nx
            refine J2.blame (c := 10) (by simp only [List.length_cons, List.length_nil] at hl2; omega) P3k.2 (by omega) (by omega) (fun h' l' J' pm => ?_)
            exact nx h' l' _ J' pm
    have A3 : ∀ (h : AH) l2, JT r h a l2 → l2.Perm (lif (decide (¬ al r 11 (w * 12 + m) = 0) && decide (abv r w nm (w * 12 + m) = none)) (keyN (tn (ai r 12 (w * 12 + m))) 1 0) ++ l1) → wp (d + 6) K_X12_judgeMethod 57 [] [(0, vr (some a)), (1, vi (nI m)), (2, vi (nI (w * 12 + m))), (3, vi (oI (abv r w nm (w * 12 + m))))] h Q := by
      intro h l2 J2 pm2
      have len2 := pm_len pm2
      rw [bk_X12_judgeMethod_57]
      exact L (tn (ai r 14 (w * 12 + m))) 0 h l2 (by omega) J2 (by omega) (fun h' l' J' pm => H h' l' J' (pm_step pm1 (pm_step pm2 pm)))
    have A38 : wp (d + 6) K_X12_judgeMethod 38 [vi (oI (abv r w nm (w * 12 + m)))] [(0, vr (some a)), (1, vi (nI m)), (2, vi (nI (w * 12 + m)))] h Q := by
      rw [rb_X12_judgeMethod_38 _ _ _ _ hs]
      simp (disch := omega) only [nI_clamp, nI_leI, nI_ltI, nI_eq, nI_add, pk_mul, vp_in_nI, nI_1, true_and, and_true, true_implies, implies_true, not_true_eq_false, not_false_eq_true, false_implies, psh, nn_some, forall_const, lg0]
      rw [J1.al]
      refine ⟨fun z => A3 h l1 J1 (by rw [z]; exact List.Perm.refl _), fun z => ?_⟩
      rw [bk_X12_judgeMethod_46]
      have oka : ∀ j, abv r w nm (w * 12 + m) = some j → j < 2 ^ 31 := fun j ej => by
        unfold abv at ej
        rw [if_neg z] at ej
        have := mN_lt ej
        omega
      refine ⟨fun z2 => A3 h l1 J1 ?_, fun z2 => ?_⟩
      · have : ¬ abv r w nm (w * 12 + m) = none := fun q => z2 (by rw [q]; rfl)
        simp [this, lif]
      · have z2 := (oI_m1 oka).mp (Classical.not_not.mp z2)
        rw [rb_X12_judgeMethod_49 _ _ _ _ hs]
        simp (disch := omega) only [nI_clamp, nI_leI, nI_ltI, nI_eq, nI_add, pk_mul, vp_in_nI, nI_1, true_and, and_true, true_implies, implies_true, not_true_eq_false, not_false_eq_true, false_implies, psh, nn_some, forall_const]
        rw [J1.ai (by decide) (by decide) (by decide), (P2 z).1, ← kI_0, lt1]
        have e1 : lif (decide (¬ al r 11 (w * 12 + m) = 0) && decide (abv r w nm (w * 12 + m) = none)) (keyN (tn (ai r 12 (w * 12 + m))) 1 0) = [keyN (tn (ai r 12 (w * 12 + m))) 1 0] := by simp [z, z2, lif]
        rw [e1] at hl A3
        refine J1.blame (by simp only [List.length_cons, List.length_nil] at hl; omega) (P2 z).2 (by omega) (by omega) (fun h' l' J' pm => ?_)
        exact A3 h' l' J' pm
    rw [rb_X12_judgeMethod_23 _ _ _ hs]
    simp (disch := omega) only [nI_clamp, nI_leI, nI_ltI, nI_eq, nI_add, pk_mul, vp_in_nI, nI_1, true_and, and_true, true_implies, implies_true, not_true_eq_false, not_false_eq_true, false_implies, psh, nn_some, forall_const, lg0]
    rw [J1.al]
    refine ⟨fun z => ?_, fun z => ?_⟩
    · rw [rb_X12_judgeMethod_32 _ _ _ hs]
      simp (disch := omega) only [nI_clamp, nI_leI, nI_ltI, nI_eq, nI_add, pk_mul, vp_in_nI, nI_1, true_and, and_true, true_implies, implies_true, not_true_eq_false, not_false_eq_true, false_implies, psh, nn_some, forall_const]
      rw [t_methodOf T.1, J1.al]
      have e1 : mN (view h a) w nm (al r 11 (w * 12 + m)) = abv r w nm (w * 12 + m) := by rw [ev]; unfold abv; rw [if_neg z]; rfl
      rw [e1]
      exact A38
    · have z := Classical.not_not.mp z
      rw [bk_X12_judgeMethod_30]
      have e1 : abv r w nm (w * 12 + m) = none := by unfold abv; rw [if_pos z]
      rw [e1] at A38
      exact A38
  refine ⟨fun z => A2 h l J (by rw [z]; simp [lif]), fun z => ?_⟩
  rw [rb_X12_judgeMethod_15 _ _ _ hs]
  simp (disch := omega) only [nI_clamp, nI_leI, nI_ltI, nI_eq, nI_add, pk_mul, vp_in_nI, nI_1, true_and, and_true, true_implies, implies_true, not_true_eq_false, not_false_eq_true, false_implies, psh, nn_some, forall_const]
  rw [J.ai (by decide) (by decide) (by decide), P1.1, ← kI_0, lt2]
  have e1 : lif (decide (¬ mN r w nm (al r 9 (w * 12 + m)) = some m)) (keyN (tn (ai r 10 (w * 12 + m))) 2 0) = [keyN (tn (ai r 10 (w * 12 + m))) 2 0] := by simp [z, lif]
  rw [e1] at hl A2
  refine J.blame (by simp only [List.length_cons, List.length_nil] at hl; omega) P1.2 (by omega) (by omega) (fun h' l' J' pm => ?_)
  exact A2 h' l' J' pm
end
