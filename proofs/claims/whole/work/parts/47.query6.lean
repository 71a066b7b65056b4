/-! Contracts of the reference's questions: parameters, set, thrown, can -/
theorem fFI_same (h : AH) (f a : Nat) (v : Int32) : fI (setFI h f a v) f a = v := by
  show (if f = f ∧ a = a then v else _) = v
  simp
theorem setFI_two (h : AH) (f a : Nat) (u v : Int32) : setFI (setFI h f a u) f a v = setFI h f a v := by
  show (_, _) = (_, _)
  congr 1
  funext g b
  show (if g = f ∧ b = a then v else if g = f ∧ b = a then u else _) = if g = f ∧ b = a then v else _
  by_cases c : g = f ∧ b = a
  · rw [if_pos c, if_pos c]
  · rw [if_neg c, if_neg c, if_neg c]
theorem setFI_self (h : AH) (f a : Nat) : setFI h f a (fI h f a) = h := by
  show (_, h.2) = h
  have : up2 h.1 f a (fI h f a) = h.1 := by
    funext g b
    show (if g = f ∧ b = a then _ else _) = _
    by_cases c : g = f ∧ b = a
    · rw [if_pos c, c.1, c.2]; rfl
    · rw [if_neg c]
  rw [this]
/-- the block around a block -/
def upB (r : RV) (b : Nat) : Option Nat := match oN (ai r 41 b) with
  | none => none
  | some o => oN (ai r 21 o)
def prC (r : RV) (b : Nat) : Nat := 4 * tn (ai r 41 b) + tn (ai r 42 b)
/-- the parameter of a name inside a block, and whether a lambda was passed -/
def prF (r : RV) (x : Int64) : Nat → Option Nat → Bool → Option Nat × Bool
  | 0, _, p => (none, p)
  | _ + 1, none, p => (none, p)
  | f + 1, some b, p => if ai r 40 b = 6 ∧ al r 34 (prC r b) = x then (some (prC r b), p) else prF r x f (upB r b) (p || decide (ai r 40 b = 1 ∨ ai r 40 b = 8))
theorem prF_of {r r' : RV} (e40 : ai r' 40 = ai r 40) (e41 : ai r' 41 = ai r 41) (e42 : ai r' 42 = ai r 42) (e21 : ai r' 21 = ai r 21) (e34 : al r' 34 = al r 34) (x : Int64) : ∀ f o p, prF r' x f o p = prF r x f o p := by
  intro f
  induction f with
  | zero => intro o p; cases o <;> rfl
  | succ f ih =>
    intro o p
    cases o with
    | none => rfl
    | some b =>
      have u : upB r' b = upB r b := by unfold upB; rw [e41, e21]
      have c : prC r' b = prC r b := by unfold prC; rw [e41, e42]
      rw [prF, prF, u, c, e40, e34, ih]
def prS (r : RV) (s : Nat) : Option Nat := (prF r (al r 24 s) 2048 (oN (ai r 21 s)) false).1
def psS (r : RV) (s : Nat) : Bool := (prF r (al r 24 s) 2048 (oN (ai r 21 s)) false).2
def stS (r : RV) (w ns c : Nat) : Bool := fup (fun k b => b || (decide (ai r 19 (w * 120 + k) = 3) && decide (prS r (w * 120 + k) = some c))) ns 0 false
theorem prS_put (r : RV) (p c : Int32) (x y z : Nat → Int32) (s : Nat) : prS (put r p c x y z) s = prS r s := by
  unfold prS
  rw [prF_of (r := r) (r' := put r p c x y z) rfl rfl rfl rfl rfl]
  rfl
theorem psS_put (r : RV) (p c : Int32) (x y z : Nat → Int32) (s : Nat) : psS (put r p c x y z) s = psS r s := by
  unfold psS
  rw [prF_of (r := r) (r' := put r p c x y z) rfl rfl rfl rfl rfl]
  rfl
theorem stS_put (r : RV) (p c : Int32) (x y z : Nat → Int32) (w ns q : Nat) : stS (put r p c x y z) w ns q = stS r w ns q := by
  unfold stS
  simp only [prS_put]
  rfl
def thwS (r : RV) (w nk nm ns s : Nat) : Int32 := match prS r s with
  | none => onlyO (kN r w nk (al r 24 s) (ai r 25 s))
  | some c => if stS r w ns c then cgS r w nk c else agS r w nk nm (c / 4) (c % 4)
theorem thwS_put (r : RV) (p c : Int32) (x y z : Nat → Int32) (w nk nm ns s : Nat) : thwS (put r p c x y z) w nk nm ns s = thwS r w nk nm ns s := by
  unfold thwS
  simp only [prS_put, stS_put, agS_put]
  rfl
def canS (r : RV) (w nk nm ns s : Nat) : Int32 := if ai r 19 s = 1 then calS r w nk nm s else if ai r 19 s = 2 then thwS r w nk nm ns s else if ai r 19 s = 4 ∨ ai r 19 s = 5 ∨ ai r 19 s = 6 ∨ ai r 19 s = 11 then bcS r (oN (ai r 26 s)) ||| bcS r (oN (ai r 27 s)) else if ai r 19 s = 9 then triS r w nk nm s else 0
theorem canS_put (r : RV) (p c : Int32) (x y z : Nat → Int32) (w nk nm ns s : Nat) : canS (put r p c x y z) w nk nm ns s = canS r w nk nm ns s := by
  unfold canS
  simp only [calS_put, thwS_put, bcS_put, triS_put]
  rfl
section
variable {d : Nat} {h : AH} {a w nk nm ns nb : Nat} {Q : Option V → AH → Prop}
theorem BQ.psd (v : Int32) (T : BQ h a w nk nm ns nb) : BQ (setFI h 11457 a v) a w nk nm ns nb := T
theorem BQ.upo (T : BQ h a w nk nm ns nb) {b : Nat} (h1 : w * 1024 ≤ b) (h2 : b < w * 1024 + nb) : ∀ j, upB (view h a) b = some j → w * 1024 ≤ j ∧ j < b := by
  intro j e
  obtain ⟨-, -, R, -, -, U⟩ := T.2.2.2.1 b h1 h2
  unfold upB at e
  have e : (match oN (aI h (a + 41) b) with | none => none | some o => oN (aI h (a + 21) o)) = some j := e
  cases e2 : oN (aI h (a + 41) b) with
  | none => rw [e2] at e; cases e
  | some o =>
    rw [e2] at e
    have e : oN (aI h (a + 21) o) = some j := e
    obtain ⟨q1, q2, q3⟩ := rf_some R e2
    have := T.1.2.2.2.2.1
    have hw2 := T.1.1.2.2.1
    have nm1 : ¬ aI h (a + 41) b = -1 := by rw [q1]; exact nI_ne_m1 (by omega)
    have U := U nm1
    rw [q1, tn_nI (by omega)] at U
    obtain ⟨q4, q5, q6⟩ := rf_some (T.2.2.1 o q2 q3).2.2.2.2.1 e
    rw [q4, tn_nI (by have := T.2.1; omega)] at U
    exact ⟨q5, U⟩
theorem BQ.inB (T : BQ h a w nk nm ns nb) {s : Nat} (h1 : w * 120 ≤ s) (h2 : s < w * 120 + ns) : ∀ b, oN (aI h (a + 21) s) = some b → w * 1024 ≤ b ∧ b < w * 1024 + nb := fun b e => (rf_some (T.2.2.1 s h1 h2).2.2.2.2.1 e).2
/-- what a parameter's number is -/
theorem BQ.prc (T : BQ h a w nk nm ns nb) {b : Nat} (h1 : w * 1024 ≤ b) (h2 : b < w * 1024 + nb) (h6 : aI h (a + 40) b = 6) : ∃ s i, aI h (a + 41) b = nI s ∧ aI h (a + 42) b = nI i ∧ w * 120 ≤ s ∧ s < w * 120 + ns ∧ i < tn (aI h (a + 32) s) ∧ i < 4 ∧ prC (view h a) b = 4 * s + i := by
  obtain ⟨-, -, R, Z, C, -⟩ := T.2.2.2.1 b h1 h2
  have nm1 : ¬ aI h (a + 41) b = -1 := fun z => by rw [Z.mp z] at h6; exact absurd h6 (by decide)
  rcases R with R | ⟨q1, q2, q3⟩
  · exact absurd R nm1
  · obtain ⟨c1, c2⟩ := C h6
    have := (T.1.2.2.2.2.2.2 _ q2 q3).2.1.2
    exact ⟨_, _, q1, c1, q2, q3, c2, by omega, rfl⟩
theorem BQ.prf (T : BQ h a w nk nm ns nb) (x : Int64) : ∀ f (o : Option Nat) p c, (∀ b, o = some b → w * 1024 ≤ b ∧ b < w * 1024 + nb) → (prF (view h a) x f o p).1 = some c → ∃ s i, w * 120 ≤ s ∧ s < w * 120 + ns ∧ i < tn (aI h (a + 32) s) ∧ i < 4 ∧ c = 4 * s + i := by
  intro f
  induction f with
  | zero => intro o p c _ e; cases o <;> cases e
  | succ f ih =>
    intro o p c ho e
    cases o with
    | none => cases e
    | some b =>
      obtain ⟨h1, h2⟩ := ho b rfl
      rw [prF] at e
      by_cases z : ai (view h a) 40 b = 6 ∧ al (view h a) 34 (prC (view h a) b) = x
      · rw [if_pos z] at e
        cases e
        obtain ⟨s, i, -, -, g1, g2, g3, g4, g5⟩ := T.prc h1 h2 z.1
        exact ⟨s, i, g1, g2, g3, g4, g5⟩
      · rw [if_neg z] at e
        refine ih _ _ c (fun j ej => ?_) e
        have := T.upo h1 h2 j ej
        omega
theorem b_paramOf (T : BQ h a w nk nm ns nb) (x : Int64) {o : Option Nat} (ho : ∀ b, o = some b → w * 1024 ≤ b ∧ b < w * 1024 + nb) : wp d K_X12_paramOf 0 [] [(0, vr (some a)), (1, vl x), (3, vi (oI o))] h Q = Q (some (vi (oI (prF (view h a) x 2048 o false).1))) (setFI h 11457 a (b2i (prF (view h a) x 2048 o false).2)) := by
  have hs := T.1.1.1; have hw2 := T.1.1.2.2.1
  have hns := T.1.2.2.2.2.1
  have hnb := T.2.1
  have L : ∀ f (o2 : Option Nat) p, (∀ b, o2 = some b → w * 1024 ≤ b ∧ b < w * 1024 + nb ∧ b < f) → wp d K_X12_paramOf 5 [] [(0, vr (some a)), (1, vl x), (3, vi (oI o)), (4, vi (oI o2))] (setFI h 11457 a (b2i p)) Q = Q (some (vi (oI (prF (view h a) x f o2 p).1))) (setFI h 11457 a (b2i (prF (view h a) x f o2 p).2)) := by
    intro f
    induction f with
    | zero =>
      intro o2 p H
      cases o2 with
      | none => simp [bk_X12_paramOf_5, bk_X12_paramOf_80, oI, prF]
      | some b => have := H b rfl; omega
    | succ f ih =>
      intro o2 p H
      cases o2 with
      | none => simp [bk_X12_paramOf_5, bk_X12_paramOf_80, oI, prF]
      | some b =>
        obtain ⟨h1, h2, h3⟩ := H b rfl
        have hsp : ∀ v, RS (setFI h 11457 a v) a := fun v => hs
        have nx : ∀ p2, wp d K_X12_paramOf 62 [vi (b2i p2), vr (some a)] [(0, vr (some a)), (1, vl x), (3, vi (oI o)), (4, vi (nI b))] (setFI h 11457 a (b2i p)) Q = Q (some (vi (oI (prF (view h a) x f (upB (view h a) b) p2).1))) (setFI h 11457 a (b2i (prF (view h a) x f (upB (view h a) b) p2).2)) := fun p2 => by
          rw [rb_X12_paramOf_62 _ _ _ _ _ _ (hsp _)]
          simp (disch := omega) only [nn_some, hs.1, tg_setFI, aI_setFI, nI_clamp, nI_leI, nI_ltI, nI_eq, nI_add, pk_mul, vp_in_nI, nI_1, true_and, and_true, true_implies, implies_true, not_true_eq_false, not_false_eq_true, false_implies, psh, nn_some, forall_const, b2i_ok, setFI_two, bk_X12_paramOf_69, bk_X12_paramOf_78]
          rw [rb_X12_paramOf_71 _ _ _ _ (hsp _)]
          simp (disch := omega) only [aI_setFI, nI_clamp, nI_leI, nI_ltI, nI_eq, nI_add, pk_mul, vp_in_nI, nI_1, true_and, and_true, true_implies, implies_true, not_true_eq_false, not_false_eq_true, false_implies, psh, nn_some, forall_const, bk_X12_paramOf_78]
          obtain ⟨-, -, R, -, -, -⟩ := T.2.2.2.1 b h1 h2
          have U := T.upo h1 h2
          have eU : upB (view h a) b = (match oN (aI h (a + 41) b) with | none => none | some o => oN (aI h (a + 21) o)) := rfl
          cases e2 : oN (aI h (a + 41) b) with
          | none =>
            rw [e2] at eU
            have eU : upB (view h a) b = none := eU
            rw [rf_none e2, eU]
            simp only [not_true_eq_false, false_implies, true_and, not_false_eq_true, true_implies]
            exact ih none p2 (fun b e => by cases e)
          | some o3 =>
            rw [e2] at eU
            have eU : upB (view h a) b = oN (aI h (a + 21) o3) := eU
            obtain ⟨q1, q2, q3⟩ := rf_some R e2
            rw [q1]
            simp (disch := omega) only [nI_ne_m1, nI_clamp, nI_leI, nI_ltI, nI_eq, nI_add, pk_mul, vp_in_nI, nI_1, true_and, and_true, true_implies, implies_true, not_true_eq_false, not_false_eq_true, false_implies, psh, nn_some, forall_const]
            rw [rf_oI (T.2.2.1 o3 q2 q3).2.2.2.2.1, ← eU]
            refine ih _ p2 (fun j ej => ?_)
            have := U j ej
            omega
        have e43 : ∀ p2, p2 = (p || decide (ai (view h a) 40 b = 1 ∨ ai (view h a) 40 b = 8)) → wp d K_X12_paramOf 43 [] [(0, vr (some a)), (1, vl x), (3, vi (oI o)), (4, vi (nI b))] (setFI h 11457 a (b2i p)) Q = Q (some (vi (oI (prF (view h a) x f (upB (view h a) b) p2).1))) (setFI h 11457 a (b2i (prF (view h a) x f (upB (view h a) b) p2).2)) := fun p2 ep => by
          have ep : p2 = (p || decide (aI h (a + 40) b = 1 ∨ aI h (a + 40) b = 8)) := ep
          rw [rb_X12_paramOf_43 _ _ _ _ (hsp _), rb_X12_paramOf_47 _ _ _ _ _ (hsp _), rb_X12_paramOf_53 _ _ _ _ _ (hsp _)]
          simp (disch := omega) only [aI_setFI, nI_clamp, nI_leI, nI_ltI, nI_eq, nI_add, pk_mul, vp_in_nI, nI_1, true_and, and_true, true_implies, implies_true, not_true_eq_false, not_false_eq_true, false_implies, psh, nn_some, forall_const, fFI_same, b2i_0, bk_X12_paramOf_59, bk_X12_paramOf_61]
          rw [show (0 : Int32) = b2i false from rfl, show vi 1 = vi (b2i true) from rfl, nx, nx]
          subst ep
          cases p
          · by_cases c1 : aI h (a + 40) b = 1
            · simp [c1]
            · by_cases c2 : aI h (a + 40) b = 8
              · simp [c2]
              · simp [c1, c2]
          · simp
        show wp d K_X12_paramOf 5 [] [(0, vr (some a)), (1, vl x), (3, vi (oI o)), (4, vi (nI b))] (setFI h 11457 a (b2i p)) Q = _
        rw [bk_X12_paramOf_5]
        simp (disch := omega) only [nI_ne_m1, nI_clamp, nI_leI, nI_ltI, nI_eq, nI_add, pk_mul, vp_in_nI, nI_1, true_and, and_true, true_implies, implies_true, not_true_eq_false, not_false_eq_true, false_implies, psh, nn_some, forall_const]
        rw [rb_X12_paramOf_8 _ _ _ _ (hsp _), e43 _ rfl, prF]
        simp (disch := omega) only [aI_setFI, nI_clamp, nI_leI, nI_ltI, nI_eq, nI_add, pk_mul, vp_in_nI, nI_1, true_and, and_true, true_implies, implies_true, not_true_eq_false, not_false_eq_true, false_implies, psh, nn_some, forall_const]
        refine ite3 (fun c => ?_) (fun c => ?_)
        · obtain ⟨s, i, g1, g2, g3, g4, g5, g6, g7⟩ := T.prc h1 h2 c
          have c' : ai (view h a) 40 b = 6 := c
          rw [rb_X12_paramOf_14 _ _ _ _ (hsp _), e43 _ rfl]
          simp (disch := omega) only [aI_setFI, aJ_setFI, g1, g2, lt4, nI_clamp, nI_leI, nI_ltI, nI_eq, nI_add, pk_mul, vp_in_nI, nI_1, true_and, and_true, true_implies, implies_true, not_true_eq_false, not_false_eq_true, false_implies, psh, nn_some, forall_const, lg0]
          refine ite3 (fun c2 => ?_) (fun c2 => ?_)
          · have c2 : al (view h a) 34 (prC (view h a) b) = x := by rw [g7]; exact c2
            rw [if_pos ⟨c', c2⟩, rb_X12_paramOf_31 _ _ _ _ (hsp _)]
            simp (disch := omega) only [aI_setFI, g1, g2, lt4, nI_clamp, nI_leI, nI_ltI, nI_eq, nI_add, pk_mul, vp_in_nI, nI_1, true_and, and_true, true_implies, implies_true, not_true_eq_false, not_false_eq_true, false_implies, psh, nn_some, forall_const, g7]
            rfl
          · have c2 : ¬ al (view h a) 34 (prC (view h a) b) = x := by rw [g7]; exact c2
            rw [if_neg (fun z => c2 z.2)]
        · have c' : ¬ ai (view h a) 40 b = 6 := c
          rw [if_neg (fun z => c' z.1)]
  rw [rb_X12_paramOf_0 _ _ _ hs]
  have := L 2048 o false (fun b e => by have := ho b e; omega)
  rw [show b2i false = 0 from rfl] at this
  rw [this]
  exact propext (and_iff_right (Or.inl rfl))
theorem b_paramS (T : BQ h a w nk nm ns nb) {s : Nat} (h1 : w * 120 ≤ s) (h2 : s < w * 120 + ns) : wp d K_X12_paramOf 0 [] [(0, vr (some a)), (1, vl (aJ h (a + 24) s)), (3, vi (aI h (a + 21) s))] h Q = Q (some (vi (oI (prS (view h a) s)))) (setFI h 11457 a (b2i (psS (view h a) s))) := by
  rw [rf_oI (T.2.2.1 s h1 h2).2.2.2.2.1, b_paramOf T _ (T.inB h1 h2)]
  rfl
theorem b_isSet (T : BQ h a w nk nm ns nb) {c : Nat} (hc : c < 960) (H : ∀ v, Q (some (vi (b2i (stS (view h a) w ns c)))) (setFI h 11457 a v)) : wp (d + 1) K_X12_isSet 0 [] [(0, vr (some a)), (1, vi (nI c))] h Q := by
  have hs := T.1.1.1; have hw := T.1.1.2.1; have hw2 := T.1.1.2.2.1
  have hn := T.1.2.2.2.1; have hns := T.1.2.2.2.2.1
  have hsp : ∀ v, RS (setFI h 11457 a v) a := fun v => hs
  have hwp : ∀ v, fI (setFI h 11457 a v) 1402 a = nI w := fun v => hw
  have S : ∀ k acc v, k < ns → (∀ v' j, wp (d + 1) K_X12_isSet 4 [] [(0, vr (some a)), (1, vi (nI c)), (2, vi (b2i (acc || (decide (ai (view h a) 19 (w * 120 + k) = 3) && decide (prS (view h a) (w * 120 + k) = some c))))), (3, vi (nI (k + 1))), (4, vi j)] (setFI h 11457 a v') Q) → ((¬ acc = false → wp (d + 1) K_X12_isSet 38 [] [(0, vr (some a)), (1, vi (nI c)), (2, vi (b2i acc)), (3, vi (nI k)), (4, vi (nI (w * 120 + k)))] (setFI h 11457 a v) Q) ∧ (¬ (¬ acc = false) → wp (d + 1) K_X12_isSet 20 [] [(0, vr (some a)), (1, vi (nI c)), (2, vi (b2i acc)), (3, vi (nI k)), (4, vi (nI (w * 120 + k)))] (setFI h 11457 a v) Q)) := by
    intro k acc v hkk G
    refine ⟨fun z => ?_, fun z => ?_⟩
    · rw [bk_X12_isSet_38, bk_X12_isSet_41, nI_1]
      have : acc = true := by cases acc <;> simp_all
      subst this
      exact G v _
    · have : acc = false := by cases acc <;> simp_all
      subst this
      rw [rb_X12_isSet_20 _ _ _ _ _ (hsp _)]
      simp (disch := omega) only [aI_setFI, nI_clamp, nI_leI, nI_ltI, nI_eq, nI_add, pk_mul, vp_in_nI, nI_1, true_and, and_true, true_implies, implies_true, not_true_eq_false, not_false_eq_true, false_implies, psh, nn_some, forall_const]
      have n0 : ∀ v', (¬ (decide (ai (view h a) 19 (w * 120 + k) = 3) && decide (prS (view h a) (w * 120 + k) = some c)) = true) → wp (d + 1) K_X12_isSet 40 [] [(0, vr (some a)), (1, vi (nI c)), (2, vi (b2i false)), (3, vi (nI k)), (4, vi (nI (w * 120 + k)))] (setFI h 11457 a v') Q := fun v' z => by
        rw [bk_X12_isSet_40, bk_X12_isSet_41, nI_1]
        have := G v' (nI (w * 120 + k))
        rw [Bool.eq_false_iff.mpr z] at this
        exact this
      refine ⟨fun c1 => ?_, fun c1 => ?_⟩
      · refine n0 v (fun z => ?_)
        rw [Bool.and_eq_true, decide_eq_true_eq] at z
        exact c1 z.1
      · have c1 := Classical.not_not.mp c1
        have c1 : ai (view h a) 19 (w * 120 + k) = 3 := c1
        rw [rb_X12_isSet_26 _ _ _ _ _ (hsp _)]
        simp (disch := omega) only [aI_setFI, aJ_setFI, nI_clamp, nI_leI, nI_ltI, nI_eq, nI_add, pk_mul, vp_in_nI, nI_1, true_and, and_true, true_implies, implies_true, not_true_eq_false, not_false_eq_true, false_implies, psh, nn_some, forall_const]
        have e := b_paramS (d := d) (Q := fun v h1 => wp (d + 1) K_X12_isSet 36 (psh v []) [(0, vr (some a)), (1, vi (nI c)), (2, vi (b2i false)), (3, vi (nI k)), (4, vi (nI (w * 120 + k)))] h1 Q) (T.psd v) (s := w * 120 + k) (by omega) (by omega)
        simp only [aI_setFI, aJ_setFI, setFI_two] at e
        refine Eq.mpr e ?_
        simp only [psh, bk_X12_isSet_36]
        have ep : prS (view (setFI h 11457 a v) a) (w * 120 + k) = prS (view h a) (w * 120 + k) := by rw [vP, prS_put]
        rw [ep]
        have ok : ∀ j, prS (view h a) (w * 120 + k) = some j → j < 2 ^ 31 := fun j ej => by
          obtain ⟨s, i, g1, g2, g3, g4, g5⟩ := T.prf _ _ _ _ j (T.inB (by omega) (by omega)) ej
          omega
        have eq : (oI (prS (view h a) (w * 120 + k)) = nI c) ↔ prS (view h a) (w * 120 + k) = some c := by
          constructor
          · intro z
            rw [← oN_oI ok, z, oN_nI (by omega)]
          · intro z; rw [z]; rfl
        refine ⟨fun c2 => ?_, fun c2 => ?_⟩
        · refine n0 _ (fun z => ?_)
          rw [Bool.and_eq_true, decide_eq_true_eq, decide_eq_true_eq] at z
          exact c2 (eq.mpr z.2)
        · rw [bk_X12_isSet_38, bk_X12_isSet_41, nI_1]
          have c2 := eq.mp (Classical.not_not.mp c2)
          have := G (b2i (psS (view (setFI h 11457 a v) a) (w * 120 + k))) (nI (w * 120 + k))
          rw [show (false || (decide (ai (view h a) 19 (w * 120 + k) = 3) && decide (prS (view h a) (w * 120 + k) = some c))) = true by simp [c1, c2]] at this
          exact this
  have L : ∀ m k acc v j, k + m = ns → fup (fun k b => b || (decide (ai (view h a) 19 (w * 120 + k) = 3) && decide (prS (view h a) (w * 120 + k) = some c))) m k acc = stS (view h a) w ns c → wp (d + 1) K_X12_isSet 4 [] [(0, vr (some a)), (1, vi (nI c)), (2, vi (b2i acc)), (3, vi (nI k)), (4, vi j)] (setFI h 11457 a v) Q := by
    intro m
    induction m with
    | zero =>
      intro k acc v j e G
      rw [rb_X12_isSet_4_1 _ _ _ _ _ (hsp _)]
      have G : acc = stS (view h a) w ns c := G
      simp (disch := omega) only [hwp, aI_setFI, hn, nI_clamp, nI_leI, nI_ltI, nI_eq, nI_add, pk_mul, vp_in_nI, nI_1, true_and, and_true, true_implies, implies_true, not_true_eq_false, not_false_eq_true, false_implies, psh, nn_some, forall_const, bk_X12_isSet_44_1, b2i_ok, show ns ≤ k by omega, G]
      exact H v
    | succ m ih =>
      intro k acc v j e G
      rw [rb_X12_isSet_4_1 _ _ _ _ _ (hsp _)]
      simp (disch := omega) only [hwp, aI_setFI, hn, nI_clamp, nI_leI, nI_ltI, nI_eq, nI_add, pk_mul, vp_in_nI, nI_1, true_and, and_true, true_implies, implies_true, not_true_eq_false, not_false_eq_true, false_implies, psh, nn_some, forall_const, show ¬ ns ≤ k by omega]
      rw [rb_X12_isSet_11_1 _ _ _ _ _ (hsp _)]
      simp (disch := omega) only [hwp, b2i_0, lt120, nI_clamp, nI_leI, nI_ltI, nI_eq, nI_add, pk_mul, vp_in_nI, nI_1, true_and, and_true, true_implies, implies_true, not_true_eq_false, not_false_eq_true, false_implies, psh, nn_some, forall_const]
      exact S k acc v (by omega) (fun v' j' => ih (k + 1) _ v' j' (by omega) G)
  rw [bk_X12_isSet_0]
  rw [← setFI_self h 11457 a]
  rw [show ((2 : Nat), vi 0) = (2, vi (b2i false)) from rfl, show ((3 : Nat), vi 0) = (3, vi (nI 0)) from rfl, rb_X12_isSet_4 _ _ _ _ (hsp _)]
  simp (disch := omega) only [hwp, aI_setFI, hn, nI_clamp, nI_leI, nI_ltI, nI_eq, nI_add, pk_mul, vp_in_nI, nI_1, true_and, and_true, true_implies, implies_true, not_true_eq_false, not_false_eq_true, false_implies, psh, nn_some, forall_const]
  refine ⟨fun z => ?_, fun z => ?_⟩
  · have z : ns = 0 := by omega
    rw [bk_X12_isSet_44]
    refine ⟨Or.inl rfl, ?_⟩
    have := H (fI h 11457 a)
    rw [z] at this
    exact this
  · rw [rb_X12_isSet_11 _ _ _ _ (hsp _)]
    simp (disch := omega) only [hwp, b2i_0, lt120, nI_clamp, nI_leI, nI_ltI, nI_eq, nI_add, pk_mul, vp_in_nI, nI_1, true_and, and_true, true_implies, implies_true, not_true_eq_false, not_false_eq_true, false_implies, psh, nn_some, forall_const]
    refine (S 0 false _ (by omega) (fun v' j' => L (ns - 1) 1 _ v' j' (by omega) ?_)).2 (by simp)
    unfold stS
    obtain ⟨n, rfl⟩ : ∃ n, ns = n + 1 := ⟨ns - 1, by omega⟩
    rfl
theorem b_thrown (T : BQ h a w nk nm ns nb) {s : Nat} (h1 : w * 120 ≤ s) (h2 : s < w * 120 + ns) (H : ∀ v, Q (some (vi (thwS (view h a) w nk nm ns s))) (setFI h 11457 a v)) : wp (d + 6) K_X12_thrown 0 [] [(0, vr (some a)), (1, vi (nI s))] h Q := by
  have K := T.1.1; have hs := K.1; have hw := K.2.1; have hw2 := K.2.2.1; have hn := K.2.2.2.2.1
  have hns := T.1.2.2.2.2.1
  have hsp : ∀ v, RS (setFI h 11457 a v) a := fun v => hs
  rw [rb_X12_thrown_0 _ _ hs]
  simp (disch := omega) only [nI_clamp, nI_leI, nI_ltI, nI_eq, nI_add, pk_mul, vp_in_nI, nI_1, true_and, and_true, true_implies, implies_true, not_true_eq_false, not_false_eq_true, false_implies, psh, nn_some, forall_const]
  rw [b_paramS T h1 h2]
  simp only [psh, bk_X12_thrown_10]
  have P := T.prf (aJ h (a + 24) s) 2048 (oN (aI h (a + 21) s)) false
  have ek : kN (view h a) w nk (aJ h (a + 24) s) (aI h (a + 25) s) = kN (view h a) w nk (al (view h a) 24 s) (ai (view h a) 25 s) := rfl
  have eS : thwS (view h a) w nk nm ns s = (match prS (view h a) s with
    | none => onlyO (kN (view h a) w nk (al (view h a) 24 s) (ai (view h a) 25 s))
    | some c => if stS (view h a) w ns c then cgS (view h a) w nk c else agS (view h a) w nk nm (c / 4) (c % 4)) := rfl
  generalize b2i (psS (view h a) s) = v0
  cases e : prS (view h a) s with
  | none =>
    rw [e] at eS
    have eS : thwS (view h a) w nk nm ns s = onlyO (kN (view h a) w nk (al (view h a) 24 s) (ai (view h a) 25 s)) := eS
    simp only [oI, not_true_eq_false, false_implies, true_and, not_false_eq_true, true_implies]
    rw [rb_X12_thrown_14 _ _ _ (hsp _)]
    simp (disch := omega) only [aI_setFI, aJ_setFI, nI_clamp, nI_leI, nI_ltI, nI_eq, nI_add, pk_mul, vp_in_nI, nI_1, true_and, and_true, true_implies, implies_true, not_true_eq_false, not_false_eq_true, false_implies, psh, nn_some, forall_const]
    rw [q_kindOf (T.psd v0).1.1]
    simp only [psh, bk_X12_thrown_24]
    rw [e_only _ (kN_ok hn)]
    simp only [psh, bk_X12_thrown_25]
    have := H v0
    rw [eS] at this
    exact this
  | some c =>
    rw [e] at eS
    have eS : thwS (view h a) w nk nm ns s = if stS (view h a) w ns c then cgS (view h a) w nk c else agS (view h a) w nk nm (c / 4) (c % 4) := eS
    obtain ⟨s2, i, g1, g2, g3, g4, g5⟩ := P c (T.inB h1 h2) e
    simp (disch := omega) only [oI, nI_ne_m1, nI_clamp, nI_leI, nI_ltI, nI_eq, nI_add, pk_mul, vp_in_nI, nI_1, true_and, and_true, true_implies, implies_true, not_true_eq_false, not_false_eq_true, false_implies, psh, nn_some, forall_const]
    rw [rb_X12_thrown_26 _ _ _ (hsp _)]
    refine b_isSet (T.psd v0) (by omega) (fun v1 => ?_)
    rw [setFI_two, show stS (view (setFI h 11457 a v0) a) w ns c = stS (view h a) w ns c from by rw [vP, stS_put]]
    simp only [psh, bk_X12_thrown_29, b2i_0]
    have := H v1
    rw [eS] at this
    refine ⟨fun z => ?_, fun z => ?_⟩
    · rw [z] at this
      rw [rb_X12_thrown_34 _ _ _ (hsp _), g5, b_again (T.psd v1) g1 g2 g3]
      simp only [psh, bk_X12_thrown_37]
      rw [g5, show (4 * s2 + i) / 4 = s2 by omega, show (4 * s2 + i) % 4 = i by omega] at this
      rw [vP, agS_put]
      exact this
    · have z : stS (view h a) w ns c = true := by simpa using z
      rw [z] at this
      rw [rb_X12_thrown_30 _ _ _ (hsp _), g5, q_caughtBy (T.psd v1).1.1 (by omega) ((T.1.2.2.2.2.2.2 s2 g1 g2).2.2.1 i g3).1]
      simp only [psh, bk_X12_thrown_33, bk_X12_thrown_37]
      rw [g5] at this
      exact this
theorem b_canOf (T : BQ h a w nk nm ns nb) {s : Nat} (h1 : w * 120 ≤ s) (h2 : s < w * 120 + ns) (H : ∀ v, Q (some (vi (canS (view h a) w nk nm ns s))) (setFI h 11457 a v)) : wp (d + 7) K_X12_canOf 0 [] [(0, vr (some a)), (1, vi (nI s))] h Q := by
  have K := T.1.1; have hs := K.1; have hw := K.2.1; have hw2 := K.2.2.1; have hn := K.2.2.2.2.1
  have hns := T.1.2.2.2.2.1
  have H0 : Q (some (vi (canS (view h a) w nk nm ns s))) h := by have := H (fI h 11457 a); rw [setFI_self] at this; exact this
  rw [rb_X12_canOf_0 _ _ hs]
  simp (disch := omega) only [nI_clamp, nI_leI, nI_ltI, nI_eq, nI_add, pk_mul, vp_in_nI, nI_1, true_and, and_true, true_implies, implies_true, not_true_eq_false, not_false_eq_true, false_implies, psh, nn_some, forall_const]
  have bb : bcS (view h a) (oN (aI h (a + 26) s)) ||| bcS (view h a) (oN (aI h (a + 27) s)) = canS (view h a) w nk nm ns s → wp (d + 7) K_X12_canOf 13 [] [(0, vr (some a)), (1, vi (nI s))] h Q := fun z => by
    rw [rb_X12_canOf_13 _ _ hs]
    simp (disch := omega) only [nI_clamp, nI_leI, nI_ltI, nI_eq, nI_add, pk_mul, vp_in_nI, nI_1, true_and, and_true, true_implies, implies_true, not_true_eq_false, not_false_eq_true, false_implies, psh, nn_some, forall_const]
    rw [rf_oI (T.2.2.1 s h1 h2).1, b_blockCan T (T.of26 h1 h2)]
    simp only [psh]
    rw [rb_X12_canOf_19 _ _ _ hs]
    simp (disch := omega) only [nI_clamp, nI_leI, nI_ltI, nI_eq, nI_add, pk_mul, vp_in_nI, nI_1, true_and, and_true, true_implies, implies_true, not_true_eq_false, not_false_eq_true, false_implies, psh, nn_some, forall_const]
    rw [rf_oI (T.2.2.1 s h1 h2).2.1, b_blockCan T (T.of27 h1 h2)]
    simp only [psh, bk_X12_canOf_25]
    rw [z]
    exact H0
  have zz : 0 = canS (view h a) w nk nm ns s → wp (d + 7) K_X12_canOf 31 [] [(0, vr (some a)), (1, vi (nI s))] h Q := fun z => by
    rw [bk_X12_canOf_31, z]; exact H0
  have eS : canS (view h a) w nk nm ns s = if aI h (a + 19) s = 1 then calS (view h a) w nk nm s else if aI h (a + 19) s = 2 then thwS (view h a) w nk nm ns s else if aI h (a + 19) s = 4 ∨ aI h (a + 19) s = 5 ∨ aI h (a + 19) s = 6 ∨ aI h (a + 19) s = 11 then bcS (view h a) (oN (aI h (a + 26) s)) ||| bcS (view h a) (oN (aI h (a + 27) s)) else if aI h (a + 19) s = 9 then triS (view h a) w nk nm s else 0 := rfl
  refine ⟨fun c => ?_, fun j hj e => ?_⟩
  · refine zz ?_
    rw [eS]
    have ne : ∀ x : Int32, ¬ (x < 1 ∨ 1 + Int32.ofNat 11 ≤ x) → ¬ aI h (a + 19) s = x := fun x hx z => hx (by rw [z] at c; exact c)
    rw [if_neg (ne 1 (by decide)), if_neg (ne 2 (by decide)), if_neg, if_neg (ne 9 (by decide))]
    rintro (z | z | z | z)
    · exact ne 4 (by decide) z
    · exact ne 5 (by decide) z
    · exact ne 6 (by decide) z
    · exact ne 11 (by decide) z
  · have : j = 0 ∨ j = 1 ∨ j = 2 ∨ j = 3 ∨ j = 4 ∨ j = 5 ∨ j = 6 ∨ j = 7 ∨ j = 8 ∨ j = 9 ∨ j = 10 := by omega
    rcases this with z | z | z | z | z | z | z | z | z | z | z <;> subst z
    · have e : aI h (a + 19) s = 1 := e
      show wp (d + 7) K_X12_canOf 5 [] [(0, vr (some a)), (1, vi (nI s))] h Q
      rw [rb_X12_canOf_5 _ _ hs, b_called T h1 h2]
      simp only [psh, bk_X12_canOf_8]
      rw [eS, if_pos e] at H0
      exact H0
    · have e : aI h (a + 19) s = 2 := e
      show wp (d + 7) K_X12_canOf 9 [] [(0, vr (some a)), (1, vi (nI s))] h Q
      rw [rb_X12_canOf_9 _ _ hs]
      refine b_thrown T h1 h2 (fun v => ?_)
      simp only [psh, bk_X12_canOf_12]
      have := H v
      rw [eS, e] at this
      exact this
    · exact zz (by rw [eS, show aI h (a + 19) s = 3 from e]; rfl)
    · exact bb (by rw [eS, show aI h (a + 19) s = 4 from e]; rfl)
    · exact bb (by rw [eS, show aI h (a + 19) s = 5 from e]; rfl)
    · exact bb (by rw [eS, show aI h (a + 19) s = 6 from e]; rfl)
    · exact zz (by rw [eS, show aI h (a + 19) s = 7 from e]; rfl)
    · exact zz (by rw [eS, show aI h (a + 19) s = 8 from e]; rfl)
    · have e : aI h (a + 19) s = 9 := e
      show wp (d + 7) K_X12_canOf 27 [] [(0, vr (some a)), (1, vi (nI s))] h Q
      rw [rb_X12_canOf_27 _ _ hs, b_tried T h1 h2]
      simp only [psh, bk_X12_canOf_30]
      rw [eS, e] at H0
      exact H0
    · exact zz (by rw [eS, show aI h (a + 19) s = 10 from e]; rfl)
    · exact bb (by rw [eS, show aI h (a + 19) s = 11 from e]; rfl)
end
