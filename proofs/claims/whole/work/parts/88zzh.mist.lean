/-! The mistakes: those of the reading and those of the judging are the reference's -/
/-- what judging blames for kind number j of catch i of statement s -/
def jcK (r : RV) (w nk s i : Nat) (t : Int32) (j : Nat) : List Nat := match cgK r w nk (4 * s + i) j with
  | none => []
  | some x => lif (decide (1 < x) && (chk r w nk x && !jcS r w nk t x)) (keyN (tn (ai r 38 (4 * (4 * s + i) + j))) 3 (x + 1)) ++
    (lif (und r w nk x (ahd r w nk s i)) (keyN (tn (ai r 38 (4 * (4 * s + i) + j))) 4 (x + 1)) ++
    lif (jcR r w nk (4 * s + i) x j) (keyN (tn (ai r 38 (4 * (4 * s + i) + j))) 5 (x + 1)))
/-- what a try can throw inside, the checked kinds of it -/
def insC (r : RV) (w nk nm s : Nat) : Int32 := mask (fun k => hasB (insS r w nk nm s) k && chk r w nk k) nk
/-- what judging blames for a call -/
def jcC (r : RV) (w nm s : Nat) : List Nat := match mN r w nm (al r 24 s) with
  | none => [keyN (tn (ai r 25 s)) 1 0]
  | some j => match oN (ai r 26 s) with
    | none => []
    | some b => lif (decide (ai r 13 (w * 12 + j) = 0)) (keyN (tn (ai r 43 b)) 11 0)
def jcW (r : RV) (w ns s : Nat) : List Nat := match prS r s with
  | none => []
  | some c => lif (psS r s && stS r w ns c) (keyN (tn (ai r 25 s)) 12 0)
def jcT (r : RV) (w nk nm s : Nat) : List Nat := flr (jtN r w nm s) (tn (ai r 29 s)) 0 ++ flr (fun i => flr (jcK r w nk s i (insC r w nk nm s)) (tn (ai r 36 (4 * s + i))) 0) (tn (ai r 32 s)) 0
def jcU (r : RV) (w nk nm s : Nat) : List Nat := flr (unL r w nk (bcS r (oN (ai r 26 s))) (nmS r w nk nm s) (tn (ai r 20 s))) nk 0
/-- what judging blames for statement s -/
def jcA (r : RV) (w nk nm ns s : Nat) : List Nat := if ai r 19 s = 1 then jcC r w nm s else if ai r 19 s = 2 then jcW r w ns s else if ai r 19 s = 9 then jcT r w nk nm s else if ai r 19 s = 10 then jcU r w nk nm s else []
/-- and that the next one is never reached -/
def jcl (r : RV) (w nk nm ns s : Nat) : List Nat := jcA r w nk nm ns s ++ jsB r s
def jwN (r : RV) (w nk x : Nat) (o : Option Nat) (i : Nat) : List Nat := match kN r w nk (al r 15 (4 * x + i)) (ai r 16 (4 * x + i)) with
  | none => []
  | some k => lif (decide (¬ o = none) && (chk r w nk k && !und r w nk k (thrO r w nk o))) (keyN (tn (ai r 16 (4 * x + i))) 10 (k + 1))
/-- what judging blames for method m -/
def jwA (r : RV) (w nk nm m : Nat) : List Nat := flr (unL r w nk (bcS r (oN (ai r 17 (w * 12 + m)))) (thrS r w nk (w * 12 + m)) (tn (ai r 10 (w * 12 + m)))) nk 0 ++
  (lif (decide (¬ al r 11 (w * 12 + m) = 0) && decide (abv r w nm (w * 12 + m) = none)) (keyN (tn (ai r 12 (w * 12 + m))) 1 0) ++ flr (jwN r w nk (w * 12 + m) (abv r w nm (w * 12 + m))) (tn (ai r 14 (w * 12 + m))) 0)
theorem flr_count {F f g : Nat → List Nat} (a : Nat) : ∀ m k, (∀ i, k ≤ i → i < k + m → List.count a (F i) = List.count a (f i) + List.count a (g i)) → List.count a (flr F m k) = List.count a (flr f m k) + List.count a (flr g m k) := by
  intro m
  induction m with
  | zero => intro k _; rfl
  | succ m ih =>
    intro k h
    have e1 := h k (Nat.le_refl _) (by omega)
    have e2 := ih (k + 1) (fun i h1 h2 => h i (by omega) (by omega))
    show List.count a (F k ++ flr F m (k + 1)) = List.count a (f k ++ flr f m (k + 1)) + List.count a (g k ++ flr g m (k + 1))
    rw [List.count_append, List.count_append, List.count_append, e1, e2]
    omega
section
variable {R : RV} (C L : Nat → Int32)
theorem prF_pcl (x : Int64) (f : Nat) (o : Option Nat) (p : Bool) : prF (pcl R C L) x f o p = prF R x f o p := prF_of (r := R) (r' := pcl R C L) rfl rfl rfl rfl rfl x f o p
theorem prS_pcl (s : Nat) : prS (pcl R C L) s = prS R s := by
  show (prF (pcl R C L) (al R 24 s) 2048 (oN (ai R 21 s)) false).1 = (prF R (al R 24 s) 2048 (oN (ai R 21 s)) false).1
  rw [prF_pcl]
theorem psS_pcl (s : Nat) : psS (pcl R C L) s = psS R s := by
  show (prF (pcl R C L) (al R 24 s) 2048 (oN (ai R 21 s)) false).2 = (prF R (al R 24 s) 2048 (oN (ai R 21 s)) false).2
  rw [prF_pcl]
theorem prT_pcl (s i : Nat) : prT (pcl R C L) s i = prT R s i := by
  show (prF (pcl R C L) (al R 34 (4 * s + i)) 2048 (oN (ai R 21 s)) false).1 = (prF R (al R 34 (4 * s + i)) 2048 (oN (ai R 21 s)) false).1
  rw [prF_pcl]
theorem stS_pcl (w ns c : Nat) : stS (pcl R C L) w ns c = stS R w ns c := by
  refine fup_cg _ _ _ (fun i x _ _ => ?_)
  show (x || (decide (ai R 19 (w * 120 + i) = 3) && decide (prS (pcl R C L) (w * 120 + i) = some c))) = (x || (decide (ai R 19 (w * 120 + i) = 3) && decide (prS R (w * 120 + i) = some c)))
  rw [prS_pcl]
/-- a statement's mistakes -/
theorem js_split (nm ns s a : Nat) : List.count a (jsA (pcl R C L) (wN R) (nkN R) nm ns s) = List.count a (mpS R s) + List.count a (jcA (pcl R C L) (wN R) (nkN R) nm ns s) := by
  have e19 : ai (pcl R C L) 19 s = ai R 19 s := rfl
  have e25 : ai (pcl R C L) 25 s = ai R 25 s := rfl
  unfold jsA mpS jcA
  rw [prS_pcl, psS_pcl, e19]
  by_cases z1 : ai R 19 s = 1
  · have n2 : ¬ ai R 19 s = 2 := by rw [z1]; decide
    have n3 : ¬ ai R 19 s = 3 := by rw [z1]; decide
    have n7 : ¬ ai R 19 s = 7 := by rw [z1]; decide
    have n9 : ¬ ai R 19 s = 9 := by rw [z1]; decide
    have n10 : ¬ ai R 19 s = 10 := by rw [z1]; decide
    rw [if_pos z1, if_pos z1, if_neg n2, if_neg n3, if_neg n7, if_neg n9, if_neg n10, List.count_nil, Nat.zero_add]
    rfl
  rw [if_neg z1, if_neg z1]
  by_cases z2 : ai R 19 s = 2
  · rw [if_pos z2, if_pos z2, if_pos z2]
    unfold jcW
    rw [prS_pcl, psS_pcl]
    cases prS R s with
    | none => rw [List.count_nil, Nat.add_zero]; rfl
    | some c => rw [List.count_nil, Nat.zero_add]
  rw [if_neg z2, if_neg z2, if_neg z2]
  by_cases z3 : ai R 19 s = 3
  · have n9 : ¬ ai R 19 s = 9 := by rw [z3]; decide
    have n10 : ¬ ai R 19 s = 10 := by rw [z3]; decide
    rw [if_pos z3, if_pos z3, if_neg n9, if_neg n10, List.count_nil, Nat.add_zero]
    rfl
  rw [if_neg z3, if_neg z3]
  by_cases z9 : ai R 19 s = 9
  · have n7 : ¬ ai R 19 s = 7 := by rw [z9]; decide
    rw [if_pos z9, if_neg n7, if_pos z9, if_pos z9]
    have q : List.count a (flr (jtC (pcl R C L) (wN R) (nkN R) s (insC (pcl R C L) (wN R) (nkN R) nm s)) (tn (ai R 32 s)) 0) = List.count a (flr (mpC R s) (tn (ai R 32 s)) 0) + List.count a (flr (fun i => flr (jcK (pcl R C L) (wN R) (nkN R) s i (insC (pcl R C L) (wN R) (nkN R) nm s)) (tn (ai R 36 (4 * s + i))) 0) (tn (ai R 32 s)) 0) := by
      refine flr_count a _ _ (fun i _ _ => ?_)
      have e1 : jtC (pcl R C L) (wN R) (nkN R) s (insC (pcl R C L) (wN R) (nkN R) nm s) i = lif (decide (¬ prT (pcl R C L) s i = none)) (keyN (tn (ai R 35 (4 * s + i))) 2 0) ++ flr (jcL (pcl R C L) (wN R) (nkN R) s i (insC (pcl R C L) (wN R) (nkN R) nm s)) (tn (ai R 36 (4 * s + i))) 0 := rfl
      have e2 : mpC R s i = lif (decide (¬ prT R s i = none)) (keyN (tn (ai R 35 (4 * s + i))) 2 0) ++ flr (unkL (fun j => ai R 38 (4 * (4 * s + i) + j)) (cgK R (wN R) (nkN R) (4 * s + i))) (tn (ai R 36 (4 * s + i))) 0 := rfl
      rw [e1, e2, prT_pcl, List.count_append, List.count_append]
      have := flr_count (F := jcL (pcl R C L) (wN R) (nkN R) s i (insC (pcl R C L) (wN R) (nkN R) nm s)) (f := unkL (fun j => ai R 38 (4 * (4 * s + i) + j)) (cgK R (wN R) (nkN R) (4 * s + i))) (g := jcK (pcl R C L) (wN R) (nkN R) s i (insC (pcl R C L) (wN R) (nkN R) nm s)) a (tn (ai R 36 (4 * s + i))) 0 (fun j _ _ => by
        unfold jcL unkL jcK
        have ec : cgK (pcl R C L) (wN R) (nkN R) (4 * s + i) j = cgK R (wN R) (nkN R) (4 * s + i) j := rfl
        rw [ec]
        cases cgK R (wN R) (nkN R) (4 * s + i) j with
        | none => rw [if_pos rfl, List.count_nil, Nat.add_zero]; rfl
        | some x => rw [if_neg (fun z => by cases z), List.count_nil, Nat.zero_add])
      rw [this]; omega
    show List.count a (jtL (pcl R C L) (wN R) (nkN R) nm s) = _ + List.count a (jcT (pcl R C L) (wN R) (nkN R) nm s)
    have e3 : jtL (pcl R C L) (wN R) (nkN R) nm s = flr (jtN (pcl R C L) (wN R) nm s) (tn (ai R 29 s)) 0 ++ flr (jtC (pcl R C L) (wN R) (nkN R) s (insC (pcl R C L) (wN R) (nkN R) nm s)) (tn (ai R 32 s)) 0 := rfl
    have e4 : jcT (pcl R C L) (wN R) (nkN R) nm s = flr (jtN (pcl R C L) (wN R) nm s) (tn (ai R 29 s)) 0 ++ flr (fun i => flr (jcK (pcl R C L) (wN R) (nkN R) s i (insC (pcl R C L) (wN R) (nkN R) nm s)) (tn (ai R 36 (4 * s + i))) 0) (tn (ai R 32 s)) 0 := rfl
    rw [e3, e4, List.count_append, List.count_append, q]
    omega
  rw [if_neg z9, if_neg z9]
  by_cases z10 : ai R 19 s = 10
  · have n7 : ¬ ai R 19 s = 7 := by rw [z10]; decide
    rw [if_pos z10, if_neg n7, if_neg z9, if_pos z10, if_pos z10]
    show List.count a (flr (jnK (pcl R C L) (wN R) (nkN R) s) (tn (ai R 29 s)) 0 ++ jcU (pcl R C L) (wN R) (nkN R) nm s) = _
    rw [List.count_append]
    congr 1
    refine congrArg (List.count a) (flr_cg _ _ (fun i _ _ => ?_))
    have e : jnK (pcl R C L) (wN R) (nkN R) s i = lif (decide (kN R (wN R) (nkN R) (al R 30 (4 * s + i)) (ai R 31 (4 * s + i)) = none)) (keyN (tn (ai R 31 (4 * s + i))) 1 0) := rfl
    rw [e]
    unfold unkL lif
    by_cases y : kN R (wN R) (nkN R) (al R 30 (4 * s + i)) (ai R 31 (4 * s + i)) = none
    · rw [if_pos y, if_pos (decide_eq_true y)]
    · rw [if_neg y, if_neg (by rw [decide_eq_false y]; decide)]
  by_cases z7 : ai R 19 s = 7
  · simp only [if_neg z9, if_neg z10, if_pos z7]
    rw [List.count_nil, Nat.add_zero, tgS_pcl]
    rfl
  · simp only [if_neg z9, if_neg z10, if_neg z7]
    rfl
/-- a method's mistakes -/
theorem jm_split (nm m a : Nat) (hnm : nm = nmN R) : List.count a (jmL (pcl R C L) (wN R) (nkN R) nm m) = List.count a (mpW R m) + List.count a (jwA (pcl R C L) (wN R) (nkN R) nm m) := by
  have e1 : jmL (pcl R C L) (wN R) (nkN R) nm m = lif (decide (¬ mN R (wN R) nm (al R 9 (wN R * 12 + m)) = some m)) (keyN (tn (ai R 10 (wN R * 12 + m))) 2 0) ++
    (lif (decide (¬ al R 11 (wN R * 12 + m) = 0) && decide (abv (pcl R C L) (wN R) nm (wN R * 12 + m) = none)) (keyN (tn (ai R 12 (wN R * 12 + m))) 1 0) ++
    (flr (jmN (pcl R C L) (wN R) (nkN R) (wN R * 12 + m) (abv (pcl R C L) (wN R) nm (wN R * 12 + m))) (tn (ai R 14 (wN R * 12 + m))) 0 ++
    flr (unL (pcl R C L) (wN R) (nkN R) (bcS (pcl R C L) (oN (ai R 17 (wN R * 12 + m)))) (thrS (pcl R C L) (wN R) (nkN R) (wN R * 12 + m)) (tn (ai R 10 (wN R * 12 + m)))) (nkN R) 0)) := rfl
  have e2 : jwA (pcl R C L) (wN R) (nkN R) nm m = flr (unL (pcl R C L) (wN R) (nkN R) (bcS (pcl R C L) (oN (ai R 17 (wN R * 12 + m)))) (thrS (pcl R C L) (wN R) (nkN R) (wN R * 12 + m)) (tn (ai R 10 (wN R * 12 + m)))) (nkN R) 0 ++
    (lif (decide (¬ al R 11 (wN R * 12 + m) = 0) && decide (abv (pcl R C L) (wN R) nm (wN R * 12 + m) = none)) (keyN (tn (ai R 12 (wN R * 12 + m))) 1 0) ++ flr (jwN (pcl R C L) (wN R) (nkN R) (wN R * 12 + m) (abv (pcl R C L) (wN R) nm (wN R * 12 + m))) (tn (ai R 14 (wN R * 12 + m))) 0) := rfl
  have q := flr_count (F := jmN (pcl R C L) (wN R) (nkN R) (wN R * 12 + m) (abv (pcl R C L) (wN R) nm (wN R * 12 + m))) (f := unkL (fun i => ai R 16 (4 * (wN R * 12 + m) + i)) (fun i => kN R (wN R) (nkN R) (al R 15 (4 * (wN R * 12 + m) + i)) (ai R 16 (4 * (wN R * 12 + m) + i)))) (g := jwN (pcl R C L) (wN R) (nkN R) (wN R * 12 + m) (abv (pcl R C L) (wN R) nm (wN R * 12 + m))) a (tn (ai R 14 (wN R * 12 + m))) 0 (fun i _ _ => by
    unfold jmN unkL jwN
    dsimp only
    have ec : kN (pcl R C L) (wN R) (nkN R) (al (pcl R C L) 15 (4 * (wN R * 12 + m) + i)) (ai (pcl R C L) 16 (4 * (wN R * 12 + m) + i)) = kN R (wN R) (nkN R) (al R 15 (4 * (wN R * 12 + m) + i)) (ai R 16 (4 * (wN R * 12 + m) + i)) := rfl
    rw [ec]
    by_cases e : kN R (wN R) (nkN R) (al R 15 (4 * (wN R * 12 + m) + i)) (ai R 16 (4 * (wN R * 12 + m) + i)) = none
    · rw [if_pos e, e, List.count_nil, Nat.add_zero]; rfl
    · rw [if_neg e, List.count_nil, Nat.zero_add]
      cases e2 : kN R (wN R) (nkN R) (al R 15 (4 * (wN R * 12 + m) + i)) (ai R 16 (4 * (wN R * 12 + m) + i)) with
      | none => exact absurd e2 e
      | some x => rfl)
  unfold mpW
  rw [e1, e2, ← hnm]
  simp only [List.count_append]
  rw [q]
  omega
end
