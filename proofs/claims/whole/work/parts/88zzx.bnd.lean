/-! How many mistakes there can be; the class's are the reference's -/
theorem lif_len (b : Bool) (e : Nat) : (lif b e).length ≤ 1 := by cases b <;> simp [lif]
theorem flr_sum {f : Nat → List Nat} {g : Nat → Nat} : ∀ m k, (∀ i, k ≤ i → i < k + m → (f i).length ≤ g i) → (flr f m k).length ≤ sumN g m k := by
  intro m
  induction m with
  | zero => intro k _; exact Nat.le_refl _
  | succ m ih =>
    intro k h
    rw [flr, sumN, List.length_append]
    exact Nat.add_le_add (h k (Nat.le_refl _) (by omega)) (ih (k + 1) (fun i h1 h2 => h i (by omega) (by omega)))
theorem sum_le {f g : Nat → Nat} : ∀ m k, (∀ i, k ≤ i → i < k + m → f i ≤ g i) → sumN f m k ≤ sumN g m k := by
  intro m
  induction m with
  | zero => intro k _; exact Nat.le_refl _
  | succ m ih =>
    intro k h
    rw [sumN, sumN]
    exact Nat.add_le_add (h k (Nat.le_refl _) (by omega)) (ih (k + 1) (fun i h1 h2 => h i (by omega) (by omega)))
theorem sum_const (c : Nat) : ∀ m k, sumN (fun _ => c) m k = c * m := by
  intro m
  induction m with
  | zero => intro k; rfl
  | succ m ih => intro k; rw [sumN, ih, Nat.mul_succ]; omega
theorem sum_plus (f g : Nat → Nat) : ∀ m k, sumN (fun i => f i + g i) m k = sumN f m k + sumN g m k := by
  intro m
  induction m with
  | zero => intro k; rfl
  | succ m ih => intro k; rw [sumN, sumN, sumN, ih]; omega
theorem flr_c {f : Nat → List Nat} (c : Nat) (m k : Nat) (h : ∀ i, k ≤ i → i < k + m → (f i).length ≤ c) : (flr f m k).length ≤ c * m := by
  rw [← sum_const c m k]; exact flr_sum m k h
/-- at most one -/
theorem sum_one {P : Nat → Prop} [DecidablePred P] : ∀ m k, (∀ i j, k ≤ i → i < k + m → k ≤ j → j < k + m → P i → P j → i = j) → sumN (fun i => if P i then 1 else 0) m k ≤ 1 := by
  intro m
  induction m with
  | zero => intro k _; exact Nat.zero_le _
  | succ m ih =>
    intro k h
    rw [sumN]
    by_cases y : P k
    · rw [if_pos y]
      have : sumN (fun i => if P i then 1 else 0) m (k + 1) ≤ sumN (fun _ => 0) m (k + 1) := sum_le _ _ (fun i h1 h2 => by
        rw [if_neg (fun z => by have := h k i (Nat.le_refl _) (by omega) (by omega) (by omega) y z; omega)]
        exact Nat.le_refl _)
      rw [sum_const] at this
      omega
    · rw [if_neg y]
      have := ih (k + 1) (fun i j h1 h2 h3 h4 => h i j (by omega) (by omega) (by omega) (by omega))
      omega
/-- as many as different numbers -/
theorem sum_inj {P : Nat → Prop} [DecidablePred P] (f : Nat → Nat) {m k lo : Nat} (h0 : ∀ i, k ≤ i → i < k + m → P i → lo ≤ f i) (hi : ∀ i j, k ≤ i → i < k + m → k ≤ j → j < k + m → P i → P j → f i = f j → i = j) : ∀ n, sumN (fun i => if P i ∧ f i < lo + n then 1 else 0) m k ≤ n := by
  intro n
  induction n with
  | zero =>
    have : sumN (fun i => if P i ∧ f i < lo + 0 then 1 else 0) m k ≤ sumN (fun _ => 0) m k := sum_le _ _ (fun i h1 h2 => by
      rw [if_neg (fun z => by have := h0 i h1 h2 z.1; omega)]
      exact Nat.le_refl _)
    rw [sum_const] at this
    omega
  | succ n ih =>
    have e : sumN (fun i => if P i ∧ f i < lo + (n + 1) then 1 else 0) m k ≤ sumN (fun i => (if P i ∧ f i < lo + n then 1 else 0) + (if P i ∧ f i = lo + n then 1 else 0)) m k := sum_le _ _ (fun i h1 h2 => by
      by_cases y : P i
      · by_cases z : f i < lo + n
        · rw [if_pos ⟨y, by omega⟩, if_pos ⟨y, z⟩]; omega
        · by_cases z2 : f i = lo + n
          · rw [if_pos ⟨y, by omega⟩, if_neg (fun q => z q.2), if_pos ⟨y, z2⟩]; omega
          · rw [if_neg (fun q => by have := q.2; omega)]; omega
      · rw [if_neg (fun q => y q.1)]; omega)
    rw [sum_plus] at e
    have o := sum_one (P := fun i => P i ∧ f i = lo + n) m k (fun i j h1 h2 h3 h4 p q => hi i j h1 h2 h3 h4 p.1 q.1 (by rw [p.2, q.2]))
    omega
section
variable {R : RV} {G : Nat → Nat → Nat} {nm nk : Nat} {par : Nat → Nat} {C L : Nat → Int32}
theorem un_len (K : KEQ R nk par) (c t : Int32) (p : Nat) : (flr (unL (pcl R C L) (wN R) nk c t p) nk 0).length ≤ 14 := by
  have h16 := K.2.1
  have h4 := K.2.2.1
  have z : ∀ k, k = 2 ∨ k = 3 → unL (pcl R C L) (wN R) nk c t p k = [] := fun k hk => by
    have e : chk (pcl R C L) (wN R) nk k = false := by
      rw [← K.ck (C := C) (L := L) (by omega)]
      show (!belP par k 2 && !belP par k 3) = false
      rcases hk with hk | hk
      · rw [hk, belP_rf]; rfl
      · rw [hk, belP_rf, Bool.not_true, Bool.and_false]
    unfold unL
    rw [e, Bool.false_and, Bool.and_false]; rfl
  have one : ∀ i, (unL (pcl R C L) (wN R) nk c t p i).length ≤ 1 := fun i => lif_len _ _
  have e : flr (unL (pcl R C L) (wN R) nk c t p) nk 0 = flr (unL (pcl R C L) (wN R) nk c t p) (2 + (2 + (nk - 4))) 0 := congrArg (fun n => flr (unL (pcl R C L) (wN R) nk c t p) n 0) (by omega)
  rw [e, flr_add, flr_add, List.length_append, List.length_append]
  have a1 := flr_c (f := unL (pcl R C L) (wN R) nk c t p) 1 2 0 (fun i _ _ => one i)
  have a2 : flr (unL (pcl R C L) (wN R) nk c t p) 2 (0 + 2) = [] := flr_nil _ _ (fun i h1 h2 => z i (by omega))
  have a3 := flr_c (f := unL (pcl R C L) (wN R) nk c t p) 1 (nk - 4) (0 + 2 + 2) (fun i _ _ => one i)
  rw [a2, List.length_nil]
  omega
theorem jsA_len (K : KEQ R nk par) {s : Nat} (n32 : tn (ai R 32 s) ≤ 4) (n36 : ∀ i, i < tn (ai R 32 s) → tn (ai R 36 (4 * s + i)) ≤ 4) : (jsA (pcl R C L) (wN R) nk nm (nsC R) s).length ≤ wtS R s + 12 + (if ai R 19 s = 10 then 2 else 0) := by
  unfold jsA
  rw [show ai (pcl R C L) 19 s = ai R 19 s from rfl]
  by_cases z1 : ai R 19 s = 1
  · rw [if_pos z1]
    have : ∀ (o : Option Nat) (f : Nat → List Nat) (a : List Nat), a.length ≤ 1 → (∀ j, (f j).length ≤ 1) → (match o with | none => a | some j => f j).length ≤ 1 := fun o f a h1 h2 => by
      cases o with
      | none => exact h1
      | some j => exact h2 j
    have q := this (mN (pcl R C L) (wN R) nm (al (pcl R C L) 24 s)) (fun j => match oN (ai (pcl R C L) 26 s) with
      | none => []
      | some b => lif (decide (ai (pcl R C L) 13 (wN R * 12 + j) = 0)) (keyN (tn (ai (pcl R C L) 43 b)) 11 0)) [keyN (tn (ai (pcl R C L) 25 s)) 1 0] (Nat.le_refl _) (fun j => this _ _ [] (Nat.zero_le _) (fun b => lif_len _ _))
    exact Nat.le_trans q (by omega)
  rw [if_neg z1]
  by_cases z2 : ai R 19 s = 2
  · rw [if_pos z2]
    have : ∀ o : Option Nat, (match o with | none => lif (decide (kN (pcl R C L) (wN R) nk (al (pcl R C L) 24 s) (ai (pcl R C L) 25 s) = none)) (keyN (tn (ai (pcl R C L) 25 s)) 1 0) | some c => lif (psS (pcl R C L) s && stS (pcl R C L) (wN R) (nsC R) c) (keyN (tn (ai (pcl R C L) 25 s)) 12 0)).length ≤ 1 := fun o => by
      cases o <;> exact lif_len _ _
    exact Nat.le_trans (this (prS (pcl R C L) s)) (by omega)
  rw [if_neg z2]
  by_cases z3 : ai R 19 s = 3
  · rw [if_pos z3]
    have : (jsS (pcl R C L) s (prS (pcl R C L) s) (psS (pcl R C L) s)).length ≤ 2 := by
      unfold jsS
      cases prS (pcl R C L) s with
      | none => exact Nat.le_succ _
      | some c =>
        show (lif _ _ ++ lif _ _).length ≤ 2
        rw [List.length_append]
        exact Nat.add_le_add (lif_len _ _) (lif_len _ _)
    omega
  rw [if_neg z3]
  by_cases z9 : ai R 19 s = 9
  · rw [if_pos z9]
    have n10 : ¬ ai R 19 s = 10 := by rw [z9]; decide
    rw [if_neg n10]
    show (flr (jtN (pcl R C L) (wN R) nm s) (tn (ai R 29 s)) 0 ++ flr (jtC (pcl R C L) (wN R) nk s (insC (pcl R C L) (wN R) nk nm s)) (tn (ai R 32 s)) 0).length ≤ _
    rw [List.length_append]
    have a1 := flr_c (f := jtN (pcl R C L) (wN R) nm s) 1 (tn (ai R 29 s)) 0 (fun i _ _ => lif_len _ _)
    have a2 := flr_sum (f := jtC (pcl R C L) (wN R) nk s (insC (pcl R C L) (wN R) nk nm s)) (g := fun i => wtC R s i + 2) (tn (ai R 32 s)) 0 (fun i _ hi => by
      have b1 := lif_len (decide (¬ prT (pcl R C L) s i = none)) (keyN (tn (ai R 35 (4 * s + i))) 2 0)
      have b2 := flr_c (f := jcL (pcl R C L) (wN R) nk s i (insC (pcl R C L) (wN R) nk nm s)) 3 (tn (ai R 36 (4 * s + i))) 0 (fun j _ _ => by
        unfold jcL
        cases cgK (pcl R C L) (wN R) nk (4 * s + i) j with
        | none => show 1 ≤ 3; omega
        | some x =>
          show (lif _ _ ++ (lif _ _ ++ lif _ _)).length ≤ 3
          rw [List.length_append, List.length_append]
          exact Nat.add_le_add (lif_len _ _) (Nat.add_le_add (lif_len _ _) (lif_len _ _)))
      show (lif (decide (¬ prT (pcl R C L) s i = none)) (keyN (tn (ai R 35 (4 * s + i))) 2 0) ++ flr (jcL (pcl R C L) (wN R) nk s i (insC (pcl R C L) (wN R) nk nm s)) (tn (ai R 36 (4 * s + i))) 0).length ≤ 2 * tn (ai R 36 (4 * s + i)) + 3 + 2
      rw [List.length_append]
      have := n36 i (by omega)
      omega)
    rw [sum_plus, sum_const] at a2
    unfold wtS
    omega
  rw [if_neg z9]
  by_cases z10 : ai R 19 s = 10
  · rw [if_pos z10, if_pos z10]
    show (flr (jnK (pcl R C L) (wN R) nk s) (tn (ai R 29 s)) 0 ++ flr (unL (pcl R C L) (wN R) nk (bcS (pcl R C L) (oN (ai R 26 s))) (nmS (pcl R C L) (wN R) nk nm s) (tn (ai R 20 s))) nk 0).length ≤ _
    rw [List.length_append]
    have a1 := flr_c (f := jnK (pcl R C L) (wN R) nk s) 1 (tn (ai R 29 s)) 0 (fun i _ _ => lif_len _ _)
    have a2 := un_len (C := C) (L := L) K (bcS (pcl R C L) (oN (ai R 26 s))) (nmS (pcl R C L) (wN R) nk nm s) (tn (ai R 20 s))
    unfold wtS
    omega
  rw [if_neg z10]
  by_cases z7 : ai R 19 s = 7
  · rw [if_pos z7]
    have := lif_len (decide (tgS (pcl R C L) s = none)) (keyN (tn (ai (pcl R C L) 20 s)) 8 0)
    omega
  · rw [if_neg z7]; exact Nat.zero_le _
theorem jsB_len (r : RV) (s : Nat) : (jsB r s).length ≤ 1 := by
  unfold jsB
  cases oN (ai r 23 s) with
  | none => exact Nat.zero_le _
  | some t => exact lif_len _ _
theorem jmL_len (K : KEQ R nk par) {m : Nat} (n14 : tn (ai R 14 (wN R * 12 + m)) ≤ 4) : (jmL (pcl R C L) (wN R) nk nm m).length ≤ 20 := by
  have a1 := lif_len (decide (¬ mN (pcl R C L) (wN R) nm (al (pcl R C L) 9 (wN R * 12 + m)) = some m)) (keyN (tn (ai R 10 (wN R * 12 + m))) 2 0)
  have a2 := lif_len (decide (¬ al (pcl R C L) 11 (wN R * 12 + m) = 0) && decide (abv (pcl R C L) (wN R) nm (wN R * 12 + m) = none)) (keyN (tn (ai R 12 (wN R * 12 + m))) 1 0)
  have a3 := flr_c (f := jmN (pcl R C L) (wN R) nk (wN R * 12 + m) (abv (pcl R C L) (wN R) nm (wN R * 12 + m))) 1 (tn (ai R 14 (wN R * 12 + m))) 0 (fun i _ _ => by
    unfold jmN
    cases kN (pcl R C L) (wN R) nk (al (pcl R C L) 15 (4 * (wN R * 12 + m) + i)) (ai (pcl R C L) 16 (4 * (wN R * 12 + m) + i)) with
    | none => exact Nat.le_refl _
    | some k => exact lif_len _ _)
  have a4 := un_len (C := C) (L := L) K (bcS (pcl R C L) (oN (ai R 17 (wN R * 12 + m)))) (thrS (pcl R C L) (wN R) nk (wN R * 12 + m)) (tn (ai R 10 (wN R * 12 + m)))
  show (lif (decide (¬ mN (pcl R C L) (wN R) nm (al (pcl R C L) 9 (wN R * 12 + m)) = some m)) (keyN (tn (ai R 10 (wN R * 12 + m))) 2 0) ++
    (lif (decide (¬ al (pcl R C L) 11 (wN R * 12 + m) = 0) && decide (abv (pcl R C L) (wN R) nm (wN R * 12 + m) = none)) (keyN (tn (ai R 12 (wN R * 12 + m))) 1 0) ++
    (flr (jmN (pcl R C L) (wN R) nk (wN R * 12 + m) (abv (pcl R C L) (wN R) nm (wN R * 12 + m))) (tn (ai R 14 (wN R * 12 + m))) 0 ++
    flr (unL (pcl R C L) (wN R) nk (bcS (pcl R C L) (oN (ai R 17 (wN R * 12 + m)))) (thrS (pcl R C L) (wN R) nk (wN R * 12 + m)) (tn (ai R 10 (wN R * 12 + m)))) nk 0))).length ≤ 20
  simp only [List.length_append]
  omega
/-- all mistakes -/
theorem jL_len (T : TRE R G nm) (K : KEQ R nk par) (n12 : nm ≤ 12) (n14 : ∀ m, m < nm → tn (ai R 14 (wN R * 12 + m)) ≤ 4) (ns120 : nsC R ≤ 120) (ws : sumN (wtS R) (nsC R) (wN R * 120) + 2 * nbC R ≤ 2000) : (jL (pcl R C L) (wN R) nk nm (nsC R)).length ≤ 3900 := by
  have h16 := K.2.1
  have er : rsN R = wN R * 120 + nsC R := rfl
  have eb : nbN R = wN R * 1024 + nbC R := rfl
  have s3 := T.2.2.2.2.2
  have s2 := T.2.2.2.2.1
  have a1 := flr_c (f := jkL (pcl R C L) (wN R) nk) 2 (nk - 4) 4 (fun i _ _ => by
    unfold jkL
    rw [List.length_append]
    exact Nat.add_le_add (lif_len _ _) (lif_len _ _))
  have a2 := flr_c (f := jmL (pcl R C L) (wN R) nk nm) 20 nm 0 (fun m _ hm => jmL_len K (n14 m (by omega)))
  have a3 := flr_sum (f := fun k => jsL (pcl R C L) (wN R) nk nm (nsC R) (wN R * 120 + k)) (g := fun k => wtS R (wN R * 120 + k) + 13 + (if ai R 19 (wN R * 120 + k) = 10 then 2 else 0)) (nsC R) 0 (fun k _ hk => by
    obtain ⟨⟨w1, w2, w3, w4, w5, w6⟩, wk⟩ := T.2.1 (wN R * 120 + k) (by omega) (by omega)
    have q1 := jsA_len (C := C) (L := L) (nm := nm) K (s := wN R * 120 + k) w2.2 (fun i hi => (w6.2.2.2 i hi).1.2)
    have q2 := jsB_len (pcl R C L) (wN R * 120 + k)
    show (jsA (pcl R C L) (wN R) nk nm (nsC R) (wN R * 120 + k) ++ jsB (pcl R C L) (wN R * 120 + k)).length ≤ _
    rw [List.length_append]
    omega)
  have sh : ∀ (f : Nat → Nat) a m k, sumN (fun i => f (a + i)) m k = sumN f m (a + k) := fun f a m => by
    induction m with
    | zero => intro k; rfl
    | succ m ih => intro k; rw [sumN, sumN, ih, show a + k + 1 = a + (k + 1) by omega]
  have run : sumN (fun s => if ai R 19 s = 10 then 2 else 0) (nsC R) (wN R * 120) ≤ 2 * nbC R := by
    have q := sum_inj (P := fun s => ai R 19 s = 10) (fun s => tn (ai R 26 s)) (m := nsC R) (k := wN R * 120) (lo := wN R * 1024) (fun s h1 h2 h10 => ?_) (fun s t h1 h2 h3 h4 p q e => ?_) (nbC R)
    · have : sumN (fun s => if ai R 19 s = 10 then 2 else 0) (nsC R) (wN R * 120) ≤ sumN (fun s => (if ai R 19 s = 10 ∧ tn (ai R 26 s) < wN R * 1024 + nbC R then 1 else 0) + (if ai R 19 s = 10 ∧ tn (ai R 26 s) < wN R * 1024 + nbC R then 1 else 0)) (nsC R) (wN R * 120) := sum_le _ _ (fun s h1 h2 => by
        by_cases y : ai R 19 s = 10
        · obtain ⟨⟨w1, w2, w3, w4, w5, w6⟩, wk⟩ := T.2.1 s (by omega) (by omega)
          obtain ⟨k, k1, k2, b6, -, -, -, -, -, n26, -⟩ := w5
          have k10 : k = 10 := nI_inj (by omega) (by omega) (by rw [← k1]; exact y)
          have e : oN (ai R 26 s) = some (tn (ai R 26 s)) := by unfold oN; rw [if_neg (n26 (by omega))]
          have := b6.some s3 e
          rw [if_pos y, if_pos ⟨y, by omega⟩]
          omega
        · rw [if_neg y, if_neg (fun z => y z.1)]; omega)
      rw [sum_plus] at this
      omega
    · obtain ⟨⟨w1, w2, w3, w4, w5, w6⟩, wk⟩ := T.2.1 s (by omega) (by omega)
      obtain ⟨k, k1, k2, b6, -, -, -, -, -, n26, -⟩ := w5
      have k10 : k = 10 := nI_inj (by omega) (by omega) (by rw [← k1]; exact h10)
      have e : oN (ai R 26 s) = some (tn (ai R 26 s)) := by unfold oN; rw [if_neg (n26 (by omega))]
      exact (b6.some s3 e).2.1
    · have hs : SRG R s := ⟨h1, by omega⟩
      have ht : SRG R t := ⟨h3, by omega⟩
      obtain ⟨⟨w1, w2, w3, w4, w5, w6⟩, wk⟩ := T.2.1 s hs.1 hs.2
      obtain ⟨k, k1, k2, b6, -, -, -, -, -, n26, -⟩ := w5
      have k10 : k = 10 := nI_inj (by omega) (by omega) (by rw [← k1]; exact p)
      have e1 : oN (ai R 26 s) = some (tn (ai R 26 s)) := by unfold oN; rw [if_neg (n26 (by omega))]
      obtain ⟨⟨v1, v2, v3, v4, v5, v6⟩, vk⟩ := T.2.1 t ht.1 ht.2
      obtain ⟨k', k1', k2', b6', -, -, -, -, -, n26', -⟩ := v5
      have k10' : k' = 10 := nI_inj (by omega) (by omega) (by rw [← k1']; exact q)
      have e2 : oN (ai R 26 t) = some (tn (ai R 26 t)) := by unfold oN; rw [if_neg (n26' (by omega))]
      have m1 := kid26 e1
      have m2 := kid26 e2
      rw [← e] at m2
      exact kid_own T hs ht m1 m2
  have e3 : sumN (fun k => wtS R (wN R * 120 + k) + 13 + (if ai R 19 (wN R * 120 + k) = 10 then 2 else 0)) (nsC R) 0 = sumN (wtS R) (nsC R) (wN R * 120) + 13 * nsC R + sumN (fun s => if ai R 19 s = 10 then 2 else 0) (nsC R) (wN R * 120) := by
    rw [sum_plus (fun k => wtS R (wN R * 120 + k) + 13) (fun k => if ai R 19 (wN R * 120 + k) = 10 then 2 else 0), sum_plus (fun k => wtS R (wN R * 120 + k)) (fun _ => 13), sum_const, sh (wtS R), sh (fun s => if ai R 19 s = 10 then 2 else 0), Nat.add_zero]
  rw [e3] at a3
  unfold jL
  rw [List.length_append, List.length_append]
  omega
/-- the judging's list -/
def jdL (R : RV) (C L : Nat → Int32) (G : Nat → Nat → Nat) (nk nm : Nat) : List Nat := flr (fun m => jbO R C L G nk nm (oN (ai R 17 (wN R * 12 + m))) ++ jwA (pcl R C L) (wN R) nk nm m) nm 0
theorem range_opt (f : Nat → List Nat) (o : Nat → Option Nat) : ∀ n, ((((List.range n).flatMap (fun m => (o m).toList)).map f).flatten) = flr (fun m => match o m with | none => [] | some b => f b) n 0 := by
  intro n
  induction n with
  | zero => rfl
  | succ n ih =>
    rw [List.range_succ, List.flatMap_append, List.map_append, List.flatten_append, ih, flr_add, Nat.zero_add]
    congr 1
    show ((((o n).toList ++ [])).map f).flatten = (match o n with | none => [] | some b => f b) ++ []
    rw [List.append_nil, List.append_nil]
    cases o n with
    | none => rfl
    | some b => exact List.append_nil _
/-- the reading's mistakes and the judging's are the reference's -/
theorem jL_split (T : TRE R G nm) (hnk : nk = nkN R) (hnm : nm = nmN R) (a : Nat) : List.count a (jL (pcl R C L) (wN R) nk nm (nsC R)) = List.count a (jdL R C L G nk nm) + List.count a (flr (jkL R (wN R) (nkN R)) (nk - 4) 4 ++ (flr (mpW R) nm 0 ++ flr (mpS R) (nsC R) (wN R * 120))) := by
  have er : rsN R = wN R * 120 + nsC R := rfl
  have b1 := T.1.1.flr (jcl (pcl R C L) (wN R) nk nm (nsC R))
  rw [er, Nat.add_sub_cancel_left] at b1
  unfold bods at b1
  rw [range_opt] at b1
  have e1 : flr (fun m => match oN (ai R 17 (wN R * 12 + m)) with | none => [] | some b => flr (jcl (pcl R C L) (wN R) nk nm (nsC R)) (G 5 b - G 4 b) (G 4 b)) nm 0 = flr (fun m => jbO R C L G nk nm (oN (ai R 17 (wN R * 12 + m)))) nm 0 := flr_cg _ _ (fun m _ _ => by
    unfold jbO jbL
    cases oN (ai R 17 (wN R * 12 + m)) <;> rfl)
  rw [e1] at b1
  have c1 := flr_count (F := fun m => jbO R C L G nk nm (oN (ai R 17 (wN R * 12 + m))) ++ jwA (pcl R C L) (wN R) nk nm m) (f := fun m => jbO R C L G nk nm (oN (ai R 17 (wN R * 12 + m)))) (g := jwA (pcl R C L) (wN R) nk nm) a nm 0 (fun i _ _ => List.count_append ..)
  have c2 := flr_count (F := jmL (pcl R C L) (wN R) nk nm) (f := mpW R) (g := jwA (pcl R C L) (wN R) nk nm) a nm 0 (fun i _ _ => by rw [hnk]; exact jm_split C L nm i a hnm)
  have sh : ∀ (f : Nat → List Nat) b m k, flr (fun i => f (b + i)) m k = flr f m (b + k) := fun f b m => by
    induction m with
    | zero => intro k; rfl
    | succ m ih => intro k; rw [flr, flr, ih, show b + k + 1 = b + (k + 1) by omega]
  have c3 : flr (fun k => jsL (pcl R C L) (wN R) nk nm (nsC R) (wN R * 120 + k)) (nsC R) 0 = flr (jsL (pcl R C L) (wN R) nk nm (nsC R)) (nsC R) (wN R * 120) := by
    rw [sh (jsL (pcl R C L) (wN R) nk nm (nsC R)), Nat.add_zero]
  have c4 := flr_count (F := jsL (pcl R C L) (wN R) nk nm (nsC R)) (f := mpS R) (g := jcl (pcl R C L) (wN R) nk nm (nsC R)) a (nsC R) (wN R * 120) (fun i _ _ => by
    show List.count a (jsA (pcl R C L) (wN R) nk nm (nsC R) i ++ jsB (pcl R C L) i) = List.count a (mpS R i) + List.count a (jcA (pcl R C L) (wN R) nk nm (nsC R) i ++ jsB (pcl R C L) i)
    rw [List.count_append, List.count_append, hnk, js_split C L nm (nsC R) i a]
    omega)
  have c5 : flr (jkL (pcl R C L) (wN R) nk) (nk - 4) 4 = flr (jkL R (wN R) (nkN R)) (nk - 4) 4 := by rw [hnk]; rfl
  unfold jL jdL
  rw [c3, c5]
  simp only [List.count_append]
  rw [c1, c2, c4, b1]
  omega
end
theorem le_perm : ∀ {l l' : List Nat}, leL l → leL l' → l.Perm l' → l = l' := by
  intro l
  induction l with
  | nil => intro l' _ _ p; exact (List.Perm.nil_eq p)
  | cons x l ih =>
    intro l' h1 h2 p
    cases l' with
    | nil => exact absurd (p.length_eq) (by simp)
    | cons y l' =>
      unfold leL at h1 h2
      rw [List.pairwise_cons] at h1 h2
      have m1 : x ∈ y :: l' := p.mem_iff.mp List.mem_cons_self
      have m2 : y ∈ x :: l := p.mem_iff.mpr List.mem_cons_self
      have e : x = y := by
        rcases List.mem_cons.mp m1 with z | z
        · exact z
        · rcases List.mem_cons.mp m2 with z2 | z2
          · exact z2.symm
          · have := h1.1 y z2
            have := h2.1 x z
            omega
      subst e
      rw [ih h1.2 h2.2 ((List.perm_cons x).mp p)]
