/-! How many statements, blocks and mistakes a text of so many bytes can have -/
def NSB (r : RV) : Prop := nsC r + nbC r ≤ qN r + dN r
theorem nsb_turn {x : RV} (A : RIL x) (O : OST x (stpF x)) (W : OW (AT x) x (stpF x)) (p : NSB x) : NSB (stpF x) := by
  obtain ⟨o1, o2, o3, ⟨o4, o4'⟩, k, hk, o5⟩ := O
  have ew : wN (stpF x) = wN x := by unfold wN; rw [o1]
  have e1 : rsN (stpF x) = wN x * 120 + nsC (stpF x) := by rw [← ew]; rfl
  have e2 : nbN (stpF x) = wN x * 1024 + nbC (stpF x) := by rw [← ew]; rfl
  have e3 : rsN x = wN x * 120 + nsC x := rfl
  have e4 : nbN x = wN x * 1024 + nbC x := rfl
  unfold NSB at p ⊢
  rcases hk with ⟨hk, -⟩ | ⟨hk, d1⟩
  · rcases o5 with ⟨q1, -, q2⟩ | ⟨q1, -, -, q2, -⟩
    · omega
    · omega
  · have ns : rsN (stpF x) = rsN x := by
      have n : ¬ AT x 18 (wN x) := fun h => by
        have d0' : ¬ gi x 1455 = 0 := fun z => by
          have : dN x = 0 := by unfold dN; rw [z]; rfl
          omega
        unfold AT at h
        rcases h with h | h | h | ⟨d0, h⟩ | ⟨d0, d1', h⟩ | ⟨d0, d1', n0, h⟩
        · omega
        · omega
        · omega
        · exact d0' d0
        · exact d1' d1
        · omega
      have := (W 18 _ n).1
      unfold rsN; rw [ew, this]
    rcases o5 with ⟨q1, -, q2⟩ | ⟨q1, -, -, q2, -⟩
    · omega
    · omega
theorem nsb_en {r R : RV} (E : ENR r R) (A : RIL r) (p : NSB r) : NSB R := (en_ind (P := fun x => NSB x) (fun x A _ _ _ O W p => nsb_turn A O W p) E A p).1
section
variable {R : RV} {G : Nat → Nat → Nat} {nm nk : Nat} {par : Nat → Nat} {C L : Nat → Int32}
theorem jsA_len2 (K : KEQ R nk par) {s : Nat} : (jsA (pcl R C L) (wN R) nk nm (nsC R) s).length ≤ 2 * wtS R s + 2 + (if ai R 19 s = 10 then 12 else 0) := by
  unfold jsA
  rw [show ai (pcl R C L) 19 s = ai R 19 s from rfl]
  by_cases z1 : ai R 19 s = 1
  · rw [if_pos z1]
    have : ∀ (o : Option Nat) (f : Nat → List Nat) (a : List Nat), a.length ≤ 1 → (∀ j, (f j).length ≤ 1) → (match o with | none => a | some j => f j).length ≤ 1 := fun o f a h1 h2 => by
      cases o with
      | none => exact h1
      | some j => exact h2 j
    have q := this (mN (pcl R C L) (wN R) nm (al (pcl R C L) 24 s)) (fun j => match oN (ai (pcl R C L) 26 s) with
      | none => []
      | some b => lif (decide (ai (pcl R C L) 13 (wN R * 12 + j) = 0)) (keyN (tn (ai (pcl R C L) 43 b)) 11 0)) [keyN (tn (ai (pcl R C L) 25 s)) 1 0] (Nat.le_refl _) (fun j => this _ _ [] (Nat.zero_le _) (fun b => lif_len _ _))
    exact Nat.le_trans q (by omega)
  rw [if_neg z1]
  by_cases z2 : ai R 19 s = 2
  · rw [if_pos z2]
    have : ∀ o : Option Nat, (match o with | none => lif (decide (kN (pcl R C L) (wN R) nk (al (pcl R C L) 24 s) (ai (pcl R C L) 25 s) = none)) (keyN (tn (ai (pcl R C L) 25 s)) 1 0) | some c => lif (psS (pcl R C L) s && stS (pcl R C L) (wN R) (nsC R) c) (keyN (tn (ai (pcl R C L) 25 s)) 12 0)).length ≤ 1 := fun o => by
      cases o <;> exact lif_len _ _
    exact Nat.le_trans (this (prS (pcl R C L) s)) (by omega)
  rw [if_neg z2]
  by_cases z3 : ai R 19 s = 3
  · rw [if_pos z3]
    have : (jsS (pcl R C L) s (prS (pcl R C L) s) (psS (pcl R C L) s)).length ≤ 2 := by
      unfold jsS
      cases prS (pcl R C L) s with
      | none => exact Nat.le_succ _
      | some c =>
        show (lif _ _ ++ lif _ _).length ≤ 2
        rw [List.length_append]
        exact Nat.add_le_add (lif_len _ _) (lif_len _ _)
    omega
  rw [if_neg z3]
  by_cases z9 : ai R 19 s = 9
  · rw [if_pos z9]
    have n10 : ¬ ai R 19 s = 10 := by rw [z9]; decide
    rw [if_neg n10]
    show (flr (jtN (pcl R C L) (wN R) nm s) (tn (ai R 29 s)) 0 ++ flr (jtC (pcl R C L) (wN R) nk s (insC (pcl R C L) (wN R) nk nm s)) (tn (ai R 32 s)) 0).length ≤ _
    rw [List.length_append]
    have a1 := flr_c (f := jtN (pcl R C L) (wN R) nm s) 1 (tn (ai R 29 s)) 0 (fun i _ _ => lif_len _ _)
    have a2 := flr_sum (f := jtC (pcl R C L) (wN R) nk s (insC (pcl R C L) (wN R) nk nm s)) (g := fun i => wtC R s i + wtC R s i) (tn (ai R 32 s)) 0 (fun i _ hi => by
      have b1 := lif_len (decide (¬ prT (pcl R C L) s i = none)) (keyN (tn (ai R 35 (4 * s + i))) 2 0)
      have b2 := flr_c (f := jcL (pcl R C L) (wN R) nk s i (insC (pcl R C L) (wN R) nk nm s)) 3 (tn (ai R 36 (4 * s + i))) 0 (fun j _ _ => by
        unfold jcL
        cases cgK (pcl R C L) (wN R) nk (4 * s + i) j with
        | none => show 1 ≤ 3; omega
        | some x =>
          show (lif _ _ ++ (lif _ _ ++ lif _ _)).length ≤ 3
          rw [List.length_append, List.length_append]
          exact Nat.add_le_add (lif_len _ _) (Nat.add_le_add (lif_len _ _) (lif_len _ _)))
      show (lif (decide (¬ prT (pcl R C L) s i = none)) (keyN (tn (ai R 35 (4 * s + i))) 2 0) ++ flr (jcL (pcl R C L) (wN R) nk s i (insC (pcl R C L) (wN R) nk nm s)) (tn (ai R 36 (4 * s + i))) 0).length ≤ (2 * tn (ai R 36 (4 * s + i)) + 3) + (2 * tn (ai R 36 (4 * s + i)) + 3)
      rw [List.length_append]
      omega)
    rw [sum_plus] at a2
    unfold wtS
    omega
  rw [if_neg z9]
  by_cases z10 : ai R 19 s = 10
  · rw [if_pos z10, if_pos z10]
    show (flr (jnK (pcl R C L) (wN R) nk s) (tn (ai R 29 s)) 0 ++ flr (unL (pcl R C L) (wN R) nk (bcS (pcl R C L) (oN (ai R 26 s))) (nmS (pcl R C L) (wN R) nk nm s) (tn (ai R 20 s))) nk 0).length ≤ _
    rw [List.length_append]
    have a1 := flr_c (f := jnK (pcl R C L) (wN R) nk s) 1 (tn (ai R 29 s)) 0 (fun i _ _ => lif_len _ _)
    have a2 := un_len (C := C) (L := L) K (bcS (pcl R C L) (oN (ai R 26 s))) (nmS (pcl R C L) (wN R) nk nm s) (tn (ai R 20 s))
    unfold wtS
    omega
  rw [if_neg z10]
  by_cases z7 : ai R 19 s = 7
  · rw [if_pos z7]
    have := lif_len (decide (tgS (pcl R C L) s = none)) (keyN (tn (ai (pcl R C L) 20 s)) 8 0)
    omega
  · rw [if_neg z7]; exact Nat.zero_le _
theorem run_nb (T : TRE R G nm) (c : Nat) : sumN (fun s => if ai R 19 s = 10 then c else 0) (nsC R) (wN R * 120) ≤ c * nbC R := by
  have er : rsN R = wN R * 120 + nsC R := rfl
  have eb : nbN R = wN R * 1024 + nbC R := rfl
  have s3 := T.2.2.2.2.2
  have s2 := T.2.2.2.2.1
  have bk : ∀ s, SRG R s → ai R 19 s = 10 → oN (ai R 26 s) = some (tn (ai R 26 s)) ∧ wN R * 1024 ≤ tn (ai R 26 s) ∧ tn (ai R 26 s) < nbN R := fun s hs h10 => by
    obtain ⟨⟨w1, w2, w3, w4, w5, w6⟩, wk⟩ := T.2.1 s hs.1 hs.2
    obtain ⟨k, k1, k2, b6, -, -, -, -, -, n26, -⟩ := w5
    have k10 : k = 10 := nI_inj (by omega) (by omega) (by rw [← k1]; exact h10)
    have e : oN (ai R 26 s) = some (tn (ai R 26 s)) := by unfold oN; rw [if_neg (n26 (by omega))]
    exact ⟨e, (b6.some s3 e).2.1, (b6.some s3 e).2.2.1⟩
  have q := sum_inj (P := fun s => ai R 19 s = 10) (fun s => tn (ai R 26 s)) (m := nsC R) (k := wN R * 120) (lo := wN R * 1024) (fun s h1 h2 h10 => (bk s ⟨h1, by omega⟩ h10).2.1) (fun s t h1 h2 h3 h4 p q e => by
    have hs : SRG R s := ⟨h1, by omega⟩
    have ht : SRG R t := ⟨h3, by omega⟩
    have m1 := kid26 (bk s hs p).1
    have m2 := kid26 (bk t ht q).1
    rw [← e] at m2
    exact kid_own T hs ht m1 m2) (nbC R)
  have mul : ∀ (P : Nat → Prop) [DecidablePred P] m k, sumN (fun s => if P s then c else 0) m k = c * sumN (fun s => if P s then 1 else 0) m k := fun P _ m => by
    induction m with
    | zero => intro k; rfl
    | succ m ih =>
      intro k
      rw [sumN, sumN, ih]
      by_cases y : P k
      · rw [if_pos y, if_pos y, Nat.mul_add, Nat.mul_one]
      · rw [if_neg y, if_neg y, Nat.zero_add, Nat.zero_add]
  rw [mul (fun s => ai R 19 s = 10)]
  refine Nat.mul_le_mul_left c (Nat.le_trans (sum_le _ _ (fun s h1 h2 => ?_)) q)
  by_cases y : ai R 19 s = 10
  · have := (bk s ⟨h1, by omega⟩ y).2.2
    rw [if_pos y, if_pos ⟨y, by omega⟩]
    exact Nat.le_refl _
  · rw [if_neg y]; exact Nat.zero_le _
/-- mistakes by the bytes read -/
theorem jL_len2 (T : TRE R G nm) (K : KEQ R nk par) (n12 : nm ≤ 12) (n14 : ∀ m, m < nm → tn (ai R 14 (wN R * 12 + m)) ≤ 4) {q : Nat} (sb : nsC R + nbC R ≤ q) (ws : sumN (wtS R) (nsC R) (wN R * 120) + 2 * nbC R ≤ q) : 2 * (jL (pcl R C L) (wN R) nk nm (nsC R)).length ≤ 15 * q + 528 := by
  have h16 := K.2.1
  have er : rsN R = wN R * 120 + nsC R := rfl
  have a1 := flr_c (f := jkL (pcl R C L) (wN R) nk) 2 (nk - 4) 4 (fun i _ _ => by
    unfold jkL
    rw [List.length_append]
    exact Nat.add_le_add (lif_len _ _) (lif_len _ _))
  have a2 := flr_c (f := jmL (pcl R C L) (wN R) nk nm) 20 nm 0 (fun m _ hm => jmL_len K (n14 m (by omega)))
  have a3 := flr_sum (f := fun k => jsL (pcl R C L) (wN R) nk nm (nsC R) (wN R * 120 + k)) (g := fun k => ((wtS R (wN R * 120 + k) + wtS R (wN R * 120 + k)) + 3) + (if ai R 19 (wN R * 120 + k) = 10 then 12 else 0)) (nsC R) 0 (fun k _ hk => by
    have q1 := jsA_len2 (C := C) (L := L) (nm := nm) K (s := wN R * 120 + k)
    have q2 := jsB_len (pcl R C L) (wN R * 120 + k)
    show (jsA (pcl R C L) (wN R) nk nm (nsC R) (wN R * 120 + k) ++ jsB (pcl R C L) (wN R * 120 + k)).length ≤ _
    rw [List.length_append]
    omega)
  have sh : ∀ (f : Nat → Nat) a m k, sumN (fun i => f (a + i)) m k = sumN f m (a + k) := fun f a m => by
    induction m with
    | zero => intro k; rfl
    | succ m ih => intro k; rw [sumN, sumN, ih, show a + k + 1 = a + (k + 1) by omega]
  have run := run_nb T 12
  have e3 : sumN (fun k => ((wtS R (wN R * 120 + k) + wtS R (wN R * 120 + k)) + 3) + (if ai R 19 (wN R * 120 + k) = 10 then 12 else 0)) (nsC R) 0 = sumN (wtS R) (nsC R) (wN R * 120) + sumN (wtS R) (nsC R) (wN R * 120) + 3 * nsC R + sumN (fun s => if ai R 19 s = 10 then 12 else 0) (nsC R) (wN R * 120) := by
    rw [sum_plus (fun k => (wtS R (wN R * 120 + k) + wtS R (wN R * 120 + k)) + 3) (fun k => if ai R 19 (wN R * 120 + k) = 10 then 12 else 0), sum_plus (fun k => wtS R (wN R * 120 + k) + wtS R (wN R * 120 + k)) (fun _ => 3), sum_plus (fun k => wtS R (wN R * 120 + k)) (fun k => wtS R (wN R * 120 + k)), sum_const, sh (wtS R), sh (fun s => if ai R 19 s = 10 then 12 else 0), Nat.add_zero]
  rw [e3] at a3
  unfold jL
  rw [List.length_append, List.length_append]
  omega
end
