/-! Both in turn: answers that are alike; what stays -/
theorem gh_kN {w nk : Nat} {r X : RV} (g : HAH w r X) (hn : nk ≤ 16) (x : Int64) (v : Int32) : kN r w nk x v = kN X w nk x v := ffst_cg _ _ (fun k _ hk => by
  have e1 : al r 3 (w * 16 + k) = al X 3 (w * 16 + k) := (g 3 _ (by unfold HF; omega)).2
  have e2 : ai r 5 (w * 16 + k) = ai X 5 (w * 16 + k) := (g 5 _ (by unfold HF; omega)).1
  rw [e1, e2])
theorem gh_par {w nk : Nat} {r X : RV} (g : HAH w r X) (hn : nk ≤ 16) {k : Nat} (hk : k < nk) : parN r w nk k = parN X w nk k := by
  unfold parN
  have e1 : al r 6 (w * 16 + k) = al X 6 (w * 16 + k) := (g 6 _ (by unfold HF; omega)).2
  have e2 : ai r 7 (w * 16 + k) = ai X 7 (w * 16 + k) := (g 7 _ (by unfold HF; omega)).1
  rw [e1, e2, gh_kN g hn]
theorem bv_hah {w nk nm ns nb : Nat} {r X : RV} (B : BV X w nk nm ns nb) (g : HAH w r X) (e02 : gi r 1402 = nI w) : BV r w nk nm ns nb := by
  obtain ⟨⟨k1, k2, k3, k4, k5, k6⟩, ⟨t1, t2, t3, t4, t5, t6⟩, ⟨l1, l2, l3, l4⟩⟩ := B
  have c2 : ai r 2 w = ai X 2 w := (g 2 w (by unfold HF; omega)).1
  have c8 : ai r 8 w = ai X 8 w := (g 8 w (by unfold HF; omega)).1
  have c18 : ai r 18 w = ai X 18 w := (g 18 w (by unfold HF; omega)).1
  have cs : ∀ q s, (19 ≤ q ∧ q ≤ 29) ∨ q = 32 → w * 120 ≤ s → s < w * 120 + ns → ai r q s = ai X q s := fun q s hq h1 h2 => (g q s (by unfold HF; omega)).1
  have c4 : ∀ q s i, 33 ≤ q ∧ q ≤ 36 → w * 120 ≤ s → s < w * 120 + ns → i < 4 → ai r q (4 * s + i) = ai X q (4 * s + i) := fun q s i hq h1 h2 h3 => (g q (4 * s + i) (by unfold HF; omega)).1
  have cb : ∀ q b, 40 ≤ q ∧ q ≤ 45 → w * 1024 ≤ b → b < w * 1024 + nb → ai r q b = ai X q b := fun q b hq h1 h2 => (g q b (by unfold HF; omega)).1
  refine ⟨⟨e02, k2, by rw [c2]; exact k3, k4, k5, fun k h1 h2 => by rw [gh_par g k4 h2]; exact k6 k h1 h2⟩, ⟨by rw [c8]; exact t1, t2, by rw [c18]; exact t3, t4, fun m hm => ?_, fun s h1 h2 => ?_⟩, ⟨l1, fun s h1 h2 => ?_, fun b h1 h2 => ?_, fun m hm => ?_⟩⟩
  · have e : ai r 14 (w * 12 + m) = ai X 14 (w * 12 + m) := (g 14 _ (by unfold HF; omega)).1
    rw [e]; exact t5 m hm
  · obtain ⟨s1, s2, s3, s4, s5, s6, s7⟩ := t6 s h1 h2
    have n4 := s2.2
    rw [cs 29 s (by omega) h1 h2, cs 32 s (by omega) h1 h2, cs 23 s (by omega) h1 h2, cs 26 s (by omega) h1 h2, cs 27 s (by omega) h1 h2, cs 28 s (by omega) h1 h2]
    refine ⟨s1, s2, fun i hi => ?_, s4, s5, s6, s7⟩
    rw [c4 36 s i (by omega) h1 h2 (by omega), c4 33 s i (by omega) h1 h2 (by omega)]
    exact s3 i hi
  · obtain ⟨s1, s2, s3, s4, s5, s6, s7⟩ := l2 s h1 h2
    have n4 := (t6 s h1 h2).2.1.2
    rw [cs 26 s (by omega) h1 h2, cs 27 s (by omega) h1 h2, cs 28 s (by omega) h1 h2, cs 32 s (by omega) h1 h2, cs 21 s (by omega) h1 h2, cs 23 s (by omega) h1 h2]
    refine ⟨s1, s2, s3, fun i hi => ?_, s5, s6, s7⟩
    rw [c4 33 s i (by omega) h1 h2 (by omega)]
    exact s4 i hi
  · obtain ⟨s1, s2, s3, s4, s5, s6⟩ := l3 b h1 h2
    rw [cb 44 b (by omega) h1 h2, cb 45 b (by omega) h1 h2, cb 41 b (by omega) h1 h2, cb 40 b (by omega) h1 h2, cb 42 b (by omega) h1 h2]
    have own : ¬ ai X 41 b = -1 → w * 120 ≤ tn (ai X 41 b) ∧ tn (ai X 41 b) < w * 120 + ns := fun z => by
      rcases s3 with s3 | s3
      · exact absurd s3 z
      · exact s3.2
    refine ⟨s1, s2, s3, s4, fun z => ?_, fun z => ?_⟩
    · have z1 : ¬ ai X 41 b = -1 := fun y => by rw [s4.mp y] at z; exact absurd z (by decide)
      obtain ⟨o1, o2⟩ := own z1
      rw [cs 32 _ (by omega) o1 o2]
      exact s5 z
    · obtain ⟨o1, o2⟩ := own z
      rw [cs 21 _ (by omega) o1 o2]
      exact s6 z
  · have e : ai r 17 (w * 12 + m) = ai X 17 (w * 12 + m) := (g 17 _ (by unfold HF; omega)).1
    rw [e]; exact l4 m hm
theorem blk_hah {w nk nm ns nb : Nat} {r X : RV} (B : BV X w nk nm ns nb) (K : BLK X w ns) (g : HAH w r X) : BLK r w ns := fun s h1 h2 => by
  have t4 := B.2.1.2.2.2.1
  have w2 := B.1.2.1
  have n4 := (B.2.1.2.2.2.2.2 s h1 h2).2.1.2
  have cs : ∀ q, (19 ≤ q ∧ q ≤ 29) ∨ q = 32 → ai r q s = ai X q s := fun q hq => (g q s (by unfold HF; omega)).1
  obtain ⟨b1, b2⟩ := K s h1 h2
  rw [cs 19 (by omega), cs 26 (by omega), cs 32 (by omega)]
  refine ⟨b1, fun i hi => ?_⟩
  have c4 : ai r 33 (4 * s + i) = ai X 33 (4 * s + i) := (g 33 (4 * s + i) (by unfold HF; omega)).1
  rw [c4]; exact b2 i hi
/-- blocks that must be there are there -/
theorem blk_of {R : RV} {G : Nat → Nat → Nat} {nm : Nat} (T : TRE R G nm) : BLK R (wN R) (nsC R) := fun s h1 h2 => by
  obtain ⟨k, z0, z00, B6, B7, B8, B9, -, -, z1, -⟩ := (T.2.1 s h1 h2).1.2.2.2.2.1
  refine ⟨fun e => z1 ?_, fun i hi => (B9 i hi).2⟩
  have te : ∀ x : Nat, x ≤ 11 → ai R 19 s = nI x → k = x := fun x hx y => by
    have := congrArg tn (z0.symm.trans y)
    rw [tn_nI (by omega), tn_nI (by omega)] at this
    exact this
  rcases e with e | e | e | e | e
  · exact Or.inl (te 4 (by omega) e)
  · exact Or.inr (Or.inl (te 5 (by omega) e))
  · exact Or.inr (Or.inr (Or.inl (te 6 (by omega) e)))
  · exact Or.inr (Or.inr (Or.inr (Or.inl (te 9 (by omega) e))))
  · exact Or.inr (Or.inr (Or.inr (Or.inr (Or.inr (te 11 (by omega) e)))))
/-! Answers -/
theorem ms_cm {r : RV} {ks : List Nat} (M : MS r ks) (hl : ks.length ≤ 4000) (x y : Int32) : misS r ks.length x y = cmS ks x y := by
  unfold misS cmS
  rcases ixO_cases x (n := ks.length) (by omega) with ⟨e, -⟩ | ⟨j, hj, -, e⟩
  · rw [e]
  · rw [e]
    obtain ⟨m1, m2⟩ := M
    have m3 := m2 j hj
    have e1 : ai r 50 j = nI (ks[j] / 512) := congrArg (fun z => z.1) m3
    have e2 : ai r 49 j = nI (ks[j] / 32 % 16) := congrArg (fun z => z.2.1) m3
    have e3 : ai r 51 j = kI (ks[j] % 32) := congrArg (fun z => z.2.2) m3
    show (if y = 0 then ai r 49 j else if y = 1 then ai r 50 j else if y = 2 then ai r 51 j else -3) = (if y = 0 then nI (ks.getD j 0 / 32 % 16) else if y = 1 then nI (ks.getD j 0 / 512) else if y = 2 then kI (ks.getD j 0 % 32) else -3)
    have eg : ks.getD j 0 = ks[j] := by rw [List.getD_eq_getElem?_getD, List.getElem?_eq_getElem hj]; rfl
    rw [e1, e2, e3, eg]
section
variable {r R : RV} {C L : Nat → Int32} {G : Nat → Nat → Nat} {nm nk : Nat} {par : Nat → Nat}
theorem hg_kinS (g : HAH (wN R) r (pcl R C L)) (K : KEQ R nk par) (x y : Int32) : kinS r (wN R) nk x y = kinS (pcl R C L) (wN R) nk x y := by
  have n16 := K.2.1
  unfold kinS
  rcases ixO_cases x (n := nk) (by omega) with ⟨e, -⟩ | ⟨j, hj, -, e⟩
  · rw [e]
  · rw [e]
    have e4 : ai r 4 (wN R * 16 + j) = ai (pcl R C L) 4 (wN R * 16 + j) := (g 4 _ (by unfold HF; omega)).1
    show (if y = 0 then (if j = 0 then -1 else nI (parN r (wN R) nk j)) else if y = 1 then b2i (chk r (wN R) nk j) else if y = 2 then ai r 4 (wN R * 16 + j) else -3) = (if y = 0 then (if j = 0 then -1 else nI (parN (pcl R C L) (wN R) nk j)) else if y = 1 then b2i (chk (pcl R C L) (wN R) nk j) else if y = 2 then ai (pcl R C L) 4 (wN R * 16 + j) else -3)
    rw [gh_par g n16 hj, hg_chk g K hj, e4]
theorem hg_belS (g : HAH (wN R) r (pcl R C L)) (K : KEQ R nk par) (x y : Int32) : belS r (wN R) nk x y = belS (pcl R C L) (wN R) nk x y := by
  have n16 := K.2.1
  unfold belS
  rcases ixO_cases x (n := nk) (by omega) with ⟨e, -⟩ | ⟨i, hi, -, e⟩
  · rw [e]
  · rw [e]
    cases ixO y nk with
    | none => rfl
    | some j =>
      show bel r (wN R) nk i j = bel (pcl R C L) (wN R) nk i j
      exact hg_bel g K hi j
theorem hg_staS (g : HAH (wN R) r (pcl R C L)) (n120 : nsC R ≤ 120) (x y : Int32) : staS r (wN R) (nsC R) x y = staS (pcl R C L) (wN R) (nsC R) x y := by
  unfold staS
  rcases ixO_cases x (n := nsC R) (by omega) with ⟨e, -⟩ | ⟨j, hj, -, e⟩
  · rw [e]
  · rw [e]
    have es : ∀ q, (19 ≤ q ∧ q ≤ 29) ∨ q = 47 ∨ q = 48 → ai r q (wN R * 120 + j) = ai (pcl R C L) q (wN R * 120 + j) := fun q hq => (g q _ (by unfold HF; omega)).1
    show (if y = 0 then ai r 19 (wN R * 120 + j) else if y = 1 then ai r 20 (wN R * 120 + j) else if y = 2 then ai r 47 (wN R * 120 + j) else if y = 3 then b2i (decide (¬ ai r 48 (wN R * 120 + j) = 0)) else if y = 4 then ai r 22 (wN R * 120 + j) else -3) = (if y = 0 then ai (pcl R C L) 19 (wN R * 120 + j) else if y = 1 then ai (pcl R C L) 20 (wN R * 120 + j) else if y = 2 then ai (pcl R C L) 47 (wN R * 120 + j) else if y = 3 then b2i (decide (¬ ai (pcl R C L) 48 (wN R * 120 + j) = 0)) else if y = 4 then ai (pcl R C L) 22 (wN R * 120 + j) else -3)
    rw [es 19 (by omega), es 20 (by omega), es 47 (by omega), es 48 (by omega), es 22 (by omega)]
theorem hg_metS (g : HAH (wN R) r (pcl R C L)) (n16 : nk ≤ 16) (T : TRE R G nm) (n12 : nm ≤ 12) (n120 : nsC R ≤ 120) (n1024 : nbC R ≤ 1024) (c14 : ∀ m, m < nm → tn (ai R 14 (wN R * 12 + m)) ≤ 4) (c17 : ∀ m, m < nm → rf (ai R 17 (wN R * 12 + m)) (wN R * 1024) (nbN R)) (x y : Int32) : metS r (wN R) nk nm x y = metS (pcl R C L) (wN R) nk nm x y := by
  unfold metS
  rcases ixO_cases x (n := nm) (by omega) with ⟨e, -⟩ | ⟨j, hj, -, e⟩
  · rw [e]
  · rw [e]
    have es : ∀ q, (9 ≤ q ∧ q ≤ 14) ∨ q = 17 → ai r q (wN R * 12 + j) = ai (pcl R C L) q (wN R * 12 + j) := fun q hq => (g q _ (by unfold HF; omega)).1
    have e17 : ai (pcl R C L) 17 (wN R * 12 + j) = ai R 17 (wN R * 12 + j) := rfl
    have eb : bcS r (oN (ai R 17 (wN R * 12 + j))) = bcS (pcl R C L) (oN (ai R 17 (wN R * 12 + j))) ∧ lfB r (oN (ai R 17 (wN R * 12 + j))) = lfB (pcl R C L) (oN (ai R 17 (wN R * 12 + j))) := by
      rcases c17 j hj with z | ⟨z1, z2, z3⟩
      · rw [z, show oN (-1) = none from rfl]
        exact ⟨rfl, rfl⟩
      · have sm := T.2.2.2.2.2
        rw [z1, oN_nI (by omega)]
        exact ⟨hg_bcS g T n120 n1024 z2 z3, hg_lfB g T n120 n1024 z2 z3⟩
    show (if y = 0 then ai r 10 (wN R * 12 + j) else if y = 1 then b2i (decide (¬ ai r 17 (wN R * 12 + j) = -1)) else if y = 2 then bcS r (oN (ai r 17 (wN R * 12 + j))) else if y = 3 then thrS r (wN R) nk (wN R * 12 + j) else if y = 4 then b2i (lfB r (oN (ai r 17 (wN R * 12 + j)))) else if y = 5 then b2i (decide (¬ ai r 13 (wN R * 12 + j) = 0)) else if y = 6 then oI (abv r (wN R) nm (wN R * 12 + j)) else -3) = (if y = 0 then ai (pcl R C L) 10 (wN R * 12 + j) else if y = 1 then b2i (decide (¬ ai (pcl R C L) 17 (wN R * 12 + j) = -1)) else if y = 2 then bcS (pcl R C L) (oN (ai (pcl R C L) 17 (wN R * 12 + j))) else if y = 3 then thrS (pcl R C L) (wN R) nk (wN R * 12 + j) else if y = 4 then b2i (lfB (pcl R C L) (oN (ai (pcl R C L) 17 (wN R * 12 + j)))) else if y = 5 then b2i (decide (¬ ai (pcl R C L) 13 (wN R * 12 + j) = 0)) else if y = 6 then oI (abv (pcl R C L) (wN R) nm (wN R * 12 + j)) else -3)
    rw [es 10 (by omega), es 17 (by omega), es 13 (by omega), e17, eb.1, eb.2, hg_thr g n16 (by omega) (c14 j hj), hg_abv g n12 (by omega)]
theorem hg_tolS {n ns nb : Nat} {ks : List Nat} {w : Nat} (B : BV r w nk nm ns nb) (M : MS r ks) (hn : gi r 1401 = nI n) (x : Int32) : tolS r w x = (if x = 0 then nI nk else if x = 1 then nI nm else if x = 2 then nI ns else if x = 3 then nI ks.length else if x = 4 then nI n else -3) := by
  unfold tolS
  rw [B.1.2.2.1, B.2.1.1, B.2.1.2.2.1, M.1, hn]
end
/-! The reference's state, but for what is not its own -/
def RQ (r r' : RV) : Prop := (∀ f, f / 100 % 100 = 14 → gi r' f = gi r f ∧ gl r' f = gl r f) ∧ ∀ q, q ≤ 56 → ai r' q = ai r q ∧ al r' q = al r q
theorem RQ.hah {w : Nat} {r r' : RV} (a : RQ r r') : HAH w r' r := fun q i h => ⟨by rw [(a.2 q (by have := h.2; omega)).1], by rw [(a.2 q (by have := h.2; omega)).2]⟩
theorem HAH.tr {w : Nat} {r r1 X : RV} (a : HAH w r r1) (b : HAH w r1 X) : HAH w r X := fun q i h => ⟨(a q i h).1.trans (b q i h).1, (a q i h).2.trans (b q i h).2⟩
theorem RQ.ms {r r' : RV} {ks : List Nat} (a : RQ r r') (M : MS r ks) : MS r' ks := by
  obtain ⟨m1, m2⟩ := M
  refine ⟨by rw [(a.1 1460 (by decide)).1]; exact m1, fun i hi => ?_⟩
  rw [(a.2 50 (by omega)).1, (a.2 49 (by omega)).1, (a.2 51 (by omega)).1]
  exact m2 i hi
theorem RQ.wcx {R r r' : RV} {C L : Nat → Int32} (a : RQ r r') (x : WCX R C L r) : WCX R C L r' := ⟨a.hah.tr x.1, bv_hah x.2.1 a.hah (by rw [(a.1 1402 (by decide)).1]; exact x.2.1.1.1), blk_hah x.2.1 x.2.2 a.hah⟩
def ERF (ar g y : Nat) : Prop := (y = ar ∧ g / 100 % 100 = 14) ∨ (g = 90001 ∧ ar ≤ y ∧ y ≤ ar + 56)
theorem okl_c {S : Nat → Prop} {i : Nat} {v : V} {l : Ls} (h1 : okV S v) (h2 : okL S l) : okL S ((i, v) :: l) := fun q hq => by
  cases hq with
  | head => exact h1
  | tail _ h => exact h2 q h
theorem okl_n {S : Nat → Prop} : okL S [] := fun q hq => by cases hq
section
variable {ar : Nat} {E : Nat → Nat → Prop} {h h1 : AH}
theorem pat_self (x : FX E h h1) (la : ar + 56 < tp h) (n1 : ∀ g, g / 100 % 100 = 14 → ¬ E g ar) (n2 : ∀ y, ar ≤ y → y ≤ ar + 56 → ¬ E 90001 y) : pat ar h1 h = h1 := by
  have e1 : (fun f a => if a = ar ∧ f / 100 % 100 = 14 then fI h f a else fI h1 f a) = h1.1 := by
    funext f a
    by_cases c : a = ar ∧ f / 100 % 100 = 14
    · rw [if_pos c, c.1]; exact (x.fI (by omega) (n1 f c.2)).symm
    · rw [if_neg c]; rfl
  have e2 : (fun f a => if a = ar ∧ f / 100 % 100 = 14 then fJ h f a else fJ h1 f a) = h1.2.1 := by
    funext f a
    by_cases c : a = ar ∧ f / 100 % 100 = 14
    · rw [if_pos c, c.1]; exact (x.fJ (by omega) (n1 f c.2)).symm
    · rw [if_neg c]; rfl
  have e3 : (fun f a => if a = ar ∧ f / 100 % 100 = 14 then fP h f a else fP h1 f a) = h1.2.2.1 := by
    funext f a
    by_cases c : a = ar ∧ f / 100 % 100 = 14
    · rw [if_pos c, c.1]; exact (x.fP (by omega) (n1 f c.2)).symm
    · rw [if_neg c]; rfl
  have e4 : (fun a i => if ar ≤ a ∧ a ≤ ar + 56 then aI h a i else aI h1 a i) = h1.2.2.2.1 := by
    funext a i
    by_cases c : ar ≤ a ∧ a ≤ ar + 56
    · rw [if_pos c]; exact (x.aI (by omega) (n2 a c.1 c.2) i).symm
    · rw [if_neg c]; rfl
  have e5 : (fun a i => if ar ≤ a ∧ a ≤ ar + 56 then aJ h a i else aJ h1 a i) = h1.2.2.2.2.1 := by
    funext a i
    by_cases c : ar ≤ a ∧ a ≤ ar + 56
    · rw [if_pos c]; exact (x.aJ (by omega) (n2 a c.1 c.2) i).symm
    · rw [if_neg c]; rfl
  show (fun f a => if a = ar ∧ f / 100 % 100 = 14 then fI h f a else fI h1 f a, fun f a => if a = ar ∧ f / 100 % 100 = 14 then fJ h f a else fJ h1 f a, fun f a => if a = ar ∧ f / 100 % 100 = 14 then fP h f a else fP h1 f a, fun a i => if ar ≤ a ∧ a ≤ ar + 56 then aI h a i else aI h1 a i, fun a i => if ar ≤ a ∧ a ≤ ar + 56 then aJ h a i else aJ h1 a i, h1.2.2.2.2.2) = h1
  rw [e1, e2, e3, e4, e5]
theorem RA_tg : ∀ k, k < 56 → RA k ∈ refA ∧ (RA k).2.1 = k + 1 ∧ ¬ (RA k).2.2.1 = 15 := by decide +kernel
theorem agr_fx (R : RS h ar) (x : FX E h h1) (la : ar + 56 < tp h) (n3 : ∀ y, ¬ E 9901 y) : AGR ar h1 h := by
  refine ⟨fun y y1 y2 => ⟨x.tg (by omega), x.ln (by omega), x.fI (by omega) (n3 y), fun z => ?_⟩, fun q hq b e => ?_⟩
  · obtain ⟨q1, q2, q3⟩ := RA_tg (y - ar - 1) (by omega)
    obtain ⟨-, t1, -⟩ := R.2 _ q1
    rw [q2, show ar + (y - ar - 1 + 1) = y by omega] at t1
    rw [t1]; exact q3
  · obtain ⟨b1, b2, -⟩ := RA_at q hq
    rw [(R.2 q hq).1] at e
    have e := Option.some.inj e
    omega
/-- a call of the reference, behind a call of the class -/
theorem ref_call {d k : Nat} {ls : Ls} {Q : Option V → AH → Prop} {P : Option V → RV → Prop} (R : RS h ar) (x : FX E h h1) (la : ar + 56 < tp h) (n1 : ∀ g, g / 100 % 100 = 14 → ¬ E g ar) (n2 : ∀ y, ar ≤ y → y ≤ ar + 56 → ¬ E 90001 y) (n3 : ∀ y, ¬ E 9901 y) (hk : refM k = true) (hls : okL (NRC ar) ls) (H : wp d k 0 [] ls h (fun v h2 => ∃ r2, RW r2 h2 ar ∧ P v r2))
    (K : ∀ v h' r2 r3, RW r3 h' ar → RQ r2 r3 → P v r2 → FX (ERF ar) h1 h' → (tp h' = tp h1 ∧ rc h' = rc h1 ∧ rs h' = rs h1) → Q v h') : wp d k 0 [] ls h1 Q := by
  have A := agr_fx R x la n3
  have q := pat_run H hk A (fun v hv => by cases hv) hls
  rw [pat_self x la n1 n2] at q
  refine wp_mono _ _ _ _ _ _ _ _ (fun v h' z => ?_) q
  obtain ⟨h2, e, ⟨r2, ⟨RS2, ev⟩, p⟩, A2, -⟩ := z
  have ar0 : ¬ NRC ar ar := fun z => z ⟨Nat.le_refl _, Nat.le_add_right _ _⟩
  refine K v h' r2 (view h' ar) ⟨?_, rfl⟩ ?_ p ?_ ?_
  · rw [e]
    refine ⟨by rw [(A2.x ar0).1]; exact RS2.1, fun q hq => ?_⟩
    obtain ⟨b1, b2, -⟩ := RA_at q hq
    obtain ⟨c1, c2, c3⟩ := RS2.2 q hq
    have aq : ¬ NRC ar (ar + q.2.1) := fun z => z ⟨by omega, by omega⟩
    refine ⟨?_, by rw [(A2.x aq).1]; exact c2, by rw [(A2.x aq).2.1]; exact c3⟩
    have f14 : q.1 / 100 % 100 = 14 := by
      have all : ∀ q, q ∈ refA → q.1 / 100 % 100 = 14 := by decide +kernel
      exact all q hq
    show (if ar = ar ∧ q.1 / 100 % 100 = 14 then fP h2 q.1 ar else fP h1 q.1 ar) = _
    rw [if_pos ⟨rfl, f14⟩]; exact c1
  · rw [e, ← ev]
    refine ⟨fun f hf => ⟨?_, ?_⟩, fun q hq => ⟨?_, ?_⟩⟩
    · show (if ar = ar ∧ f / 100 % 100 = 14 then fI h2 f ar else fI h1 f ar) = fI h2 f ar
      rw [if_pos ⟨rfl, hf⟩]
    · show (if ar = ar ∧ f / 100 % 100 = 14 then fJ h2 f ar else fJ h1 f ar) = fJ h2 f ar
      rw [if_pos ⟨rfl, hf⟩]
    · funext i
      show (if ar ≤ ar + q ∧ ar + q ≤ ar + 56 then aI h2 (ar + q) i else aI h1 (ar + q) i) = aI h2 (ar + q) i
      rw [if_pos (by omega)]
    · funext i
      show (if ar ≤ ar + q ∧ ar + q ≤ ar + 56 then aJ h2 (ar + q) i else aJ h1 (ar + q) i) = aJ h2 (ar + q) i
      rw [if_pos (by omega)]
  · rw [e]
    refine ⟨Nat.le_refl _, fun _ _ => ⟨rfl, rfl⟩, fun f y _ ne => ?_, fun y _ ne j => ?_, fun _ _ _ _ => rfl⟩
    · have c : ¬ (y = ar ∧ f / 100 % 100 = 14) := fun z => ne (Or.inl z)
      refine ⟨?_, ?_, ?_⟩
      · show (if y = ar ∧ f / 100 % 100 = 14 then fI h2 f y else fI h1 f y) = _
        rw [if_neg c]
      · show (if y = ar ∧ f / 100 % 100 = 14 then fJ h2 f y else fJ h1 f y) = _
        rw [if_neg c]
      · show (if y = ar ∧ f / 100 % 100 = 14 then fP h2 f y else fP h1 f y) = _
        rw [if_neg c]
    · have c : ¬ (ar ≤ y ∧ y ≤ ar + 56) := fun z => ne (Or.inr ⟨rfl, z⟩)
      refine ⟨?_, ?_⟩
      · show (if ar ≤ y ∧ y ≤ ar + 56 then aI h2 y j else aI h1 y j) = _
        rw [if_neg c]
      · show (if ar ≤ y ∧ y ≤ ar + 56 then aJ h2 y j else aJ h1 y j) = _
        rw [if_neg c]
  · rw [e]; exact ⟨rfl, rfl, rfl⟩
end
