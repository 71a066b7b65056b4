/-! The reference's whole read -/
theorem itr_st {R : RV} {w nk nm ns : Nat} {L C : Nat → Int32} {n : Nat} (h : (swA R w nk nm ns L (itr R w nk nm ns L n C)).2 = false) : ∀ m, itr R w nk nm ns L (n + m) C = itr R w nk nm ns L n C := by
  intro m
  induction m with
  | zero => rfl
  | succ m ih =>
    rw [show n + (m + 1) = n + m + 1 from rfl, itr_succ, ih]
    exact (swA_same h).1
theorem itr_one {R : RV} {w nk nm ns : Nat} {L C : Nat → Int32} {n m : Nat} (h : (swA R w nk nm ns L (itr R w nk nm ns L n C)).2 = false) (h' : (swA R w nk nm ns L (itr R w nk nm ns L m C)).2 = false) : (swA R w nk nm ns L (itr R w nk nm ns L n C)).1 = (swA R w nk nm ns L (itr R w nk nm ns L m C)).1 := by
  rw [(swA_same h).1, (swA_same h').1]
  rcases Nat.le_total n m with z | z
  · obtain ⟨k, e⟩ := Nat.exists_eq_add_of_le z
    rw [e, itr_st h]
  · obtain ⟨k, e⟩ := Nat.exists_eq_add_of_le z
    rw [e, itr_st h']
def LR (R : RV) : Nat → Int32 := (leA R (wN R) (nsC R)).2
/-- C and L are what the reference's sweeps come to -/
def CLR (R : RV) (C L : Nat → Int32) : Prop := L = LR R ∧ ∃ n, (swA R (wN R) (nkN R) (nmN R) (nsC R) (LR R) (itr R (wN R) (nkN R) (nmN R) (nsC R) (LR R) n (leA R (wN R) (nsC R)).1)).2 = false ∧ C = (swA R (wN R) (nkN R) (nmN R) (nsC R) (LR R) (itr R (wN R) (nkN R) (nmN R) (nsC R) (LR R) n (leA R (wN R) (nsC R)).1)).1
theorem CLR.eqs {R : RV} {C L : Nat → Int32} {G : Nat → Nat → Nat} (c : CLR R C L) (T : TRE R G (nmN R)) {t : Nat} (ht : SRG R t) : L t = b2i (lvS (pcl R C L) (wN R) (nsC R) t) ∧ C t = canS (pcl R C L) (wN R) (nkN R) (nmN R) (nsC R) t := by
  obtain ⟨e, n, h1, h2⟩ := c
  have er : rsN R = wN R * 120 + nsC R := rfl
  have s := swA_same h1
  rw [s.1] at h2
  rw [← h2, ← e] at s
  obtain ⟨t1, t2⟩ := ht
  refine ⟨?_, ?_⟩
  · have := (leA_eq T C t1 t2).2
    rw [e]; exact this
  · have := s.2 (t - wN R * 120) (by omega)
    rw [show wN R * 120 + (t - wN R * 120) = t by omega] at this
    exact this
theorem cl_ex (R : RV) : ∃ C L, ∀ G, TRE R G (nmN R) → CLR R C L := by
  by_cases z : ∃ G, TRE R G (nmN R)
  · obtain ⟨G, T⟩ := z
    obtain ⟨n, hn⟩ := sweeps_end (nk := nkN R) T (L := LR R) (nm' := nmN R) (leA R (wN R) (nsC R)).1
    exact ⟨_, LR R, fun _ _ => ⟨rfl, n, hn, rfl⟩⟩
  · exact ⟨fun _ => 0, fun _ => 0, fun G T => absurd ⟨G, T⟩ z⟩
theorem put_ai {r : RV} {p c : Int32} {x y z : Nat → Int32} {q : Nat} (h : q < 49) : ai (put r p c x y z) q = ai r q := by
  show (if q = 49 then x else if q = 50 then y else if q = 51 then z else r.2.2.1 q) = _
  rw [if_neg (by omega), if_neg (by omega), if_neg (by omega)]; rfl
theorem hah_put {w : Nat} {r : RV} {p c : Int32} {x y z : Nat → Int32} : HAH w (put r p c x y z) r := fun q i h => ⟨by rw [put_ai h.2], rfl⟩
theorem put_gi {r : RV} {p c : Int32} {x y z : Nat → Int32} {f : Nat} (h1 : ¬ f = 11457) (h2 : ¬ f = 1460) : gi (put r p c x y z) f = gi r f := by
  show (if f = 11457 then p else if f = 1460 then c else r.1 f) = _
  rw [if_neg h1, if_neg h2]; rfl
section
variable {d : Nat} {h : AH} {Q : Option V → AH → Prop} {a n w nR : Nat} {r R : RV} {C L : Nat → Int32}
theorem r_wrong (RR : RW r h a) (hw : w < 2) (hg : gi r 1402 = nI w) (hn : gi r 1401 = nI n) (n2 : n ≤ 2000) (gR : goN nR (rdI r w) R) (er : ¬ gi R 1452 = -1)
    (H : ∀ r' h', RW r' h' a → gi r' 1402 = nI w → gi r' 1401 = 0 → gi r' 1465 = gi r 1465 → gi r' 1460 = gi r 1460 → HAG w r' r → Q (some (vi (-10 - gi R 1452))) h') : wp (d + 7) K_X12_read 0 [] [(0, vr (some a))] h Q := by
  obtain ⟨A0, er0, dr0, wv, -⟩ := ril_0 (w := w) hn n2 hw
  obtain ⟨-, -, -, -, -, g02, -, -⟩ := rdY_v (w := w) hn n2
  refine rd_start RR hw hg hn n2 (fun h1 R1 => ?_)
  refine rd_goes nR _ _ R R1 gR (fun h2 R2 => ?_)
  refine rd_wrong R2 er (fun h3 R3 => ?_)
  have k : ∀ f, FKO f → ¬ f = 1402 → gi (sI R 1402 (1 - gi R 1402)) f = gi (rdI r w) f := fun f hf n => by
    rw [gi_sI, if_neg n]; exact gk_go hf gR
  have g2 : gi R 1402 = nI (1 - w) := by
    rw [gk_go (f := 1402) (by unfold FKO; omega) gR, A0.w, wv]
  have ha := hag_go (w := w) A0 (by rw [wv]; omega) gR
  have k0 : ∀ f, ¬ f = 1447 → ¬ f = 1448 → ¬ f = 1449 → ¬ f = 1451 → ¬ f = 1452 → ¬ f = 1455 → ¬ f = 1401 → ¬ f = 1402 → gi (rdI r w) f = gi r f := fun f q1 q2 q3 q4 q5 q6 q7 q8 => by
    rw [rd_is, gi_adv _ q1 q3 q4]
    unfold rdY
    rw [gi_sI, if_neg q5, gi_sI, if_neg q6, gi_sI, if_neg q1, cr_gi _ _ q8, gi_sI, if_neg q7, gi_sI, if_neg q2]
  refine H _ h3 R3 ?_ ?_ ?_ ?_ (fun q i hf => ?_)
  · rw [gi_sI, if_pos rfl, g2]
    rcases (show w = 0 ∨ w = 1 by omega) with z | z <;> subst z <;> decide
  · rw [k 1401 (by unfold FKO; omega) (by decide), rd_is, gi_adv]
    unfold rdY
    rw [gi_sI, if_neg (by decide), gi_sI, if_neg (by decide), gi_sI, if_neg (by decide), cr_gi _ _ (by decide), gi_sI, if_pos rfl]
  · rw [k 1465 (by unfold FKO; omega) (by decide)]
    exact k0 1465 (by decide) (by decide) (by decide) (by decide) (by decide) (by decide) (by decide) (by decide)
  · rw [k 1460 (by unfold FKO; omega) (by decide)]
    exact k0 1460 (by decide) (by decide) (by decide) (by decide) (by decide) (by decide) (by decide) (by decide)
  · have h1 := ha.1 q i hf
    have h2 := hag_rd (r := r) hn n2 hw q i hf
    exact ⟨h1.1.trans h2.1, h1.2.trans h2.2⟩
theorem r_right {G : Nat → Nat → Nat} {l : List Nat} (RR : RW r h a) (hw : w < 2) (hg : gi r 1402 = nI w) (hn : gi r 1401 = nI n) (n2 : n ≤ 2000) (gR : goN nR (rdI r w) R) (er : gi R 1452 = -1) (e55 : gi R 1455 = 0) (e51 : gi R 1451 = -1) (AR : RIL R) (T : TRE R G (nmN R)) (c : CLR R C L) (B : BV R (wN R) (nkN R) (nmN R) (nsC R) (nbC R)) (P : PV R (wN R) (nkN R) (nmN R) (nsC R) (nbC R)) (sl : leL l) (pm : l.Perm (jL (pcl R C L) (wN R) (nkN R) (nmN R) (nsC R))) (l4 : l.length ≤ 4000)
    (H : ∀ r' h', RW r' h' a → gi r' 1402 = nI (wN R) → gi r' 1401 = 0 → gi r' 1465 = gi r 1465 → MS r' l → HAH (wN R) r' (pcl R C L) → ai r' 1 = ai R 1 → Q (some (vi (nI (nmN R)))) h') : wp (d + 9) K_X12_read 0 [] [(0, vr (some a))] h Q := by
  obtain ⟨A0, er0, dr0, wv, -⟩ := ril_0 (w := w) hn n2 hw
  refine rd_start (d := d + 7) RR hw hg hn n2 (fun h1 R1 => ?_)
  refine rd_goes (d := d + 2) nR _ _ R R1 gR (fun h2 R2 => ?_)
  refine rd_right (d := d + 2) R2 er e55 e51 ?_
  obtain ⟨eL, m, hm, eC⟩ := c
  have hc : ∀ k, (swA R (wN R) (nkN R) (nmN R) (nsC R) (leA R (wN R) (nsC R)).2 (itr R (wN R) (nkN R) (nmN R) (nsC R) (leA R (wN R) (nsC R)).2 k (leA R (wN R) (nsC R)).1)).2 = false → pcl R (swA R (wN R) (nkN R) (nmN R) (nsC R) (leA R (wN R) (nsC R)).2 (itr R (wN R) (nkN R) (nmN R) (nsC R) (leA R (wN R) (nsC R)).2 k (leA R (wN R) (nsC R)).1)).1 (leA R (wN R) (nsC R)).2 = pcl R C L := fun k hk => by
    rw [eL, eC]
    unfold LR
    unfold LR at hm
    rw [itr_one hk hm]
  have k0 : ∀ f, ¬ f = 1447 → ¬ f = 1448 → ¬ f = 1449 → ¬ f = 1451 → ¬ f = 1452 → ¬ f = 1455 → ¬ f = 1401 → ¬ f = 1402 → gi (rdI r w) f = gi r f := fun f q1 q2 q3 q4 q5 q6 q7 q8 => by
    rw [rd_is, gi_adv _ q1 q3 q4]
    unfold rdY
    rw [gi_sI, if_neg q5, gi_sI, if_neg q6, gi_sI, if_neg q1, cr_gi _ _ q8, gi_sI, if_neg q7, gi_sI, if_neg q2]
  refine j_judge (d := d) B P R2.1 R2.2 (fun k hk => ?_) ⟨m, hm⟩ (fun k h3 l' hk J pl => ?_)
  · rw [hc k hk, ← pm.length_eq]; exact l4
  · rw [hc k hk] at J pl
    have el : l' = l := le_perm J.1.2.1 sl (pl.trans pm.symm)
    rw [el] at J
    obtain ⟨⟨hs, -, ms, p, cc, x, y, z, ev⟩, -⟩ := J
    simp only [psh]
    have RW3 : RW (put (pcl R C L) p cc x y z) h3 a := ⟨hs, ev⟩
    have g2 : gi (put (pcl R C L) p cc x y z) 1402 = nI (wN R) := by
      rw [put_gi (by decide) (by decide)]; exact AR.w
    rw [rb_X12_read_80 _ hs, RW3.gi, g2]
    have w2 := AR.w2
    refine ⟨pk_in _ 2 (by omega), ?_⟩
    have e8 : aI h3 (a + 8) (Int32.toNatClampNeg (nI (wN R))) = nI (nmN R) := by
      rw [show Int32.toNatClampNeg (nI (wN R)) = wN R from tn_nI (by omega)]
      have : aI h3 (a + 8) (wN R) = ai (view h3 a) 8 (wN R) := rfl
      rw [this, ev, put_ai (by omega)]
      exact AR.2.2.2.2.2.1.1
    rw [e8]
    rw [ev] at ms
    refine H _ h3 RW3 g2 ?_ ?_ ms hah_put (put_ai (by omega))
    · rw [put_gi (by decide) (by decide)]
      show gi R 1401 = 0
      rw [gk_go (f := 1401) (by unfold FKO; omega) gR, rd_is, gi_adv]
      unfold rdY
      rw [gi_sI, if_neg (by decide), gi_sI, if_neg (by decide), gi_sI, if_neg (by decide), cr_gi _ _ (by decide), gi_sI, if_pos rfl]
    · rw [put_gi (by decide) (by decide)]
      show gi R 1465 = _
      rw [gk_go (f := 1465) (by unfold FKO; omega) gR]
      exact k0 1465 (by decide) (by decide) (by decide) (by decide) (by decide) (by decide) (by decide) (by decide)
end
