/-! The law: reading -/
def ERL (a e0 g y : Nat) : Prop := (y = a + 1 ∧ (g = 902 ∨ g = 903 ∨ g = 904 ∨ g = 905 ∨ g = 20906)) ∨ (y = a ∧ g = 31302) ∨ (g = 90003 ∧ y = e0)
section
variable {d : Nat} {h : AH} {Q : Option V → AH → Prop} {b Ln a e0 m i : Nat} {xs : Nat → Int32}
theorem room_v {A B E P S x y : Nat} (h1 : A + (B + P) + E ≤ x) (h2 : x ≤ y + E + S) (h : S ≤ P) : A + B ≤ y := by omega
theorem room_rc {n x y : Nat} (h1 : 136010 + 890 * (m + 1) + 43 * n ≤ x) (h2 : x ≤ y + 43 * n + 890) : 136010 + 890 * m + 43 * 0 ≤ y := by
  rw [Nat.mul_zero, Nat.add_zero]
  rw [Nat.mul_add_one] at h1
  exact room_v h1 h2 (by decide)
theorem room_rs {n x y : Nat} (h1 : 1160090 + 5120 * (m + 1) + 256 * n ≤ x) (h2 : x ≤ y + 256 * n + 2700) : 1160090 + 5120 * m + 256 * 0 ≤ y := by
  rw [Nat.mul_zero, Nat.add_zero]
  rw [Nat.mul_add_one] at h1
  exact room_v h1 h2 (by decide)
theorem erl_of {h' : AH} (x : FX (ERE (a + 1) a (tp h) e0) h h') : FX (ERL a e0) h h' := x.less (fun f y q z => by unfold ERE ERD ET at z; unfold ERL; omega) (fun y q z => by unfold ERE ERD ET at z; unfold ERL; omega) (fun y q z => by unfold ERE ERD ET at z; unfold ERL; omega)
theorem op_read (I : LI h b Ln xs a e0 (m + 1)) (hi : i + 6 ≤ Ln) (hL : Ln ≤ 3072) (NX : ∀ h', LI h' b Ln xs a e0 m → wp (d + 1000) K_L_law 320 [] [(0, vr (some b)), (1, vr (some a)), (2, vr (some (a + 14))), (3, vi (nI i))] h' Q) : wp (d + 1000) K_L_law 96 [] [(0, vr (some b)), (1, vr (some a)), (2, vr (some (a + 14))), (3, vi (nI i))] h Q := by
  obtain ⟨r, R, C, L, G, fW, par, wk, pk, fS, ks, dp, U, V', n, c, RWr, ⟨hn, n2⟩, WX, dpp, k5, ms⟩ := I
  have c0 := c
  obtain ⟨⟨F, lt⟩, ⟨O, N, uv⟩, ⟨TT, e65⟩, rc1, rs1⟩ := c
  have B := WX.2.1
  have K := N.2.2.2.2.2.1.1
  have l4 : ks.length ≤ 4000 := N.2.2.2.2.1.2.2
  have w2 : wN R < 2 := B.1.2.1
  have hg : gi r 1402 = nI (wN R) := B.1.1
  obtain ⟨A0, er0, dr0, wv, k4, m0, s0, b0, len, ai1, bw⟩ := ril_0 (w := wN R) hn n2 w2
  obtain ⟨nR, R', gR, nr⟩ := run_ends 2001 (rdI r (wN R)) A0 er0 (by omega)
  obtain ⟨C', L', hCL⟩ := cl_ex R'
  have st4 : ∀ i, i < 4 → ∃ s v, STR h i (lenS.getD i 0) (bytS.getD i []) s v ∧ v < tp h := fun i hi => by
    obtain ⟨s, v, q1, q2⟩ := F.2.2 i (by omega)
    exact ⟨s, v, q1, by omega⟩
  have he := F.2.1.2
  have vt := N.1.2.2.2.2.2.2
  rw [bk_L_law_96, nn_some]
  refine ⟨O.1, ?_⟩
  refine c_read (d := d + 987) (C := C') (L := L') (by omega) O F.2.1.1 st4 TT hn n2 w2 gR nr (fun _ G T t ht => (hCL G T).eqs T ht) (by omega) (by omega) (fun er h1 O1 T1 x1 rc2 rs2 => ?_) (fun er e55 e51 AR h1 G' fW' par' wk' pk' fS' ks' N1 O1 pm T1 x1 rc2 rs2 => ?_)
  · have xl := erl_of x1
    have c1 : CIN h1 b Ln xs a e0 m U V' R C L G fW par wk pk fS ks (ai r 1) 0 (gi r 1465) := by
      refine ⟨⟨F.fx xl (by omega) (fun g y z => by unfold ERL at z; omega), by have := xl.1; omega⟩, ⟨O1, N.fx xl (fun g y p1 p2 z => by unfold ERL at z; omega) (fun y z => by unfold ERL at z; omega), uv⟩, ⟨T1, ?_⟩, room_rc rc1 rc2, room_rs rs1 rs2⟩
      rw [xl.fI (by omega) (fun z => by unfold ERL at z; omega)]; exact e65
    simp only [psh]
    rw [bk_L_law_98, nn_some]
    refine ⟨by rw [xl.tg (by omega)]; exact RWr.1.1, ?_⟩
    refine ref_call (P := fun v r2 => v = some (vi (-10 - gi R' 1452)) ∧ gi r2 1402 = nI (wN R) ∧ gi r2 1401 = 0 ∧ gi r2 1465 = gi r 1465 ∧ gi r2 1460 = gi r 1460 ∧ HAG (wN R) r2 r) RWr.1 xl (by omega) (fun g hg z => by unfold ERL at z; omega) (fun y _ _ z => by unfold ERL at z; omega) (fun y z => by unfold ERL at z; omega) (by decide) (okl_c (ok_s nrc_0) okl_n) (r_wrong (d := d + 992) RWr w2 hg hn n2 gR er (fun r' h' R2 e1 e2 e3 e4 hag => ⟨r', R2, rfl, e1, e2, e3, e4, hag⟩)) (fun v h' r2 r3 R3 q p x3 sm => ?_)
    obtain ⟨pv, e1, e2, e3, e4, hag⟩ := p
    have hah : HAH (wN R) r2 r := fun q i h => hag q i h.1
    rw [pv]
    simp only [psh]
    rw [bk_L_law_100]
    exact ⟨fun _ => NX h' (li_of c1 x3 sm R3 q (fun i hi => absurd hi (Nat.not_lt_zero _)) e2 (by omega) e3 ⟨hah.tr WX.1, bv_hah B hah e1, blk_hah B WX.2.2 hah⟩ dpp k5 ⟨by rw [e4]; exact ms.1, fun i hi => by rw [(hag 50 i (by unfold HF; omega)).1, (hag 49 i (by unfold HF; omega)).1, (hag 51 i (by unfold HF; omega)).1]; exact ms.2 i hi⟩), fun z => absurd rfl z⟩
  · have xl := erl_of x1
    obtain ⟨T', -⟩ := N1.2.2.2.2.2.2.1
    have E : ENR (rdI r (wN R)) R' := ⟨nR, gR, er, e55, e51⟩
    have U0 := upd_0 A0 b0 s0
    have i6 := i6_en E A0 U0 (i6_0 b0)
    have m17 := m17_en E A0 (fun m hm => by rw [m0] at hm; omega)
    have kp := kpl_en E A0 (fun k k4' hk => by rw [k4] at hk; omega)
    obtain ⟨dp', dpa, -⟩ := dep_en E A0 U0 (dep_0 b0 dr0)
    have k5' := k5_en E A0 (fun k hk => by
      rw [k4] at hk
      rw [wv, (bw k hk).2.2]
      decide)
    have WJ := fun m hm => (N1.2.2.2.2.2.2.2.2.2.1 m hm).1
    have KE := N1.2.2.2.2.2.1.1
    have BV' : BV R' (wN R') (nkN R') (nmN R') (nsC R') (nbC R') := bv_of AR T' KE i6 rfl m17 (fun m hm => (WJ m hm).2.2.2.2.2.2.2.2.2)
    have PV' : PV R' (wN R') (nkN R') (nmN R') (nsC R') (nbC R') := pv_of T' kp (fun m hm => ⟨(WJ m hm).2.2.2.2.1.2.pl, fun z => ((WJ m hm).2.2.2.2.2.2.1 z).2.2.2.pl, fun i hi => ((WJ m hm).2.2.1 i hi).2.pl⟩)
    have c1 : CIN h1 b Ln xs a e0 m (tp h) (tp h1) R' C' L' G' fW' par' wk' pk' fS' ks' (ai R' 1) 0 (gi r 1465) := by
      refine ⟨⟨F.fx xl (by omega) (fun g y z => by unfold ERL at z; omega), by have := xl.1; omega⟩, ⟨O1, N1, Or.inr (by omega)⟩, ⟨T1, ?_⟩, room_rc rc1 rc2, room_rs rs1 rs2⟩
      rw [xl.fI (by omega) (fun z => by unfold ERL at z; omega)]; exact e65
    simp only [psh]
    rw [bk_L_law_98, nn_some]
    refine ⟨by rw [xl.tg (by omega)]; exact RWr.1.1, ?_⟩
    refine ref_call (P := fun v r2 => v = some (vi (nI (nmN R'))) ∧ gi r2 1402 = nI (wN R') ∧ gi r2 1401 = 0 ∧ gi r2 1465 = gi r 1465 ∧ MS r2 ks' ∧ HAH (wN R') r2 (pcl R' C' L')) RWr.1 xl (by omega) (fun g hg z => by unfold ERL at z; omega) (fun y _ _ z => by unfold ERL at z; omega) (fun y z => by unfold ERL at z; omega) (by decide) (okl_c (ok_s nrc_0) okl_n) (r_right (d := d + 990) RWr w2 hg hn n2 gR er e55 e51 AR T' (hCL G' T') BV' PV' N1.2.2.2.2.1.1 pm N1.2.2.2.2.1.2.2 (fun r' h' R2 e1 e2 e3 mm hh ee => ⟨r', R2, rfl, e1, e2, e3, mm, hh⟩)) (fun v h' r2 r3 R3 q p x3 sm => ?_)
    obtain ⟨pv, e1, e2, e3, mm, hh⟩ := p
    have BP : BV (pcl R' C' L') (wN R') (nkN R') (nmN R') (nsC R') (nbC R') := BV'
    have KP : BLK (pcl R' C' L') (wN R') (nsC R') := blk_of T'
    rw [pv]
    simp only [psh]
    rw [bk_L_law_100]
    exact ⟨fun _ => NX h' (li_of c1 x3 sm R3 q (fun i hi => absurd hi (Nat.not_lt_zero _)) e2 (by omega) e3 ⟨hh, bv_hah BP hh e1, blk_hah BP KP hh⟩ dpa k5' mm), fun z => absurd rfl z⟩
end
