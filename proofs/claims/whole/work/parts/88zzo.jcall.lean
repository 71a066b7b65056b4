/-! The class's judging: calls and throws -/
theorem bit_some {p : Nat → Bool} {n : Nat} (hn : n ≤ 32) (h : ¬ mask p n = 0) : ∃ q, q < n ∧ hasB (mask p n) q = true := by
  refine Classical.byContradiction (fun z => h (hasB_ext (fun k hk => ?_)))
  rw [hasB_zero hk]
  refine bnt (fun y => z ⟨k, ?_, y⟩)
  rw [hasB_mask p n hn k hk, Bool.and_eq_true, decide_eq_true_eq] at y
  exact y.1
theorem fup_any (p : Nat → Bool) : ∀ m k, fup (fun i b => b || p i) m k false = true ↔ ∃ i, k ≤ i ∧ i < k + m ∧ p i = true := by
  intro m
  induction m with
  | zero => intro k; exact ⟨fun h => (by cases h), fun ⟨i, h1, h2, _⟩ => (by omega)⟩
  | succ m ih =>
    intro k
    rw [fup, fup_or, Bool.false_or, Bool.or_eq_true, ih]
    constructor
    · rintro (h | ⟨i, h1, h2, h3⟩)
      · exact ⟨k, Nat.le_refl _, by omega, h⟩
      · exact ⟨i, by omega, by omega, h3⟩
    · rintro ⟨i, h1, h2, h3⟩
      by_cases y : i = k
      · rw [y] at h3; exact Or.inl h3
      · exact Or.inr ⟨i, by omega, by omega, h3⟩
theorem lm_le (r : RV) : ∀ f b, lmF r f b ≤ f := by
  intro f
  induction f with
  | zero => intro b; exact Nat.le_refl _
  | succ f ih =>
    intro b
    rw [lmF]
    have h1 : (if ai r 40 b = 1 ∨ ai r 40 b = 8 then 1 else 0) ≤ 1 := by split <;> omega
    have h2 : (match upB r b with | none => 0 | some j => lmF r f j) ≤ f := by
      cases upB r b with
      | none => exact Nat.zero_le _
      | some j => exact ih j
    exact Nat.le_trans (Nat.add_le_add h1 h2) (by omega)
/-- the catch's own mark: a set in its block, or in the whole text -/
theorem stR_is {R : RV} {G : Nat → Nat → Nat} {nm o i q : Nat} (T : TRE R G nm) (i4 : i < 4) (eq : ai R 33 (4 * o + i) = nI q) (r : RCH R G nm q) : stR R (G 4 q) (G 5 q) (4 * o + i) = stS R (wN R) (nsC R) (4 * o + i) := by
  have rg := r.rg T
  obtain ⟨WB, l1, l2⟩ := T.2.2.1 q rg.1 rg.2
  have s3 := T.2.2.2.2.2
  have e : rsN R = wN R * 120 + nsC R := rfl
  rw [Bool.eq_iff_iff]
  unfold stR stS
  rw [fup_any, fup_any (fun k => decide (ai R 19 (wN R * 120 + k) = 3) && decide (prS R (wN R * 120 + k) = some (4 * o + i)))]
  constructor
  · rintro ⟨k, k1, k2, k3⟩
    exact ⟨k - wN R * 120, Nat.zero_le _, by omega, by rw [show wN R * 120 + (k - wN R * 120) = k by omega]; exact k3⟩
  · rintro ⟨k, -, k2, k3⟩
    have k3' := k3
    rw [Bool.and_eq_true, decide_eq_true_eq, decide_eq_true_eq] at k3'
    obtain ⟨o', i', q', c1, c2, c3, c4, c5, c6, c7, c8, -⟩ := pr_in T (by omega) (by omega) k3'.2
    have rg' := c5.rg T
    have ei : i' = i ∧ o' = o := by omega
    rw [ei.1, ei.2, eq] at c4
    have := nI_inj (by omega) (by omega) c4
    rw [← this] at c7 c8
    exact ⟨wN R * 120 + k, by omega, by omega, k3⟩
/-- a lambda lies between a throw and its catch -/
theorem ps_is {R : RV} {G : Nat → Nat → Nat} {nm s c : Nat} (T : TRE R G nm) (h1 : wN R * 120 ≤ s) (h2 : s < rsN R) (e : prS R s = some c) : psS R s = true ↔ lmB R (tn (ai R 21 (c / 4))) < lmB R (tn (ai R 21 s)) := by
  obtain ⟨x, x1, x2, x3, x4⟩ := home T h1 h2
  have rx := x1.rg T
  have s3 := T.2.2.2.2.2
  have ep : prF R (al R 24 s) 2048 (some x) false = (some c, psS R s) := by
    have e1 : (prF R (al R 24 s) 2048 (oN (ai R 21 s)) false).1 = some c := e
    have e2 : (prF R (al R 24 s) 2048 (oN (ai R 21 s)) false).2 = psS R s := rfl
    rw [x2, oN_nI (by omega)] at e1 e2
    rw [← e1, ← e2]
  obtain ⟨q, q1, q2, q3, q4, q5, q6⟩ := pr_pass T.2.2.2.1 _ _ _ _ _ _ rx.1 rx.2 (by omega) ep
  rw [q6, lm_catch T.2.2.2.1 q1 (by omega) q3 q4, x2, tn_nI (by omega)]
  exact ⟨fun z => z.elim (fun z => by cases z) id, Or.inr⟩
section
variable {R : RV} {nk : Nat} {par : Nat → Nat} {C L : Nat → Int32}
theorem KEQ.ov (K : KEQ R nk par) (t : Int32) : ovP par nk t = ovS (pcl R C L) (wN R) nk t := by
  have h4 := K.2.2.1
  refine fup_cg _ _ _ (fun k b _ hk => ?_)
  have hk : k < nk := by omega
  show (if fup (fun q b => b && (!hasB t q || belP par q k)) nk 0 (belP par k b) then k else b) = (if fup (fun q b => b && (!hasB t q || bel (pcl R C L) (wN R) nk q k)) nk 0 (bel (pcl R C L) (wN R) nk k b) then k else b)
  rw [K.bl (C := C) (L := L) hk]
  have e : ∀ x, fup (fun q b => b && (!hasB t q || belP par q k)) nk 0 x = fup (fun q b => b && (!hasB t q || bel (pcl R C L) (wN R) nk q k)) nk 0 x := fun x => fup_cg _ _ _ (fun q c _ hq => by
    show (c && (!hasB t q || belP par q k)) = (c && (!hasB t q || bel (pcl R C L) (wN R) nk q k))
    rw [K.bl (C := C) (L := L) (show q < nk by omega)])
  rw [e]
end
section
variable {d : Nat} {h0 h : AH} {Q : Option V → AH → Prop} {T U a0 e0 J : Nat} {R : RV} {G : Nat → Nat → Nat} {nm : Nat} {fW : Nat → Nat} {nk : Nat} {par : Nat → Nat} {wk : Nat → Int64} {pk : Nat → Int32} {ns : Nat} {fS : Nat → Nat} {ks : List Nat} {B : Nat} {C L : Nat → Int32}
theorem j_thrown {o : Option Nat} {can : Int32} (ho : ∀ b, o = some b → tg h b = 3 ∧ fI h 202 b = can) (h0' : o = none → can = 0) (H : Q (some (vi can)) h) : wp d K_X2_throwOf 0 [] [(0, vr o)] h Q := by
  refine j_throwOf (fun b e => (ho b e).1) ?_
  cases o with
  | none => rw [h0' rfl] at H; exact H
  | some b => rw [← (ho b rfl).2] at H; exact H
theorem jn_variable (Bs : JBS h0 U a0 J R G nm fW) (K : KEQ R nk par) (S : JST h0 T U e0 R G nm fW nk par wk pk ns fS h ks B) {o : Option Nat} {can : Int32} (ho : ∀ b, o = some b → tg h b = 3 ∧ fI h 202 b = can) (h0' : o = none → can = 0) (H : Q (some (vi (one (if mask (fun k => hasB can k && chk (pcl R C L) (wN R) nk k) nk = 0 then 2 else ovS (pcl R C L) (wN R) nk (mask (fun k => hasB can k && chk (pcl R C L) (wN R) nk k) nk))))) h) : wp (d + 2) K_X2_variableOf 0 [] [(0, vr (some J)), (1, vr o)] h Q := by
  obtain ⟨j1, j2, j3, j4⟩ := Bs.jo S.2.2.2
  have kt : tg h (U + 1) = 6 := S.2.1.1
  have h16 := K.2.1
  rw [bk_X2_variableOf_0]
  refine ⟨j1, j_thrown ho h0' ?_⟩
  simp only [psh]
  rw [bk_X2_variableOf_4, j4, nn_some, k_checkedOf S.2.1]
  have eM : mask (fun k => hasB can k && ckP par k) nk = mask (fun k => hasB can k && chk (pcl R C L) (wN R) nk k) nk := mask_congr (fun k hk => by rw [K.ck (C := C) (L := L) hk])
  rw [eM]
  refine ⟨kt, ?_⟩
  simp only [psh]
  rw [bk_X2_variableOf_5]
  refine ⟨fun z => ?_, fun z => ?_⟩
  · obtain ⟨q, q1, q2⟩ := bit_some (by omega) z
    rw [if_neg z] at H
    rw [bk_X2_variableOf_10, j4, nn_some, k_lowest S.2.1 q1 q2, K.ov (C := C) (L := L)]
    refine ⟨j1, kt, ?_⟩
    simp only [psh]
    rw [bk_X2_variableOf_14]; exact H
  · rw [if_pos (Classical.not_not.mp z)] at H
    rw [bk_X2_variableOf_8, bk_X2_variableOf_14, show (4 : Int32) = one 2 by decide]; exact H
theorem jn_call (Bs : JBS h0 U a0 J R G nm fW) (K : KEQ R nk par) {s : Nat} (hs : SRG R s) (k1 : ai R 19 s = 1) (z0 : fI h 814 (G 0 s) = 0) (kb : ∀ b, oN (ai R 26 s) = some b → fI h 202 (G 1 b) = bcS (pcl R C L) (some b)) (S : JST h0 T U e0 R G nm fW nk par wk pk ns fS h ks (B + (jcC (pcl R C L) (wN R) nm s).length))
    (H : ∀ h' ks', JST h0 T U e0 R G nm fW nk par wk pk ns fS h' ks' B → CTK ks' (jcC (pcl R C L) (wN R) nm s) ks → fI h' 807 (G 0 s) = oI (mN R (wN R) nm (al R 24 s)) → fI h' 814 (G 0 s) = calS (pcl R C L) (wN R) nk nm s → FX (fun g y => ELs U e0 g y ∨ (y = G 0 s ∧ (g = 807 ∨ g = 814))) h h' → Q none h') : wp (d + 8) K_X2_judgeCall 0 [] [(0, vr (some J)), (1, vr (some (G 0 s)))] h Q := by
  have TR := Bs.1
  obtain ⟨⟨w1, w2, w3, w4, w5, ⟨w6, w7, -⟩⟩, wkd⟩ := TR.2.1 s hs.1 hs.2
  obtain ⟨p1, p2, p3⟩ := plp_is (w7 (Or.inl k1))
  obtain ⟨⟨i1, i2⟩, -, i3, -⟩ := Bs.sim S.2.2.2 hs
  obtain ⟨i3, i4, i5⟩ := i3 (Or.inl k1)
  obtain ⟨j1, j2, j3, j4⟩ := Bs.jo S.2.2.2
  have ut : tg h U = 11 := S.1.2.2.2.1
  have hi0 := (Bs.hi hs).1
  have ew : ∀ g y, (y = G 0 s ∧ (g = 807 ∨ g = 814)) → EJW U R G g y := fun g y z => by
    rcases z with ⟨z, z2 | z2⟩
    · exact Or.inr (Or.inl ⟨z2, s, hs, k1, z⟩)
    · exact Or.inl ⟨Or.inl z2, by rw [z]; exact hi0⟩
  rw [bk_X2_judgeCall_0, nn_some, j3, nn_some, i3]
  refine ⟨j1, i1, ut, j_wayNamed (d := d + 4) Bs S i4 ?_⟩
  simp only [psh]
  rw [bk_X2_judgeCall_6, nn_some, nn_some]
  have x1 : FX (fun g y => y = G 0 s ∧ (g = 807 ∨ g = 814)) h (setFI h 807 (G 0 s) (oI (mN R (wN R) nm (al R 24 s)))) := FX.FI ⟨rfl, Or.inl rfl⟩
  have S1 := S.w Bs (x1.mono ew) rfl rfl
  have f1 : fI (setFI h 807 (G 0 s) (oI (mN R (wN R) nm (al R 24 s)))) 807 (G 0 s) = oI (mN R (wN R) nm (al R 24 s)) := if_pos ⟨rfl, rfl⟩
  have f2 : fI (setFI h 807 (G 0 s) (oI (mN R (wN R) nm (al R 24 s)))) 814 (G 0 s) = 0 := by rw [fI_setFI, if_neg (by omega)]; exact z0
  have kb1 : ∀ b, oN (ai R 26 s) = some b → fI (setFI h 807 (G 0 s) (oI (mN R (wN R) nm (al R 24 s)))) 202 (G 1 b) = bcS (pcl R C L) (some b) := fun b e => by rw [fI_setFI, if_neg (by omega)]; exact kb b e
  have i5' : fI (setFI h 807 (G 0 s) (oI (mN R (wN R) nm (al R 24 s)))) 806 (G 0 s) = ai R 25 s := by rw [fI_setFI, if_neg (by omega)]; exact i5
  have t1 : tg (setFI h 807 (G 0 s) (oI (mN R (wN R) nm (al R 24 s)))) = tg h := rfl
  obtain ⟨o1, o2, o3, o4⟩ := Bs.jo S1.2.2.2
  have I1 := Bs.sim S1.2.2.2 hs
  generalize setFI h 807 (G 0 s) (oI (mN R (wN R) nm (al R 24 s))) = h1 at *
  rw [o3, nn_some, f1]
  refine ⟨i1, o1, I1.1.1, by rw [t1]; exact ut, j_wayAt (d := d + 4) S1 (fun m e => mN_lt e) ?_⟩
  simp only [psh]
  rw [bk_X2_judgeCall_12]
  have ut1 : tg h1 U = 11 := S1.1.2.2.2.1
  have lt1 : G 0 s < tp h1 := I1.1.2
  have eg : (oN (ai R 26 s)).map (G 1) = fP h1 30809 (G 0 s) := I1.2.2.2.2.2.1.symm
  cases eo : mN R (wN R) nm (al R 24 s) with
  | none =>
    have ej : jcC (pcl R C L) (wN R) nm s = [keyN (tn (ai R 25 s)) 1 0] ++ [] := by
      unfold jcC
      rw [show mN (pcl R C L) (wN R) nm (al (pcl R C L) 24 s) = none from eo]
      rfl
    have ec : calS (pcl R C L) (wN R) nk nm s = 0 := by
      unfold calS
      rw [show mN (pcl R C L) (wN R) nm (al (pcl R C L) 24 s) = none from eo]
    rw [ej] at S1 H
    rw [eo] at f1 H
    refine ⟨fun z => absurd rfl z, fun _ => ?_⟩
    rw [bk_X2_judgeCall_15, nn_some, o3, nn_some, i5']
    refine ⟨o1, I1.1.1, ut1, ?_⟩
    show wp _ _ _ _ [(0, vr (some U)), (1, vi 1), (2, vi (ai R 25 s)), (3, vi (-1))] _ _
    rw [← kI_0, show (1 : Int32) = nI 1 from rfl, p1]
    refine j_noteL (d := d) S1 p2 p3 (by omega) (by omega) (fun h3 ks3 S3 c3 x3 => ?_)
    simp only [psh]
    rw [bk_X2_judgeCall_22]
    refine H h3 ks3 S3 (by rw [List.append_nil]; exact c3) ?_ ?_ ((x1.mono (fun _ _ z => Or.inr z)).tr (x3.mono (fun _ _ z => Or.inl z)))
    · rw [x3.fI lt1 (els_no (by omega))]; exact f1
    · rw [x3.fI lt1 (els_no (by omega)), ec]; exact f2
  | some m =>
    have hm := mN_lt eo
    rw [eo] at f1 H
    have W := Bs.way S1.2.2.2 hm
    refine ⟨fun _ => ?_, fun z => by cases z⟩
    show wp _ _ 23 _ [(0, vr (some J)), (1, vr (some (G 0 s))), (2, vr (some (fW m)))] _ _
    rw [bk_X2_judgeCall_23, nn_some, W.1.2.2, nn_some, n_asSet W.2.1]
    refine ⟨W.1.1, W.2.1.1, ?_⟩
    simp only [psh]
    have et : nsS (fun i => kN R (wN R) (nkN R) (al R 15 (4 * (wN R * 12 + m) + i)) (ai R 16 (4 * (wN R * 12 + m) + i))) (tn (ai R 14 (wN R * 12 + m))) = thrS (pcl R C L) (wN R) nk (wN R * 12 + m) := by
      rw [K.1]; exact (thrS_ns R C L (wN R) (nkN R) (wN R * 12 + m)).symm
    rw [bk_X2_judgeCall_27, nn_some, nn_some, et]
    have x2 : FX (fun g y => y = G 0 s ∧ (g = 807 ∨ g = 814)) h1 (setFI h1 814 (G 0 s) (thrS (pcl R C L) (wN R) nk (wN R * 12 + m))) := FX.FI ⟨rfl, Or.inr rfl⟩
    have S2 := S1.w Bs (x2.mono ew) rfl rfl
    have g1 : fI (setFI h1 814 (G 0 s) (thrS (pcl R C L) (wN R) nk (wN R * 12 + m))) 807 (G 0 s) = oI (some m) := by rw [fI_setFI, if_neg (by omega)]; exact f1
    have g2 : fI (setFI h1 814 (G 0 s) (thrS (pcl R C L) (wN R) nk (wN R * 12 + m))) 814 (G 0 s) = thrS (pcl R C L) (wN R) nk (wN R * 12 + m) := if_pos ⟨rfl, rfl⟩
    have kb2 : ∀ b, oN (ai R 26 s) = some b → fI (setFI h1 814 (G 0 s) (thrS (pcl R C L) (wN R) nk (wN R * 12 + m))) 202 (G 1 b) = bcS (pcl R C L) (some b) := fun b e => by rw [fI_setFI, if_neg (by omega)]; exact kb1 b e
    generalize setFI h1 814 (G 0 s) (thrS (pcl R C L) (wN R) nk (wN R * 12 + m)) = h2 at *
    have W2 := Bs.way S2.2.2.2 hm
    have I2 := Bs.sim S2.2.2.2 hs
    obtain ⟨q1, q2, q3, q4⟩ := Bs.jo S2.2.2.2
    have ut2 : tg h2 U = 11 := S2.1.2.2.2.1
    have eg2 : fP h2 30809 (G 0 s) = (oN (ai R 26 s)).map (G 1) := I2.2.2.2.2.2.1
    have fr : ai R 13 (wN R * 12 + m) = fI h2 11207 (fW m) := W2.2.2.2.2.2.2.2.1.1.symm
    have x12 : FX (fun g y => ELs U e0 g y ∨ (y = G 0 s ∧ (g = 807 ∨ g = 814))) h h2 := (x1.mono (fun _ _ z => Or.inr z)).tr (x2.mono (fun _ _ z => Or.inr z))
    refine ⟨I1.1.1, W2.1.1, fun z => ?_, fun z => ?_⟩
    · rw [← fr] at z
      have ec : calS (pcl R C L) (wN R) nk nm s = thrS (pcl R C L) (wN R) nk (wN R * 12 + m) := by
        unfold calS
        rw [show mN (pcl R C L) (wN R) nm (al (pcl R C L) 24 s) = some m from eo]
        exact if_pos z
      rw [ec] at H
      rw [bk_X2_judgeCall_41, nn_some, eg2]
      refine ⟨I2.1.1, ?_⟩
      cases ob : oN (ai R 26 s) with
      | none =>
        have ej : jcC (pcl R C L) (wN R) nm s = [] := by
          unfold jcC
          rw [show mN (pcl R C L) (wN R) nm (al (pcl R C L) 24 s) = some m from eo]
          show (match oN (ai R 26 s) with | none => [] | some b => _) = []
          rw [ob]
        rw [ej] at S2 H
        refine ⟨fun _ => ?_, fun z => absurd rfl z⟩
        rw [bk_X2_judgeCall_52]
        exact H h2 ks S2 CTK.rf g1 g2 x12
      | some b =>
        have ej : jcC (pcl R C L) (wN R) nm s = [keyN (tn (ai R 43 b)) 11 0] ++ [] := by
          unfold jcC
          rw [show mN (pcl R C L) (wN R) nm (al (pcl R C L) 24 s) = some m from eo]
          show (match oN (ai R 26 s) with | none => [] | some b => lif (decide (ai R 13 (wN R * 12 + m) = 0)) (keyN (tn (ai R 43 b)) 11 0)) = _
          rw [ob]
          show lif (decide (ai R 13 (wN R * 12 + m) = 0)) (keyN (tn (ai R 43 b)) 11 0) = _
          rw [decide_eq_true z]; rfl
        rw [ej] at S2 H
        refine ⟨fun z => (by cases z), fun _ => ?_⟩
        have mb : b ∈ kids R s := by unfold kids; rw [ob]; exact List.mem_append_left _ (List.mem_singleton.mpr rfl)
        have rb := wkd b mb
        have BI := Bs.bim S2.2.2.2 rb
        obtain ⟨r1, r2, r3⟩ := plp_is (TR.2.2.1 b rb.1 rb.2).1.1
        rw [bk_X2_judgeCall_44, nn_some, eg2, ob]
        show _ ∧ _ ∧ nn (some (G 1 b)) _
        rw [nn_some, q3, nn_some, BI.2.1]
        refine ⟨q1, I2.1.1, BI.1.1, ut2, ?_⟩
        show wp _ _ _ _ [(0, vr (some U)), (1, vi (nI 11)), (2, vi (ai R 43 b)), (3, vi (-1))] _ _
        rw [← kI_0, r1]
        refine j_noteL (d := d) S2 r2 r3 (by omega) (by omega) (fun h3 ks3 S3 c3 x3 => ?_)
        simp only [psh]
        rw [bk_X2_judgeCall_52]
        refine H h3 ks3 S3 (by rw [List.append_nil]; exact c3) ?_ ?_ (x12.tr (x3.mono (fun _ _ z => Or.inl z)))
        · rw [x3.fI I2.1.2 (els_no (by omega))]; exact g1
        · rw [x3.fI I2.1.2 (els_no (by omega))]; exact g2
    · rw [← fr] at z
      have ej : jcC (pcl R C L) (wN R) nm s = [] := by
        unfold jcC
        rw [show mN (pcl R C L) (wN R) nm (al (pcl R C L) 24 s) = some m from eo]
        show (match oN (ai R 26 s) with | none => [] | some b => lif (decide (ai R 13 (wN R * 12 + m) = 0)) (keyN (tn (ai R 43 b)) 11 0)) = _
        cases oN (ai R 26 s) with
        | none => rfl
        | some b =>
          show lif (decide (ai R 13 (wN R * 12 + m) = 0)) (keyN (tn (ai R 43 b)) 11 0) = _
          rw [decide_eq_false z]; rfl
      have ec : calS (pcl R C L) (wN R) nk nm s = thrS (pcl R C L) (wN R) nk (wN R * 12 + m) ||| one (if mask (fun k => hasB (bcS (pcl R C L) (oN (ai R 26 s))) k && chk (pcl R C L) (wN R) nk k) nk = 0 then 2 else ovS (pcl R C L) (wN R) nk (mask (fun k => hasB (bcS (pcl R C L) (oN (ai R 26 s))) k && chk (pcl R C L) (wN R) nk k) nk)) := by
        unfold calS
        rw [show mN (pcl R C L) (wN R) nm (al (pcl R C L) 24 s) = some m from eo]
        exact if_neg z
      rw [ej] at S2 H
      rw [ec] at H
      rw [bk_X2_judgeCall_31, nn_some, nn_some, eg2, g2]
      refine ⟨I2.1.1, I2.1.1, q1, jn_variable (d := d + 5) (C := C) (L := L) (can := bcS (pcl R C L) (oN (ai R 26 s))) Bs K S2 (fun b e => ?_) (fun e => ?_) ?_⟩
      · cases ob : oN (ai R 26 s) with
        | none => rw [ob] at e; cases e
        | some b' =>
          rw [ob] at e
          have e : G 1 b' = b := Option.some.inj e
          have mb : b' ∈ kids R s := by unfold kids; rw [ob]; exact List.mem_append_left _ (List.mem_singleton.mpr rfl)
          rw [← e]
          exact ⟨(Bs.bim S2.2.2.2 (wkd b' mb)).1.1, kb2 b' ob⟩
      · cases ob : oN (ai R 26 s) with
        | none => rfl
        | some b' => rw [ob] at e; cases e
      · simp only [psh]
        rw [bk_X2_judgeCall_38, nn_some, bk_X2_judgeCall_52]
        have x3 : FX (fun g y => y = G 0 s ∧ (g = 807 ∨ g = 814)) h2 (setFI h2 814 (G 0 s) (thrS (pcl R C L) (wN R) nk (wN R * 12 + m) ||| one (if mask (fun k => hasB (bcS (pcl R C L) (oN (ai R 26 s))) k && chk (pcl R C L) (wN R) nk k) nk = 0 then 2 else ovS (pcl R C L) (wN R) nk (mask (fun k => hasB (bcS (pcl R C L) (oN (ai R 26 s))) k && chk (pcl R C L) (wN R) nk k) nk)))) := FX.FI ⟨rfl, Or.inr rfl⟩
        refine ⟨I2.1.1, H _ ks (S2.w Bs (x3.mono ew) rfl rfl) CTK.rf ?_ (if_pos ⟨rfl, rfl⟩) (x12.tr (x3.mono (fun _ _ z => Or.inr z)))⟩
        rw [fI_setFI, if_neg (by omega)]; exact g1
theorem jn_throw (Bs : JBS h0 U a0 J R G nm fW) (K : KEQ R nk par) {s : Nat} (hs : SRG R s) (k2 : ai R 19 s = 2) (en : ∀ c, prS R s = some c → fI h 307 (G 2 c) = insS (pcl R C L) (wN R) nk nm (c / 4) ∧ fI h 308 (G 2 c) = ahd (pcl R C L) (wN R) nk (c / 4) (c % 4)) (S : JST h0 T U e0 R G nm fW nk par wk pk ns fS h ks (B + (jcW (pcl R C L) (wN R) (nsC R) s).length))
    (H : ∀ h' ks', JST h0 T U e0 R G nm fW nk par wk pk ns fS h' ks' B → CTK ks' (jcW (pcl R C L) (wN R) (nsC R) s) ks → fI h' 814 (G 0 s) = thwS (pcl R C L) (wN R) nk nm (nsC R) s → FX (fun g y => ELs U e0 g y ∨ (y = G 0 s ∧ g = 814)) h h' → Q none h') : wp (d + 8) K_X2_judgeThrow 0 [] [(0, vr (some J)), (1, vr (some (G 0 s)))] h Q := by
  have TR := Bs.1
  obtain ⟨⟨w1, w2, w3, w4, w5, ⟨w6, w7, -⟩⟩, wkd⟩ := TR.2.1 s hs.1 hs.2
  obtain ⟨p1, p2, p3⟩ := plp_is (w7 (Or.inr (Or.inl k2)))
  have I := Bs.sim S.2.2.2 hs
  obtain ⟨⟨i1, i2⟩, ⟨-, -, -, i3⟩, i4, i5, i6, -⟩ := I
  obtain ⟨-, -, i4⟩ := i4 (Or.inr (Or.inl k2))
  have i5 := i5 (by rw [k2]; decide)
  rw [if_pos (Or.inl k2)] at i6
  obtain ⟨j1, j2, j3, j4⟩ := Bs.jo S.2.2.2
  have ut : tg h U = 11 := S.1.2.2.2.1
  have hi0 := (Bs.hi hs).1
  have ew : ∀ g y, (y = G 0 s ∧ g = 814) → EJW U R G g y := fun g y z => Or.inl ⟨Or.inl z.2, by rw [z.1]; exact hi0⟩
  have h16 := K.2.1
  rw [bk_X2_judgeThrow_0, nn_some, i6]
  refine ⟨i1, ?_⟩
  cases ep : prS R s with
  | none =>
    have ej : jcW (pcl R C L) (wN R) (nsC R) s = [] := by
      unfold jcW; rw [prS_pcl, ep]
    have et : thwS (pcl R C L) (wN R) nk nm (nsC R) s = onlyO (kN R (wN R) nk (al R 24 s) (ai R 25 s)) := by
      unfold thwS; rw [prS_pcl, ep]; rfl
    rw [ej, et] at H
    rw [ej] at S
    refine ⟨fun z => absurd rfl z, fun _ => ?_⟩
    rw [if_pos ⟨k2, ep⟩, ← K.1] at i5
    have fin : wp (d + 8) K_X2_judgeThrow 16 [vi (onlyO (kN R (wN R) nk (al R 24 s) (ai R 25 s))), vr (some (G 0 s))] [(0, vr (some J)), (1, vr (some (G 0 s))), (2, vr none)] h Q := by
      rw [bk_X2_judgeThrow_16, nn_some]
      have x : FX (fun g y => y = G 0 s ∧ g = 814) h (setFI h 814 (G 0 s) (onlyO (kN R (wN R) nk (al R 24 s) (ai R 25 s)))) := FX.FI ⟨rfl, rfl⟩
      exact ⟨i1, H _ ks (S.w Bs (x.mono ew) rfl rfl) CTK.rf (if_pos ⟨rfl, rfl⟩) (x.mono (fun _ _ z => Or.inr z))⟩
    show wp _ _ 5 _ [(0, vr (some J)), (1, vr (some (G 0 s))), (2, vr none)] _ _
    rw [bk_X2_judgeThrow_5, nn_some, i5]
    refine ⟨i1, fun z => ?_, fun z => ?_⟩
    · rw [bk_X2_judgeThrow_12, nn_some, i5]
      cases ek : kN R (wN R) nk (al R 24 s) (ai R 25 s) with
      | none => rw [ek] at z; exact absurd rfl z
      | some k =>
        rw [ek] at fin
        exact ⟨i1, fin⟩
    · rw [bk_X2_judgeThrow_10]
      cases ek : kN R (wN R) nk (al R 24 s) (ai R 25 s) with
      | none => rw [ek] at fin; exact fin
      | some k =>
        rw [ek] at z
        have := kN_lt ek
        exact absurd (fun y => nI_ne_m1 (k := k) (by omega) y) z
  | some c =>
    obtain ⟨o, i, q, c1, c2, c3, c4, c5, c6, c7, c8, c9, c10⟩ := pr_in TR hs.1 hs.2 ep
    have ho : SRG R o := ⟨c6.1, by have := hs.2; omega⟩
    have d1 : c / 4 = o := by omega
    have d2 : c % 4 = i := by omega
    have ps := ps_is TR hs.1 hs.2 ep
    obtain ⟨e7, e8⟩ := en c ep
    rw [d1] at ps
    rw [d1] at e7
    rw [d1, d2] at e8
    have I2 := Bs.sim S.2.2.2 ho
    obtain ⟨cf, lt⟩ := I2.2.2.2.2.2.2.2.2.2.2.2.2.2 i c2
    have rq := c5.rg TR
    have s3 := TR.2.2.2.2.2
    have set : fI h 10304 (G 2 (4 * o + i)) = b2i (stS R (wN R) (nsC R) (4 * o + i)) := by
      rw [cf.2.2.2, c4, tn_nI (by omega), stR_is TR c3 c4 c5]
    have l3 : fI h 302 (G 2 (4 * o + i)) = nI (lmB R (tn (ai R 21 o))) := by
      have := cf.1.2.2.2.2.2.1
      rw [show (4 * o + i) / 4 = o by omega] at this; exact this
    have ej : jcW (pcl R C L) (wN R) (nsC R) s = lif (psS R s && stS R (wN R) (nsC R) c) (keyN (tn (ai R 25 s)) 12 0) ++ [] := by
      unfold jcW; rw [prS_pcl, ep, List.append_nil]
      show lif (psS (pcl R C L) s && stS (pcl R C L) (wN R) (nsC R) c) _ = _
      rw [psS_pcl, stS_pcl]
      rfl
    have et : thwS (pcl R C L) (wN R) nk nm (nsC R) s = if stS R (wN R) (nsC R) c then cgS (pcl R C L) (wN R) nk c else agS (pcl R C L) (wN R) nk nm (c / 4) (c % 4) := by
      unfold thwS; rw [prS_pcl, ep]
      show (if stS (pcl R C L) (wN R) (nsC R) c then _ else _) = _
      rw [stS_pcl]
    rw [d1, d2] at et
    rw [c1] at ej et
    rw [ej, et] at H
    rw [ej] at S
    rw [c1]
    refine ⟨fun _ => ?_, fun z => by cases z⟩
    show wp _ _ 18 _ [(0, vr (some J)), (1, vr (some (G 0 s))), (2, vr (some (G 2 (4 * o + i))))] _ _
    have t4 := cf.1.2.1
    have D := cf.1.2.2.2.1
    have lm1 := lm_le R 2048 (tn (ai R 21 o))
    have lm2 := lm_le R 2048 (tn (ai R 21 s))
    have lm1 : lmB R (tn (ai R 21 o)) ≤ 2048 := lm1
    have lm2 : lmB R (tn (ai R 21 s)) ≤ 2048 := lm2
    rw [← c1] at H S set l3 cf t4 D ⊢
    rw [bk_X2_judgeThrow_18, nn_some, set, b2i_0]
    refine ⟨t4, fun z => ?_, fun z => ?_⟩
    · -- what it can be
      rw [z, Bool.and_false, lif_f] at H S
      rw [if_neg (by decide)] at H
      rw [bk_X2_judgeThrow_26]
      refine ⟨j1, jn_canBe (d := d + 5) (C := C) (L := L) Bs K S t4 e7 e8 cf.1.2.2.1 D (fun j k _ e => ?_) ?_⟩
      · have := (ffst_some e).2.1; have := K.1; omega
      · simp only [psh]
        have ea : agT (pcl R C L) (wN R) nk (mask (fun k => hasB (insS (pcl R C L) (wN R) nk nm o ||| 12) k && !und (pcl R C L) (wN R) nk k (ahd (pcl R C L) (wN R) nk o i)) nk) (nsS (cgK R (wN R) (nkN R) c) (tn (ai R 36 c))) = agS (pcl R C L) (wN R) nk nm o i := by
          unfold agS
          rw [← K.1, ← c1]; rfl
        rw [bk_X2_judgeThrow_29, nn_some, nn_some, ea]
        have x : FX (fun g y => y = G 0 s ∧ g = 814) h (setFI h 814 (G 0 s) (agS (pcl R C L) (wN R) nk nm o i)) := FX.FI ⟨rfl, rfl⟩
        have g1 : fI (setFI h 814 (G 0 s) (agS (pcl R C L) (wN R) nk nm o i)) 10304 (G 2 c) = 0 := by rw [fI_setFI, if_neg (by omega), set, z]; rfl
        have g2 : fI (setFI h 814 (G 0 s) (agS (pcl R C L) (wN R) nk nm o i)) 814 (G 0 s) = agS (pcl R C L) (wN R) nk nm o i := if_pos ⟨rfl, rfl⟩
        have S1 := S.w Bs (x.mono ew) rfl rfl
        have tt : tg (setFI h 814 (G 0 s) (agS (pcl R C L) (wN R) nk nm o i)) = tg h := rfl
        generalize setFI h 814 (G 0 s) (agS (pcl R C L) (wN R) nk nm o i) = h1 at *
        refine ⟨i1, by rw [tt]; exact t4, fun _ => ?_, fun y => absurd g1 y⟩
        rw [bk_X2_judgeThrow_45]
        exact H h1 ks S1 CTK.rf g2 (x.mono (fun _ _ z => Or.inr z))
    · -- it was set
      have z := bt z
      rw [z, Bool.and_true] at H S
      rw [if_pos rfl] at H
      rw [bk_X2_judgeThrow_22, nn_some, cf.1.2.2.1, nn_some, n_asSet D]
      refine ⟨t4, D.1, ?_⟩
      simp only [psh]
      have ea : nsS (cgK R (wN R) (nkN R) c) (tn (ai R 36 c)) = cgS (pcl R C L) (wN R) nk c := by
        rw [← K.1]; rfl
      rw [bk_X2_judgeThrow_25, bk_X2_judgeThrow_29, nn_some, nn_some, ea]
      have x : FX (fun g y => y = G 0 s ∧ g = 814) h (setFI h 814 (G 0 s) (cgS (pcl R C L) (wN R) nk c)) := FX.FI ⟨rfl, rfl⟩
      have g1 : ¬ fI (setFI h 814 (G 0 s) (cgS (pcl R C L) (wN R) nk c)) 10304 (G 2 c) = 0 := by rw [fI_setFI, if_neg (by omega), set, z]; decide
      have g2 : fI (setFI h 814 (G 0 s) (cgS (pcl R C L) (wN R) nk c)) 814 (G 0 s) = cgS (pcl R C L) (wN R) nk c := if_pos ⟨rfl, rfl⟩
      have g3 : fI (setFI h 814 (G 0 s) (cgS (pcl R C L) (wN R) nk c)) 803 (G 0 s) = nI (lmB R (tn (ai R 21 s))) := by rw [fI_setFI, if_neg (by omega)]; exact i3
      have g4 : fI (setFI h 814 (G 0 s) (cgS (pcl R C L) (wN R) nk c)) 302 (G 2 c) = nI (lmB R (tn (ai R 21 o))) := by rw [fI_setFI, if_neg (by omega)]; exact l3
      have g5 : fI (setFI h 814 (G 0 s) (cgS (pcl R C L) (wN R) nk c)) 806 (G 0 s) = ai R 25 s := by rw [fI_setFI, if_neg (by omega)]; exact i4
      have S1 := S.w Bs (x.mono ew) rfl rfl
      have tt : tg (setFI h 814 (G 0 s) (cgS (pcl R C L) (wN R) nk c)) = tg h := rfl
      have tl : tp (setFI h 814 (G 0 s) (cgS (pcl R C L) (wN R) nk c)) = tp h := rfl
      generalize setFI h 814 (G 0 s) (cgS (pcl R C L) (wN R) nk c) = h1 at *
      refine ⟨i1, by rw [tt]; exact t4, fun y => absurd y g1, fun _ => ?_⟩
      rw [bk_X2_judgeThrow_33, nn_some, nn_some, g3, g4, nI_leI (by omega) (by omega)]
      refine ⟨by rw [tt]; exact t4, by rw [tt]; exact i1, fun y => ?_, fun y => ?_⟩
      · have nps : psS R s = false := bnt (fun q => by have := ps.mp q; omega)
        rw [nps, lif_f] at H S1
        rw [bk_X2_judgeThrow_45]
        exact H h1 ks S1 CTK.rf g2 (x.mono (fun _ _ z => Or.inr z))
      · have yps : psS R s = true := ps.mpr (by omega)
        rw [yps, lif_t] at H S1
        obtain ⟨o1, o2, o3, o4⟩ := Bs.jo S1.2.2.2
        rw [bk_X2_judgeThrow_38, nn_some, o3, nn_some, g5]
        refine ⟨o1, by rw [tt]; exact i1, by rw [tt]; exact ut, ?_⟩
        show wp _ _ _ _ [(0, vr (some U)), (1, vi (nI 12)), (2, vi (ai R 25 s)), (3, vi (-1))] _ _
        rw [← kI_0, p1]
        refine j_noteL (d := d) S1 p2 p3 (by omega) (by omega) (fun h3 ks3 S3 c3 x3 => ?_)
        simp only [psh]
        rw [bk_X2_judgeThrow_45]
        refine H h3 ks3 S3 (by rw [List.append_nil]; exact c3) ?_ ((x.mono (fun _ _ z => Or.inr z)).tr (x3.mono (fun _ _ z => Or.inl z)))
        rw [x3.fI (by rw [tl]; exact i2) (els_no (by omega))]; exact g2
end
