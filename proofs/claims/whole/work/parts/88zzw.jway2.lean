/-! The class's judging: all methods -/
theorem CI.split {G : Nat → Nat → Nat} : ∀ {l1 l2 : List Nat} {lo hi : Nat}, CI G lo (l1 ++ l2) hi → ∃ mid, CI G lo l1 mid ∧ CI G mid l2 hi := by
  intro l1
  induction l1 with
  | nil => intro l2 lo hi h; exact ⟨lo, rfl, h⟩
  | cons b l ih =>
    intro l2 lo hi h
    obtain ⟨h1, h2, h3⟩ := h
    obtain ⟨mid, m1, m2⟩ := ih h3
    exact ⟨mid, ⟨h1, h2, m1⟩, m2⟩
theorem ci_dup {G : Nat → Nat → Nat} {f : Nat → List Nat} {lo b : Nat} : ∀ n hi m i, CI G lo ((List.range n).flatMap f) hi → m < i → i < n → b ∈ f m → b ∈ f i → G 5 b ≤ G 4 b := by
  intro n
  induction n with
  | zero => intro hi m i _ _ h; omega
  | succ n ih =>
    intro hi m i h lt l2 h1 h2
    rw [List.range_succ, List.flatMap_append] at h
    obtain ⟨mid, c1, c2⟩ := h.split
    by_cases y : i = n
    · have m1 : b ∈ (List.range n).flatMap f := List.mem_flatMap.mpr ⟨m, List.mem_range.mpr (by omega), h1⟩
      have m2 : b ∈ [n].flatMap f := List.mem_flatMap.mpr ⟨n, List.mem_singleton.mpr rfl, by rw [← y]; exact h2⟩
      have := (c1.le).2 b m1
      have := (c2.le).2 b m2
      omega
    · exact ih mid m i c1 lt (by omega) h1 h2
section
variable {d : Nat} {h0 h : AH} {Q : Option V → AH → Prop} {T U a0 e0 J : Nat} {R : RV} {G : Nat → Nat → Nat} {nm : Nat} {fW : Nat → Nat} {nk : Nat} {par : Nat → Nat} {wk : Nat → Int64} {pk : Nat → Int32} {ns : Nat} {fS : Nat → Nat} {ks : List Nat} {B : Nat} {C L : Nat → Int32}
theorem bod_in {m b : Nat} (hm : m < nm) (e : oN (ai R 17 (wN R * 12 + m)) = some b) : b ∈ bods R (wN R) nm := by
  unfold bods
  rw [List.mem_flatMap]
  exact ⟨m, List.mem_range.mpr hm, by rw [e]; exact List.mem_singleton.mpr rfl⟩
theorem bod_of {b : Nat} (m : b ∈ bods R (wN R) nm) : ∃ k, k < nm ∧ oN (ai R 17 (wN R * 12 + k)) = some b := by
  unfold bods at m
  rw [List.mem_flatMap] at m
  obtain ⟨k, k1, k2⟩ := m
  exact ⟨k, List.mem_range.mp k1, Option.mem_toList.mp k2⟩
theorem bod_dup {m i b lo hi : Nat} (CB : CI G lo (bods R (wN R) nm) hi) (hm : m < nm) (hi' : i < nm) (lt : m < i) (e1 : oN (ai R 17 (wN R * 12 + m)) = some b) (e2 : oN (ai R 17 (wN R * 12 + i)) = some b) : G 5 b ≤ G 4 b := ci_dup (f := fun m => (oN (ai R 17 (wN R * 12 + m))).toList) nm hi m i CB lt hi' (by rw [e1]; exact List.mem_singleton.mpr rfl) (by rw [e2]; exact List.mem_singleton.mpr rfl)
/-- no catch lies around a method -/
theorem enc_bod (TR : TRE R G nm) {b : Nat} (mb : b ∈ bods R (wN R) nm) : ENC R C L G nk nm h (G 4 b) (G 5 b) := by
  intro s c s1 s2 hp lt
  exfalso
  obtain ⟨CB, AB⟩ := TR.1
  have l := (CB.le).2 b mb
  obtain ⟨o, i, q, q1, q2, q3, q4, q5, q6, q7, q8, q9, -⟩ := pr_in TR (by omega) (by omega) hp
  have eo : c / 4 = o := by omega
  obtain ⟨b', m1, m2, m3⟩ := CB.at (s := o) q6.1 (by omega)
  have g := g3_in TR (RCH.bod m1) m2 m3
  obtain ⟨⟨w1, w2, w3, w4, -⟩, -⟩ := TR.2.1 o q6.1 (by omega)
  have d2 := (w4.le).2 q q9
  have : b' = b := CI.dj CB m1 mb (s := s) (by omega) (by omega) s1 s2
  rw [this] at m2
  omega
def EJM (U e0 : Nat) (R : RV) (G : Nat → Nat → Nat) (fW : Nat → Nat) (m g y : Nat) : Prop := EJP U e0 R G (fun s => ∃ b, oN (ai R 17 (wN R * 12 + m)) = some b ∧ inS (G 4 b) (G 5 b) s) (fun c => ∃ b, oN (ai R 17 (wN R * 12 + m)) = some b ∧ kdB R G b c) g y ∨ (g = 1206 ∧ y = fW m)
theorem jn_way (Bs : JBS h0 U a0 J R G nm fW) (K : KEQ R nk par) (eq : ∀ t, SRG R t → L t = b2i (lvS (pcl R C L) (wN R) (nsC R) t) ∧ C t = canS (pcl R C L) (wN R) nk nm (nsC R) t) {m : Nat} (hm : m < nm) (S : JST h0 T U e0 R G nm fW nk par wk pk ns fS h ks (B + (jbO R C L G nk nm (oN (ai R 17 (wN R * 12 + m))) ++ jwA (pcl R C L) (wN R) nk nm m).length)) (un : ∀ b, oN (ai R 17 (wN R * 12 + m)) = some b → ∀ s, G 4 b ≤ s → s < G 5 b → UNJ R G h s) (ov : fI h 1206 (fW m) = -1)
    (H : ∀ h' ks', JST h0 T U e0 R G nm fW nk par wk pk ns fS h' ks' B → CTK ks' (jbO R C L G nk nm (oN (ai R 17 (wN R * 12 + m))) ++ jwA (pcl R C L) (wN R) nk nm m) ks → JDW R C L G nm fW h' m → FX (EJM U e0 R G fW m) h h' → Q none h') : wp (d + 800) K_X2_judgeWay 0 [] [(0, vr (some J)), (1, vr (some (fW m)))] h Q := by
  have TR := Bs.1
  have s2 := TR.2.2.2.2.1
  have hiw : U + 10 ≤ fW m := (Bs.2.2.2.1 m hm).1.1.1
  obtain ⟨⟨a1, a2, a3⟩, -, -, -, -, -, -, -, a9, -⟩ := Bs.way S.2.2.2 hm
  obtain ⟨j1, j2, j3, j4⟩ := Bs.jo S.2.2.2
  have rgb : ∀ b, oN (ai R 17 (wN R * 12 + m)) = some b → wN R * 1024 ≤ b ∧ b < nbN R := fun b e => by
    have := TR.1.2 b (bod_in hm e); omega
  rw [List.length_append, ← Nat.add_assoc, Nat.add_right_comm] at S
  rw [bk_X2_judgeWay_0, nn_some, a9]
  refine ⟨a1, j1, bk_opt (N := 3 * 241 + 8) (o := oN (ai R 17 (wN R * 12 + m))) (by omega) (fun b e => ?_) S un (fun b e => enc_bod TR (bod_in hm e)) (fun h1 ks1 S1 c1 q1 x1 => ?_)⟩
  · have mb := bod_in hm e
    have := (TR.1.1.le).2 b mb
    exact jn_block Bs K eq 241 b (RCH.bod mb) (by omega)
  simp only [psh]
  have w1 := Bs.way S1.2.2.2 hm
  have ov1 : fI h1 1206 (fW m) = -1 := by
    rw [x1.fI a2 (fun z => by have := EJP.is z; omega)]; exact ov
  clear a1 a2 a3 a9 j1 j2 j3 j4 un ov
  obtain ⟨⟨a1, a2, a3⟩, aN, aP, -, ⟨b1, b2⟩, -, -, -, a9, -⟩ := w1
  obtain ⟨j1, j2, j3, j4⟩ := Bs.jo S1.2.2.2
  obtain ⟨p1, p2, p3⟩ := plp_is b2
  have et : nsS (fun i => kN R (wN R) (nkN R) (al R 15 (4 * (wN R * 12 + m) + i)) (ai R 16 (4 * (wN R * 12 + m) + i))) (tn (ai R 14 (wN R * 12 + m))) = thrS (pcl R C L) (wN R) nk (wN R * 12 + m) := by
    rw [K.1]; exact (thrS_ns R C L (wN R) (nkN R) (wN R * 12 + m)).symm
  have ejw : jwA (pcl R C L) (wN R) nk nm m = flr (unL (pcl R C L) (wN R) nk (bcS (pcl R C L) (oN (ai R 17 (wN R * 12 + m)))) (nsS (fun i => kN R (wN R) (nkN R) (al R 15 (4 * (wN R * 12 + m) + i)) (ai R 16 (4 * (wN R * 12 + m) + i))) (tn (ai R 14 (wN R * 12 + m)))) (tn (ai R 10 (wN R * 12 + m)))) nk 0 ++ (lif (decide (¬ al R 11 (wN R * 12 + m) = 0) && decide (abv (pcl R C L) (wN R) nm (wN R * 12 + m) = none)) (keyN (tn (ai R 12 (wN R * 12 + m))) 1 0) ++ flr (jwN (pcl R C L) (wN R) nk (wN R * 12 + m) (abv (pcl R C L) (wN R) nm (wN R * 12 + m))) (tn (ai R 14 (wN R * 12 + m))) 0) := by
    rw [et]; rfl
  rw [ejw] at S1 H
  rw [List.length_append, ← Nat.add_assoc, Nat.add_right_comm] at S1
  rw [bk_X2_judgeWay_4, nn_some, nn_some, nn_some, a9, a3, b1]
  refine ⟨a1, a1, a1, j1, ?_⟩
  show wp _ _ _ _ [(0, vr (some J)), (1, vr ((oN (ai R 17 (wN R * 12 + m))).map (G 1))), (2, vr (some (fW m + 1))), (3, vi (ai R 10 (wN R * 12 + m)))] _ _
  rw [p1]
  refine jn_untold (d := d + 791) (C := C) (L := L) Bs K S1 (fun b e => ?_) (fun e => ?_) aN p2 p3 (fun h2 ks2 S2 c2 x2 => ?_)
  · cases eo : oN (ai R 17 (wN R * 12 + m)) with
    | none => rw [eo] at e; cases e
    | some c =>
      rw [eo] at e
      have e : G 1 c = b := Option.some.inj e
      rw [← e]
      exact ⟨(Bs.bim S1.2.2.2 (rgb c eo)).1.1, (q1 c eo).2.1⟩
  · cases eo : oN (ai R 17 (wN R * 12 + m)) with
    | none => rfl
    | some c => rw [eo] at e; cases e
  simp only [psh]
  have ov2 : fI h2 1206 (fW m) = -1 := by
    rw [x2.fI a2 (els_no (by omega))]; exact ov1
  -- the body stays judged
  have bod : ∀ {h' : AH}, FX (fun g y => ELs U e0 g y ∨ g = 1206) h1 h' → ∀ b, oN (ai R 17 (wN R * 12 + m)) = some b → (∀ s, G 4 b ≤ s → s < G 5 b → JDS R C L G nm h' s) ∧ JDB R C L G h' b := fun x b e => by
    have l := (TR.1.1.le).2 b (bod_in hm e)
    have no : ∀ g y, ¬ (g = 100 ∨ g = 102 ∨ g = 30101 ∨ g = 90003 ∨ g = 1206) → ¬ (ELs U e0 g y ∨ g = 1206) := fun g y n z => z.elim (els_no (by omega)) (fun z => by omega)
    have lb := (Bs.bim S1.2.2.2 (rgb b e)).1.2
    refine ⟨fun s z1 z2 => ?_, ?_, ?_⟩
    · have hs : SRG R s := ⟨by omega, by omega⟩
      have u := (q1 b e).1 s z1 z2
      have lt := (Bs.sim S1.2.2.2 hs).1.2
      have wk := (TR.2.1 s hs.1 hs.2).2
      refine ⟨⟨?_, ?_⟩, fun c mc => ⟨?_, ?_⟩, fun q => ?_, fun h9 => ?_⟩
      · rw [x.fI lt (no _ _ (by omega))]; exact u.1.1
      · rw [x.fI lt (no _ _ (by omega))]; exact u.1.2
      · rw [x.fI (Bs.bim S1.2.2.2 (wk c mc)).1.2 (no _ _ (by omega))]; exact (u.2.1 c mc).1
      · rw [x.fI (Bs.bim S1.2.2.2 (wk c mc)).1.2 (no _ _ (by omega))]; exact (u.2.1 c mc).2
      · rw [x.fI lt (no _ _ (by omega))]; exact u.2.2.1 q
      · exact (u.2.2.2 h9).fx x (fun g hg => no _ _ (by omega)) (no _ _ (by omega)) (no _ _ (by omega)) (no _ _ (by omega))
    · rw [x.fI lb (no _ _ (by omega))]; exact (q1 b e).2.1
    · rw [x.fI lb (no _ _ (by omega))]; exact (q1 b e).2.2
  have frm : ∀ {h' : AH}, FX (fun g y => ELs U e0 g y ∨ (g = 1206 ∧ y = fW m)) h1 h' → FX (EJM U e0 R G fW m) h h' := fun x => (x1.mono (fun _ _ z => Or.inl z)).tr (x.mono (fun g y z => z.elim (fun z => Or.inl (Or.inl z)) Or.inr))
  clear a1 a2 a3 aN aP b1 b2 a9 j1 j2 j3 j4 p1 p2 p3
  obtain ⟨⟨a1, a2, a3⟩, aN, aP, -, -, b3, b4, -⟩ := Bs.way S2.2.2.2 hm
  obtain ⟨j1, j2, j3, j4⟩ := Bs.jo S2.2.2.2
  rw [bk_X2_judgeWay_12, nn_some, b3, b2i_0]
  refine ⟨a1, fun z => ?_, fun z => ?_⟩
  · -- it lies over another
    have z := bt z
    have z0 : ¬ al R 11 (wN R * 12 + m) = 0 := of_decide_eq_true z
    have ea : abv (pcl R C L) (wN R) nm (wN R * 12 + m) = mN R (wN R) nm (al R 11 (wN R * 12 + m)) := if_neg z0
    obtain ⟨o1, o2, o3, o4⟩ := b4 z0
    have ut : tg h2 U = 11 := S2.1.2.2.2.1
    rw [z, Bool.true_and] at S2 H
    rw [bk_X2_judgeWay_16, nn_some, j3, nn_some, o1]
    refine ⟨j1, a1, ut, j_wayNamed (d := d + 796) Bs S2 o2 ?_⟩
    simp only [psh]
    rw [bk_X2_judgeWay_22, nn_some, nn_some]
    have x3 : FX (fun g y => g = 1206 ∧ y = fW m) h2 (setFI h2 1206 (fW m) (oI (mN R (wN R) nm (al R 11 (wN R * 12 + m))))) := FX.FI ⟨rfl, rfl⟩
    have S3 := S2.w Bs (x3.mono (fun g y z => Or.inl ⟨by have := z.1; omega, by have := z.2; omega⟩)) rfl rfl
    have f3 : fI (setFI h2 1206 (fW m) (oI (mN R (wN R) nm (al R 11 (wN R * 12 + m))))) 1206 (fW m) = oI (mN R (wN R) nm (al R 11 (wN R * 12 + m))) := if_pos ⟨rfl, rfl⟩
    have t3 : tg (setFI h2 1206 (fW m) (oI (mN R (wN R) nm (al R 11 (wN R * 12 + m))))) = tg h2 := rfl
    generalize setFI h2 1206 (fW m) (oI (mN R (wN R) nm (al R 11 (wN R * 12 + m)))) = h3 at *
    obtain ⟨k1, k2, k3, k4⟩ := Bs.jo S3.2.2.2
    have W3 := Bs.way S3.2.2.2 hm
    rw [k3, nn_some, f3]
    refine ⟨a1, k1, W3.1.1, by rw [t3]; exact ut, j_wayAt (d := d + 796) S3 (fun k e => mN_lt e) ?_⟩
    simp only [psh]
    rw [bk_X2_judgeWay_28]
    have fin : ∀ h' ks', JST h0 T U e0 R G nm fW nk par wk pk ns fS h' ks' B → CTK ks' (lif (decide (abv (pcl R C L) (wN R) nm (wN R * 12 + m) = none)) (keyN (tn (ai R 12 (wN R * 12 + m))) 1 0) ++ flr (jwN (pcl R C L) (wN R) nk (wN R * 12 + m) (abv (pcl R C L) (wN R) nm (wN R * 12 + m))) (tn (ai R 14 (wN R * 12 + m))) 0) ks2 → FX (ELs U e0) h3 h' → Q none h' := fun h' ks' S' c' x' => by
      refine H h' ks' S' (c1.tr (c2.tr c')) ⟨fun b e => ?_, ?_⟩ (frm ((x2.mono (fun _ _ z => Or.inl z)).tr ((x3.mono (fun _ _ z => Or.inr z)).tr (x'.mono (fun _ _ z => Or.inl z)))))
      · exact bod ((x2.mono (fun _ _ z => Or.inl z)).tr ((x3.mono (fun _ _ z => Or.inr z.1)).tr (x'.mono (fun _ _ z => Or.inl z)))) b e
      · rw [x'.fI W3.1.2.1 (els_no (by omega)), f3, ea]
    have ut3 : tg h3 U = 11 := S3.1.2.2.2.1
    rw [ea] at S3 fin
    cases eo : mN R (wN R) nm (al R 11 (wN R * 12 + m)) with
    | none =>
      have nil : flr (jwN (pcl R C L) (wN R) nk (wN R * 12 + m) none) (tn (ai R 14 (wN R * 12 + m))) 0 = [] := flr_nil _ _ (fun i _ _ => by
        unfold jwN
        cases kN (pcl R C L) (wN R) nk (al (pcl R C L) 15 (4 * (wN R * 12 + m) + i)) (ai (pcl R C L) 16 (4 * (wN R * 12 + m) + i)) <;> rfl)
      rw [eo, nil, decide_eq_true rfl, lif_t] at S3 fin
      refine ⟨fun z => absurd rfl z, fun _ => ?_⟩
      obtain ⟨p1, p2, p3⟩ := plp_is o4
      show wp _ _ 31 _ [(0, vr (some J)), (1, vr (some (fW m))), (2, vr none)] _ _
      rw [bk_X2_judgeWay_31, nn_some, k3, nn_some, (W3.2.2.2.2.2.2.1 z0).2.2.1]
      refine ⟨k1, W3.1.1, ut3, ?_⟩
      show wp _ _ _ _ [(0, vr (some U)), (1, vi (nI 1)), (2, vi (ai R 12 (wN R * 12 + m))), (3, vi (-1))] _ _
      rw [← kI_0, p1]
      refine j_noteL (d := d + 792) S3 p2 p3 (by omega) (by omega) (fun h5 ks5 S5 c5 x5 => ?_)
      simp only [psh]
      rw [bk_X2_judgeWay_38, bk_X2_judgeWay_46]
      exact fin h5 ks5 S5 (by rw [List.append_nil]; exact c5) x5
    | some m' =>
      have hm' := mN_lt eo
      rw [eo, decide_eq_false (fun z => by cases z), lif_f, List.nil_append] at S3 fin
      refine ⟨fun _ => ?_, fun z => by cases z⟩
      have W4 := Bs.way S3.2.2.2 hm'
      show wp _ _ 39 _ [(0, vr (some J)), (1, vr (some (fW m))), (2, vr (some (fW m')))] _ _
      rw [bk_X2_judgeWay_39, nn_some, nn_some, W4.1.2.2, nn_some, n_asSet W4.2.1, W3.1.2.2]
      refine ⟨W3.1.1, W4.1.1, W4.2.1.1, ?_⟩
      simp only [psh]
      have et' : thrO (pcl R C L) (wN R) nk (some m') = nsS (fun i => kN R (wN R) (nkN R) (al R 15 (4 * (wN R * 12 + m') + i)) (ai R 16 (4 * (wN R * 12 + m') + i))) (tn (ai R 14 (wN R * 12 + m'))) := by
        rw [K.1]; exact thrS_ns R C L (wN R) (nkN R) (wN R * 12 + m')
      rw [bk_X2_judgeWay_45, nn_some]
      have D3 := W3.2.1
      rw [← K.1] at D3
      refine ⟨k1, jn_wider (d := d + 791) (C := C) (L := L) Bs K (fun z => by cases z) et' S3 D3 (fun i hi => (aP i hi).2) (fun h5 ks5 S5 c5 x5 => ?_)⟩
      simp only [psh]
      rw [bk_X2_judgeWay_46]
      exact fin h5 ks5 S5 c5 x5
  · have z := Classical.not_not.mp z
    have z0 : al R 11 (wN R * 12 + m) = 0 := Classical.byContradiction (fun y => by rw [decide_eq_true y] at z; cases z)
    have ea : abv (pcl R C L) (wN R) nm (wN R * 12 + m) = none := if_pos z0
    have nil : flr (jwN (pcl R C L) (wN R) nk (wN R * 12 + m) none) (tn (ai R 14 (wN R * 12 + m))) 0 = [] := flr_nil _ _ (fun i _ _ => by
      unfold jwN
      cases kN (pcl R C L) (wN R) nk (al (pcl R C L) 15 (4 * (wN R * 12 + m) + i)) (ai (pcl R C L) 16 (4 * (wN R * 12 + m) + i)) <;> rfl)
    rw [ea, nil, z, Bool.false_and, lif_f] at S2 H
    rw [bk_X2_judgeWay_15]
    exact H h2 ks2 S2 (c1.tr (c2.tr CTK.rf)) ⟨bod (x2.mono (fun _ _ z => Or.inl z)), by rw [ov2, ea]; rfl⟩ (frm (x2.mono (fun _ _ z => Or.inl z)))
/-- all methods -/
theorem jn_judge (Bs : JBS h0 U a0 J R G nm fW) (K : KEQ R nk par) (eq : ∀ t, SRG R t → L t = b2i (lvS (pcl R C L) (wN R) (nsC R) t) ∧ C t = canS (pcl R C L) (wN R) nk nm (nsC R) t) (S : JST h0 T U e0 R G nm fW nk par wk pk ns fS h0 ks (B + (flr (fun m => jbO R C L G nk nm (oN (ai R 17 (wN R * 12 + m))) ++ jwA (pcl R C L) (wN R) nk nm m) nm 0).length))
    (H : ∀ h' ks', JST h0 T U e0 R G nm fW nk par wk pk ns fS h' ks' B → CTK ks' (flr (fun m => jbO R C L G nk nm (oN (ai R 17 (wN R * 12 + m))) ++ jwA (pcl R C L) (wN R) nk nm m) nm 0) ks → (∀ m, m < nm → JDW R C L G nm fW h' m) → Q none h') : wp (d + 801) K_X2_judge 0 [] [(0, vr (some J))] h0 Q := by
  have TR := Bs.1
  have s2 := TR.2.2.2.2.1
  have A := Bs.2.1
  have nm12 := Bs.2.2.2.2.2.2.1
  have inj := Bs.2.2.2.2.2.2.2
  have un0 : ∀ s, SRG R s → UNJ R G h0 s := fun s hs => ⟨(A.2.1 s hs.1 hs.2).1.2.2.2.2.2.2.2.2.2.2, fun h9 => (Bs.nt hs h9).1⟩
  have bodr : ∀ m b, m < nm → oN (ai R 17 (wN R * 12 + m)) = some b → (wN R * 120 ≤ G 4 b ∧ G 5 b ≤ rsN R) ∧ (wN R * 1024 ≤ b ∧ b < nbN R) ∧ ai R 41 b = -1 := fun m b hm e => by
    have mb := bod_in hm e
    have l := (TR.1.1.le).2 b mb
    have q := TR.1.2 b mb
    exact ⟨⟨by omega, by omega⟩, ⟨by omega, by omega⟩, q.1.1⟩
  rw [bk_X2_judge_0, show ((1 : Nat), vi 0) = (1, vi (nI 0)) from rfl]
  have LP : ∀ f m (h : AH) ks1, m + f = nm → JST h0 T U e0 R G nm fW nk par wk pk ns fS h ks1 (B + (flr (fun m => jbO R C L G nk nm (oN (ai R 17 (wN R * 12 + m))) ++ jwA (pcl R C L) (wN R) nk nm m) f m).length) → (∀ i, i < m → JDW R C L G nm fW h i) → (∀ i, m ≤ i → i < nm → (∀ b, oN (ai R 17 (wN R * 12 + i)) = some b → ∀ s, G 4 b ≤ s → s < G 5 b → UNJ R G h s) ∧ fI h 1206 (fW i) = -1) → (∀ h' ks', JST h0 T U e0 R G nm fW nk par wk pk ns fS h' ks' B → CTK ks' (flr (fun m => jbO R C L G nk nm (oN (ai R 17 (wN R * 12 + m))) ++ jwA (pcl R C L) (wN R) nk nm m) f m) ks1 → (∀ m, m < nm → JDW R C L G nm fW h' m) → Q none h') → wp (d + 801) K_X2_judge 2 [] [(0, vr (some J)), (1, vi (nI m))] h Q := by
    intro f
    induction f with
    | zero =>
      intro m h ks1 e S1 jd un H1
      obtain ⟨j1, j2, j3, j4⟩ := Bs.jo S1.2.2.2
      obtain ⟨eW, eS, eM, aW, aS, cM, ⟨t1, t2⟩, rest⟩ := id S1.2.2.1.1
      have c4 := S1.1.2.2.2.1
      have c6 := S1.1.2.2.2.2.2.1
      rw [bk_X2_judge_2, j3, nn_some, c6, nn_some, l_size aW]
      refine ⟨j1, c4, aW.1, ?_⟩
      simp only [psh]
      rw [bk_X2_judge_7, nI_leI (by omega) (by omega)]
      refine ⟨fun _ => ?_, fun z => by omega⟩
      rw [bk_X2_judge_22]
      exact H1 h ks1 S1 CTK.rf (fun i hi => jd i (by omega))
    | succ f ih =>
      intro m h ks1 e S1 jd un H1
      have hm : m < nm := by omega
      obtain ⟨j1, j2, j3, j4⟩ := Bs.jo S1.2.2.2
      obtain ⟨eW, eS, eM, aW, aS, cM, ⟨t1, t2⟩, rest⟩ := id S1.2.2.1.1
      have c4 := S1.1.2.2.2.1
      have c6 := S1.1.2.2.2.2.2.1
      rw [bk_X2_judge_2, j3, nn_some, c6, nn_some, l_size aW]
      refine ⟨j1, c4, aW.1, ?_⟩
      simp only [psh]
      rw [bk_X2_judge_7, nI_leI (by omega) (by omega)]
      refine ⟨fun z => by omega, fun _ => ?_⟩
      rw [bk_X2_judge_8, j3, nn_some, c6, nn_some, l_get aW hm (by omega)]
      refine ⟨j1, c4, aW.1, ?_⟩
      simp only [psh]
      rw [bk_X2_judge_13]
      refine ⟨fun a ea => (Option.some.inj ea) ▸ t1 m hm, fun z => (by cases z), fun _ => ?_⟩
      rw [show flr (fun m => jbO R C L G nk nm (oN (ai R 17 (wN R * 12 + m))) ++ jwA (pcl R C L) (wN R) nk nm m) (f + 1) m = (jbO R C L G nk nm (oN (ai R 17 (wN R * 12 + m))) ++ jwA (pcl R C L) (wN R) nk nm m) ++ flr (fun m => jbO R C L G nk nm (oN (ai R 17 (wN R * 12 + m))) ++ jwA (pcl R C L) (wN R) nk nm m) f (m + 1) from rfl] at S1 H1
      rw [List.length_append, ← Nat.add_assoc, Nat.add_right_comm] at S1
      rw [bk_X2_judge_17]
      refine ⟨j1, jn_way (d := d) (C := C) (L := L) Bs K eq hm S1 (un m (Nat.le_refl _) hm).1 (un m (Nat.le_refl _) hm).2 (fun h' ks' S' c' w' x' => ?_)⟩
      simp only [psh]
      rw [bk_X2_judge_20, nI_1]
      -- what is kept
      have sepS : ∀ i b, i < nm → oN (ai R 17 (wN R * 12 + i)) = some b → (∀ c, oN (ai R 17 (wN R * 12 + m)) = some c → ¬ b = c) → ∀ s, G 4 b ≤ s → s < G 5 b → (¬ ∃ c, oN (ai R 17 (wN R * 12 + m)) = some c ∧ inS (G 4 c) (G 5 c) s) ∧ ∀ k, k ∈ kids R s → ¬ ∃ c, oN (ai R 17 (wN R * 12 + m)) = some c ∧ kdB R G c k := fun i b hi eb ne s z1 z2 => by
        obtain ⟨⟨r1, r2⟩, r3, r4⟩ := bodr i b hi eb
        have hs : SRG R s := ⟨by omega, by omega⟩
        refine ⟨fun ⟨c, ec, zc⟩ => ne c ec (CI.dj TR.1.1 (bod_in hi eb) (bod_in hm ec) z1 z2 zc.1 zc.2), fun k mk ⟨c, ec, zc⟩ => ?_⟩
        rcases zc with zc | ⟨s', s1, s2', s3, s4⟩
        · rw [zc] at mk
          have k1 := (kid_is (TR.2.1 s hs.1 hs.2).1.2.2.2.2.1 TR.2.2.2.2.2 mk).1
          rw [(bodr m c hm ec).2.2] at k1
          exact nI_ne_m1 (by omega) k1.symm
        · have := kid_own TR hs s3 mk s4
          rw [← this] at s1 s2'
          exact ne c ec (CI.dj TR.1.1 (bod_in hi eb) (bod_in hm ec) z1 z2 s1 s2')
      have xE : ∀ g y, ¬ g = 1206 → EJM U e0 R G fW m g y → EJP U e0 R G (fun s => ∃ b, oN (ai R 17 (wN R * 12 + m)) = some b ∧ inS (G 4 b) (G 5 b) s) (fun c => ∃ b, oN (ai R 17 (wN R * 12 + m)) = some b ∧ kdB R G b c) g y := fun g y n z => z.elim id (fun z => absurd z.1 n)
      have v12 : ∀ i, i < nm → ¬ i = m → fI h' 1206 (fW i) = fI h 1206 (fW i) := fun i hi ne => by
        rw [x'.fI (Bs.way S1.2.2.2 hi).1.2.1 (fun z => ?_)]
        rcases z with z | z
        · have := EJP.is z; omega
        · exact ne (inj i m hi hm z.2)
      have kS : ∀ i b, i < nm → oN (ai R 17 (wN R * 12 + i)) = some b → (∀ c, oN (ai R 17 (wN R * 12 + m)) = some c → ¬ b = c) → ∀ s, G 4 b ≤ s → s < G 5 b → (UNJ R G h s → UNJ R G h' s) ∧ (JDS R C L G nm h s → JDS R C L G nm h' s) := fun i b hi eb ne s z1 z2 => by
        obtain ⟨⟨r1, r2⟩, r3, r4⟩ := bodr i b hi eb
        have hs : SRG R s := ⟨by omega, by omega⟩
        have lt := (Bs.sim S1.2.2.2 hs).1.2
        have wk := (TR.2.1 s hs.1 hs.2).2
        obtain ⟨np, nd⟩ := sepS i b hi eb ne s z1 z2
        have nS : ∀ g, g = 814 ∨ g = 10815 ∨ g = 807 → ¬ EJM U e0 R G fW m g (G 0 s) := fun g hg z => np (EJP.st Bs hs hg (xE g _ (by omega) z))
        have nN : ∀ g y, g = 30600 ∨ g = 30601 ∨ g = 30602 ∨ g = 603 → ¬ EJM U e0 R G fW m g y := fun g y hg z => by have := EJP.is (xE g _ (by omega) z); omega
        refine ⟨fun u => ⟨?_, fun h9 => ?_⟩, fun u => ⟨⟨?_, ?_⟩, fun c mc => ⟨?_, ?_⟩, fun q => ?_, fun h9 => ?_⟩⟩
        · rw [x'.fI lt (nS _ (by omega))]; exact u.1
        · obtain ⟨n1, n2, n3⟩ := EJP.nd (e0 := e0) (P := fun s => ∃ b, oN (ai R 17 (wN R * 12 + m)) = some b ∧ inS (G 4 b) (G 5 b) s) (D := fun c => ∃ b, oN (ai R 17 (wN R * 12 + m)) = some b ∧ kdB R G b c) Bs hs h9 np
          exact (u.2 h9).fx x' (fun g hg => nN g _ (by omega)) (fun z => n1 (xE _ _ (by omega) z)) (fun z => n2 (xE _ _ (by omega) z)) (fun z => n3 (xE _ _ (by omega) z))
        · rw [x'.fI lt (nS _ (by omega))]; exact u.1.1
        · rw [x'.fI lt (nS _ (by omega))]; exact u.1.2
        · rw [x'.fI (Bs.bim S1.2.2.2 (wk c mc)).1.2 (fun z => nd c mc (EJP.bk Bs (wk c mc) (by omega) (xE _ _ (by omega) z)))]; exact (u.2.1 c mc).1
        · rw [x'.fI (Bs.bim S1.2.2.2 (wk c mc)).1.2 (fun z => nd c mc (EJP.bk Bs (wk c mc) (by omega) (xE _ _ (by omega) z)))]; exact (u.2.1 c mc).2
        · rw [x'.fI lt (nS _ (by omega))]; exact u.2.2.1 q
        · obtain ⟨n1, n2, n3⟩ := EJP.nd (e0 := e0) (P := fun s => ∃ b, oN (ai R 17 (wN R * 12 + m)) = some b ∧ inS (G 4 b) (G 5 b) s) (D := fun c => ∃ b, oN (ai R 17 (wN R * 12 + m)) = some b ∧ kdB R G b c) Bs hs h9 np
          exact (u.2.2.2 h9).fx x' (fun g hg => nN g _ (by omega)) (fun z => n1 (xE _ _ (by omega) z)) (fun z => n2 (xE _ _ (by omega) z)) (fun z => n3 (xE _ _ (by omega) z))
      refine wp_cut 2 (ih (m + 1) h' ks' (by omega) S' (fun i hi => ?_) (fun i h1 h2 => ?_) (fun h5 ks5 S5 c5 q5 => H1 h5 ks5 S5 (c'.tr c5) q5))
      · by_cases y : i = m
        · rw [y]; exact w'
        · have old := jd i (by omega)
          refine ⟨fun b eb => ?_, by rw [v12 i (by omega) y]; exact old.2⟩
          by_cases ne : ∀ c, oN (ai R 17 (wN R * 12 + m)) = some c → ¬ b = c
          · have r3 := (bodr i b (by omega) eb).2.1
            have nd : ¬ ∃ c, oN (ai R 17 (wN R * 12 + m)) = some c ∧ kdB R G c b := fun ⟨c, ec, zc⟩ => by
              rcases zc with zc | ⟨s', s1, s2', s3, s4⟩
              · exact ne c ec zc
              · have k1 := (kid_is (TR.2.1 s' s3.1 s3.2).1.2.2.2.2.1 TR.2.2.2.2.2 s4).1
                rw [(bodr i b (by omega) eb).2.2] at k1
                have := s3.2
                exact nI_ne_m1 (by omega) k1.symm
            refine ⟨fun s z1 z2 => (kS i b (by omega) eb ne s z1 z2).2 ((old.1 b eb).1 s z1 z2), ?_, ?_⟩
            · rw [x'.fI (Bs.bim S1.2.2.2 r3).1.2 (fun z => nd (EJP.bk Bs r3 (by omega) (xE _ _ (by omega) z)))]; exact (old.1 b eb).2.1
            · rw [x'.fI (Bs.bim S1.2.2.2 r3).1.2 (fun z => nd (EJP.bk Bs r3 (by omega) (xE _ _ (by omega) z)))]; exact (old.1 b eb).2.2
          · have : ∃ c, oN (ai R 17 (wN R * 12 + m)) = some c ∧ b = c := Classical.byContradiction (fun q => ne (fun c ec e => q ⟨c, ec, e⟩))
            obtain ⟨c, ec, e⟩ := this
            rw [e]; exact w'.1 c ec
      · obtain ⟨u1, u2⟩ := un i (by omega) h2
        refine ⟨fun b eb s z1 z2 => ?_, by rw [v12 i h2 (by omega)]; exact u2⟩
        by_cases ne : ∀ c, oN (ai R 17 (wN R * 12 + m)) = some c → ¬ b = c
        · exact (kS i b h2 eb ne s z1 z2).1 (u1 b eb s z1 z2)
        · exfalso
          have : ∃ c, oN (ai R 17 (wN R * 12 + m)) = some c ∧ b = c := Classical.byContradiction (fun q => ne (fun c ec e => q ⟨c, ec, e⟩))
          obtain ⟨c, ec, e⟩ := this
          rw [← e] at ec
          have := bod_dup TR.1.1 hm h2 (by omega) ec eb
          omega
  refine LP nm 0 h0 ks (by omega) S (fun i hi => by omega) (fun i _ hi => ⟨fun b eb s z1 z2 => ?_, ?_⟩) H
  · obtain ⟨⟨r1, r2⟩, -⟩ := bodr i b hi eb
    exact un0 s ⟨by omega, by omega⟩
  · exact (Bs.2.2.2.1 i hi).1.2.2.2.2.2.2.2.1
end
