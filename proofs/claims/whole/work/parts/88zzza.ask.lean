/-! The class's questions -/
section
variable {d : Nat} {h : AH} {Q : Option V → AH → Prop} {a T W U V' e0 n : Nat} {t : Nat → Int32} {R : RV} {C L : Nat → Int32} {G : Nat → Nat → Nat} {nm : Nat} {fW : Nat → Nat} {nk : Nat} {par : Nat → Nat} {wk : Nat → Int64} {pk : Nat → Int32} {ns : Nat} {fS : Nat → Nat} {ks : List Nat}
theorem c_kind (O : COB h a T W U) (N : UNF h U V' e0 R C L G nm fW nk par wk pk ns fS ks) (x y : Int32) (H : Q (some (vi (kinS (pcl R C L) (wN R) nk x y))) h) : wp (d + 2) K_X11_kind 0 [] [(0, vr (some a)), (1, vi x), (2, vi y)] h Q := by
  obtain ⟨o1, o2, o3, o4, o5, o6⟩ := O
  obtain ⟨⟨u1, u2, -⟩, K, -, -, -, ⟨KE, vals⟩, -⟩ := N
  have kt := K.1
  have h16 := KE.2.1
  obtain ⟨-, k2, -, ⟨k3, k4, k5⟩, ⟨k6, k7, k8⟩, -, -, -, k9, -⟩ := id K
  unfold kinS at H
  rw [bk_X11_kind_0, o5, nn_some, u2, nn_some, k_has K]
  refine ⟨o1, u1, kt, ?_⟩
  simp only [psh]
  rw [bk_X11_kind_7, b2i_0]
  rcases ixO_cases x (n := nk) (by omega) with ⟨e, z⟩ | ⟨j, hj, ej, e⟩
  · rw [e] at H ⊢
    refine ⟨fun z => absurd (decide_eq_false (fun q => q rfl)) z, fun _ => ?_⟩
    rw [bk_X11_kind_8]; exact H
  · rw [e] at H ⊢
    refine ⟨fun _ => ?_, fun z => absurd (fun q => by rw [decide_eq_true (fun q => by cases q)] at q; cases q) z⟩
    have H : Q (some (vi (if y = 0 then (if j = 0 then -1 else nI (parN (pcl R C L) (wN R) nk j)) else if y = 1 then b2i (chk (pcl R C L) (wN R) nk j) else if y = 2 then ai R 4 (wN R * 16 + j) else -3))) h := H
    obtain ⟨-, q2, q3, -⟩ := k9 j hj
    rw [bk_X11_kind_10]
    refine ⟨fun z => ?_, fun i hi ei => ?_⟩
    · have q := fun k hk => out_ne z (by omega) k hk
      rw [if_neg (show ¬ y = 0 from q 0 (by omega)), if_neg (show ¬ y = 1 from q 1 (by omega)), if_neg (show ¬ y = 2 from q 2 (by omega))] at H
      rw [bk_X11_kind_27]; exact H
    · rcases (show i = 0 ∨ i = 1 ∨ i = 2 by omega) with z | z | z
      all_goals rw [z] at ei ⊢; rw [ei] at H ⊢
      · show wp _ K_X11_kind 12 _ _ _ _
        rw [if_pos (by decide)] at H
        rw [bk_X11_kind_12, nn_some, k3, nn_some, ej, nI_clamp (by omega), q2]
        refine ⟨kt, Or.inl k4, by rw [k5]; exact pk_in j 16 (by omega), ?_⟩
        rw [KE.2.2.2.1 j hj]; exact H
      · show wp _ K_X11_kind 17 _ _ _ _
        rw [if_neg (by decide), if_pos (by decide)] at H
        rw [bk_X11_kind_17, nn_some, k_isChecked K, e]
        refine ⟨kt, ?_⟩
        simp only [psh]
        rw [bk_X11_kind_20, KE.ck (C := C) (L := L) hj]
        refine c_bit _ ?_
        simp only [psh]
        rw [bk_X11_kind_21]; exact H
      · show wp _ K_X11_kind 22 _ _ _ _
        rw [if_neg (by decide), if_neg (by decide), if_pos (by decide)] at H
        rw [bk_X11_kind_22, nn_some, k6, nn_some, ej, nI_clamp (by omega), q3, (vals j hj).2.2]
        exact ⟨kt, Or.inl k7, by rw [k8]; exact pk_in j 16 (by omega), H⟩
theorem c_below (O : COB h a T W U) (N : UNF h U V' e0 R C L G nm fW nk par wk pk ns fS ks) (x y : Int32) (H : Q (some (vi (b2i (belS (pcl R C L) (wN R) nk x y)))) h) : wp (d + 2) K_X11_below 0 [] [(0, vr (some a)), (1, vi x), (2, vi y)] h Q := by
  obtain ⟨o1, o2, o3, o4, o5, o6⟩ := O
  obtain ⟨⟨u1, u2, -⟩, K, -, -, -, ⟨KE, vals⟩, -⟩ := N
  unfold belS at H
  rw [bk_X11_below_0, o5, nn_some, u2, nn_some, k_isUnder K]
  refine ⟨o1, u1, K.1, ?_⟩
  simp only [psh]
  rw [bk_X11_below_6]
  rcases ixO_cases x (n := nk) (by have := KE.2.1; omega) with ⟨ex, -⟩ | ⟨i, hi, -, ex⟩
  · rw [ex] at H ⊢
    exact ⟨Or.inl rfl, H⟩
  · rw [ex] at H ⊢
    cases ey : ixO y nk with
    | none =>
      rw [ey] at H
      exact ⟨Or.inl rfl, H⟩
    | some j =>
      rw [ey] at H
      have H : Q (some (vi (b2i (bel (pcl R C L) (wN R) nk i j)))) h := H
      show (b2i (belP par i j) = 0 ∨ b2i (belP par i j) = 1) ∧ Q (some (vi (b2i (belP par i j)))) h
      rw [KE.bl (C := C) (L := L) hi j]
      exact ⟨by cases bel (pcl R C L) (wN R) nk i j <;> decide, H⟩
theorem c_statement (O : COB h a T W U) (N : UNF h U V' e0 R C L G nm fW nk par wk pk ns fS ks) (x y : Int32) (H : Q (some (vi (staS (pcl R C L) (wN R) ns x y))) h) : wp (d + 3) K_X11_statement 0 [] [(0, vr (some a)), (1, vi x), (2, vi y)] h Q := by
  obtain ⟨o1, o2, o3, o4, o5, o6⟩ := O
  obtain ⟨⟨u1, u2, u3, u4, u5, -⟩, K, ⟨eW, eS, eM, aW, aS, -⟩, ⟨-, tS⟩, -, -, ⟨TR, -, -, ens, n120, efS⟩, ST, -⟩ := N
  unfold staS at H
  have bad : ixO x ns = none → wp (d + 3) K_X11_statement 8 [] [(0, vr (some a)), (1, vi x), (2, vi y)] h Q := fun e => by
    rw [e] at H
    rw [bk_X11_statement_8]; exact H
  rw [bk_X11_statement_0]
  rcases ixO_cases x (n := ns) (by omega) with ⟨e, z⟩ | ⟨j, hj, ej, e⟩
  · refine ⟨fun _ => bad e, fun q => ?_⟩
    rw [bk_X11_statement_2, o5, nn_some, u4, nn_some, l_size aS]
    refine ⟨o1, u1, aS.1, ?_⟩
    simp only [psh]
    rw [bk_X11_statement_7]
    refine ⟨fun y => ?_, fun _ => bad e⟩
    rcases z with z | z
    · exact absurd z q
    · exact absurd y (Int32.not_lt.mpr z.2)
  · have n0 : ¬ x < 0 := by rw [ej]; exact nI_pos (by omega)
    refine ⟨fun z => absurd z n0, fun _ => ?_⟩
    rw [bk_X11_statement_2, o5, nn_some, u4, nn_some, l_size aS]
    refine ⟨o1, u1, aS.1, ?_⟩
    simp only [psh]
    rw [bk_X11_statement_7, ej, nI_ltI (by omega) (by omega)]
    refine ⟨fun _ => ?_, fun z => absurd hj z⟩
    rw [bk_X11_statement_10, o5, nn_some, u4, nn_some, l_get aS hj (by omega)]
    refine ⟨o1, u1, aS.1, ?_⟩
    simp only [psh]
    have hs : SRG R (wN R * 120 + j) := ⟨by omega, by show wN R * 120 + j < wN R * 120 + nsC R; omega⟩
    obtain ⟨⟨⟨i1, i2⟩, ⟨i3, i4, i5, -⟩, -⟩, ⟨⟨c1, c2⟩, -⟩, l01⟩ := ST _ hs
    rw [e] at H
    have H : Q (some (vi (if y = 0 then ai R 19 (wN R * 120 + j) else if y = 1 then ai R 20 (wN R * 120 + j) else if y = 2 then C (wN R * 120 + j) else if y = 3 then b2i (decide (¬ L (wN R * 120 + j) = 0)) else if y = 4 then ai R 22 (wN R * 120 + j) else -3))) h := H
    rw [bk_X11_statement_15, efS j hj]
    refine ⟨fun a ea => (Option.some.inj ea) ▸ i1, fun z => ?_, fun i hi ei => ?_⟩
    · have q := fun k hk => out_ne z (by omega) k hk
      rw [if_neg (show ¬ y = 0 from q 0 (by omega)), if_neg (show ¬ y = 1 from q 1 (by omega)), if_neg (show ¬ y = 2 from q 2 (by omega)), if_neg (show ¬ y = 3 from q 3 (by omega)), if_neg (show ¬ y = 4 from q 4 (by omega))] at H
      rw [bk_X11_statement_35]; exact H
    · rcases (show i = 0 ∨ i = 1 ∨ i = 2 ∨ i = 3 ∨ i = 4 by omega) with z | z | z | z | z
      all_goals rw [z] at ei ⊢; rw [ei] at H ⊢
      · show wp _ K_X11_statement 19 _ _ _ _
        rw [if_pos (by decide)] at H
        rw [bk_X11_statement_19, nn_some, i3]; exact ⟨i1, H⟩
      · show wp _ K_X11_statement 22 _ _ _ _
        rw [if_neg (by decide), if_pos (by decide)] at H
        rw [bk_X11_statement_22, nn_some, i4]; exact ⟨i1, H⟩
      · show wp _ K_X11_statement 25 _ _ _ _
        rw [if_neg (by decide), if_neg (by decide), if_pos (by decide)] at H
        rw [bk_X11_statement_25, nn_some, c1]; exact ⟨i1, H⟩
      · show wp _ K_X11_statement 28 _ _ _ _
        rw [if_neg (by decide), if_neg (by decide), if_neg (by decide), if_pos (by decide)] at H
        have el : L (wN R * 120 + j) = b2i (decide (¬ L (wN R * 120 + j) = 0)) := by
          rcases l01 with z | z <;> rw [z] <;> rfl
        rw [bk_X11_statement_28, nn_some, c2, el]
        refine ⟨i1, c_bit _ ?_⟩
        simp only [psh]
        rw [bk_X11_statement_31]
        rw [el] at H
        have : b2i (decide (¬ b2i (decide (¬ L (wN R * 120 + j) = 0)) = 0)) = b2i (decide (¬ L (wN R * 120 + j) = 0)) := b2i_nz _
        rw [this] at H
        exact H
      · show wp _ K_X11_statement 32 _ _ _ _
        rw [if_neg (by decide), if_neg (by decide), if_neg (by decide), if_neg (by decide), if_pos (by decide)] at H
        rw [bk_X11_statement_32, nn_some, i5]; exact ⟨i1, H⟩
theorem c_wayAt (N : UNF h U V' e0 R C L G nm fW nk par wk pk ns fS ks) (x : Int32) (H : Q (some (vr ((ixO x nm).map fW))) h) : wp (d + 3) K_X8_wayAt 0 [] [(0, vr (some U)), (1, vi x)] h Q := by
  obtain ⟨⟨c4, -, c6, -⟩, -, ⟨eW, eS, eM, aW, -⟩, ⟨t1, -⟩, -, -, ⟨-, -, r13, -⟩, -⟩ := N
  have no : ixO x nm = none → wp (d + 3) K_X8_wayAt 13 [] [(0, vr (some U)), (1, vi x)] h Q := fun e => by
    rw [bk_X8_wayAt_13, bk_X8_wayAt_14]
    rw [e] at H; exact H
  rw [bk_X8_wayAt_0]
  rcases ixO_cases x (n := nm) (by omega) with ⟨e, z⟩ | ⟨j, hj, ej, e⟩
  · refine ⟨fun _ => no e, fun n => ?_⟩
    rw [bk_X8_wayAt_2, c6, nn_some, l_size aW]
    refine ⟨c4, aW.1, ?_⟩
    simp only [psh]
    rw [bk_X8_wayAt_6]
    refine ⟨fun _ => no e, fun n2 => ?_⟩
    rcases z with z | z
    · exact absurd z n
    · exact absurd z.2 n2
  · have n0 : ¬ x < 0 := by rw [ej]; exact nI_pos (by omega)
    refine ⟨fun z => absurd z n0, fun _ => ?_⟩
    rw [bk_X8_wayAt_2, c6, nn_some, l_size aW]
    refine ⟨c4, aW.1, ?_⟩
    simp only [psh]
    rw [bk_X8_wayAt_6, ej, nI_leI (by omega) (by omega)]
    refine ⟨fun z => by omega, fun _ => ?_⟩
    rw [bk_X8_wayAt_7, c6, nn_some, l_get aW hj (by omega)]
    refine ⟨c4, aW.1, ?_⟩
    simp only [psh]
    rw [bk_X8_wayAt_11, bk_X8_wayAt_14]
    rw [e] at H
    exact ⟨fun a ea => (Option.some.inj ea) ▸ t1 j hj, H⟩
theorem c_method (O : COB h a T W U) (N : UNF h U V' e0 R C L G nm fW nk par wk pk ns fS ks) (x y : Int32) (H : Q (some (vi (metS (pcl R C L) (wN R) nk nm x y))) h) : wp (d + 4) K_X11_method 0 [] [(0, vr (some a)), (1, vi x), (2, vi y)] h Q := by
  obtain ⟨o1, o2, o3, o4, o5, o6⟩ := O
  have u1 := N.1.1
  have n12 := N.2.2.2.2.2.2.1.2.2.1
  have KE := N.2.2.2.2.2.1.1
  have TR := N.2.2.2.2.2.2.1.1
  unfold metS at H
  rw [bk_X11_method_0, o5, nn_some]
  refine ⟨o1, u1, c_wayAt (d := d) N x ?_⟩
  simp only [psh]
  rw [bk_X11_method_4]
  rcases ixO_cases x (n := nm) (by omega) with ⟨e, z⟩ | ⟨j, hj, ej, e⟩
  · rw [e] at H ⊢
    refine ⟨fun z => absurd rfl z, fun _ => ?_⟩
    rw [bk_X11_method_7]; exact H
  · rw [e] at H ⊢
    refine ⟨fun _ => ?_, fun z => by cases z⟩
    obtain ⟨WY, JW⟩ := N.2.2.2.2.2.2.2.2.2.1 j hj
    obtain ⟨⟨w1, w2, w3⟩, wN', -, -, ⟨w4, -⟩, -, -, ⟨w5, w6⟩, w7, -⟩ := WY
    have H : Q (some (vi (if y = 0 then ai R 10 (wN R * 12 + j) else if y = 1 then b2i (decide (¬ ai R 17 (wN R * 12 + j) = -1)) else if y = 2 then bcS (pcl R C L) (oN (ai R 17 (wN R * 12 + j))) else if y = 3 then thrS (pcl R C L) (wN R) nk (wN R * 12 + j) else if y = 4 then b2i (lfB (pcl R C L) (oN (ai R 17 (wN R * 12 + j)))) else if y = 5 then b2i (decide (¬ ai R 13 (wN R * 12 + j) = 0)) else if y = 6 then oI (abv (pcl R C L) (wN R) nm (wN R * 12 + j)) else -3))) h := H
    show wp _ _ 9 _ [(0, vr (some a)), (1, vi x), (2, vi y), (3, vr (some (fW j)))] _ _
    have ob : oN (ai R 17 (wN R * 12 + j)) = none ↔ ai R 17 (wN R * 12 + j) = -1 := by
      unfold oN
      by_cases q : ai R 17 (wN R * 12 + j) = -1
      · rw [if_pos q]; exact ⟨fun _ => q, fun _ => rfl⟩
      · rw [if_neg q]; exact ⟨fun z => (by cases z), fun z => absurd z q⟩
    have tb : ∀ b, oN (ai R 17 (wN R * 12 + j)) = some b → tg h (G 1 b) = 3 ∧ JDB R C L G h b := fun b eb => by
      have rg := TR.1.2 b (bod_in hj eb)
      exact ⟨(N.2.2.2.2.2.2.2.2.1 b ⟨by omega, by omega⟩).1.1, (JW.1 b eb).2⟩
    have w8 := JW.2
    rw [bk_X11_method_9, nn_some, w7]
    refine ⟨w1, fun z => ?_, fun i hi ei => ?_⟩
    · have q := fun k hk => out_ne z (by omega) k hk
      rw [if_neg (show ¬ y = 0 from q 0 (by omega)), if_neg (show ¬ y = 1 from q 1 (by omega)), if_neg (show ¬ y = 2 from q 2 (by omega)), if_neg (show ¬ y = 3 from q 3 (by omega)), if_neg (show ¬ y = 4 from q 4 (by omega)), if_neg (show ¬ y = 5 from q 5 (by omega)), if_neg (show ¬ y = 6 from q 6 (by omega))] at H
      rw [bk_X11_method_52]; exact H
    · generalize oN (ai R 17 (wN R * 12 + j)) = ob' at *
      rcases (show i = 0 ∨ i = 1 ∨ i = 2 ∨ i = 3 ∨ i = 4 ∨ i = 5 ∨ i = 6 by omega) with z | z | z | z | z | z | z
      all_goals rw [z] at ei ⊢; rw [ei] at H ⊢
      · show wp _ K_X11_method 14 _ _ _ _
        rw [if_pos (by decide)] at H
        rw [bk_X11_method_14, nn_some, w4]; exact ⟨w1, H⟩
      · show wp _ K_X11_method 17 _ _ _ _
        rw [if_neg (by decide), if_pos (by decide)] at H
        rw [bk_X11_method_17]
        cases ob' with
        | none =>
          rw [decide_eq_false (fun q => q (ob.mp rfl))] at H
          refine ⟨fun _ => ?_, fun z => absurd rfl z⟩
          rw [bk_X11_method_21, bk_X11_method_22, show vi 0 = vi (b2i false) from rfl]
          refine c_bit _ ?_
          simp only [psh]
          rw [bk_X11_method_23]; exact H
        | some b =>
          have ne : ¬ ai R 17 (wN R * 12 + j) = -1 := fun q => by have := ob.mpr q; cases this
          rw [decide_eq_true ne] at H
          refine ⟨fun z => (by cases z), fun _ => ?_⟩
          rw [bk_X11_method_19, bk_X11_method_22, show vi 1 = vi (b2i true) from rfl]
          refine c_bit _ ?_
          simp only [psh]
          rw [bk_X11_method_23]; exact H
      · show wp _ K_X11_method 24 _ _ _ _
        rw [if_neg (by decide), if_neg (by decide), if_pos (by decide)] at H
        rw [bk_X11_method_24]
        cases ob' with
        | none =>
          refine ⟨fun z => absurd rfl z, fun _ => ?_⟩
          rw [bk_X11_method_26, bk_X11_method_30]; exact H
        | some b =>
          refine ⟨fun _ => ?_, fun z => by cases z⟩
          show wp _ _ 28 _ [(0, vr (some a)), (1, vi x), (2, vi _), (3, vr (some (fW j))), (4, vr (some (G 1 b)))] _ _
          rw [bk_X11_method_28, nn_some, bk_X11_method_30, (tb b rfl).2.1]
          exact ⟨(tb b rfl).1, H⟩
      · show wp _ K_X11_method 31 _ _ _ _
        rw [if_neg (by decide), if_neg (by decide), if_neg (by decide), if_pos (by decide)] at H
        rw [bk_X11_method_31, nn_some, w3, nn_some, n_asSet wN']
        refine ⟨w1, wN'.1, ?_⟩
        simp only [psh]
        rw [bk_X11_method_34]
        rw [thrS_ns, KE.1] at H
        exact H
      · show wp _ K_X11_method 35 _ _ _ _
        rw [if_neg (by decide), if_neg (by decide), if_neg (by decide), if_neg (by decide), if_pos (by decide)] at H
        have zero : lfB (pcl R C L) ob' = false → ∀ v4, wp (d + 4) K_X11_method 42 [] [(0, vr (some a)), (1, vi x), (2, vi (0 + Int32.ofNat 4)), (3, vr (some (fW j))), (4, vr v4)] h Q := fun q v4 => by
          rw [q] at H
          rw [bk_X11_method_42, bk_X11_method_43, show vi 0 = vi (b2i false) from rfl]
          refine c_bit _ ?_
          simp only [psh]
          rw [bk_X11_method_44]; exact H
        rw [bk_X11_method_35]
        cases ob' with
        | none => exact ⟨fun _ => zero rfl _, fun z => absurd rfl z⟩
        | some b =>
          refine ⟨fun z => (by cases z), fun _ => ?_⟩
          show wp _ _ 37 _ [(0, vr (some a)), (1, vi x), (2, vi _), (3, vr (some (fW j))), (4, vr (some (G 1 b)))] _ _
          rw [bk_X11_method_37, nn_some, (tb b rfl).2.2, b2i_0]
          refine ⟨(tb b rfl).1, fun q => zero q _, fun q => ?_⟩
          rw [bt q] at H
          rw [bk_X11_method_40, bk_X11_method_43, show vi 1 = vi (b2i true) from rfl]
          refine c_bit _ ?_
          simp only [psh]
          rw [bk_X11_method_44]; exact H
      · show wp _ K_X11_method 45 _ _ _ _
        rw [if_neg (by decide), if_neg (by decide), if_neg (by decide), if_neg (by decide), if_neg (by decide), if_pos (by decide)] at H
        have ef : ai R 13 (wN R * 12 + j) = b2i (decide (¬ ai R 13 (wN R * 12 + j) = 0)) := by
          rcases w6 with z | z <;> rw [z] <;> rfl
        rw [bk_X11_method_45, nn_some, w5]
        refine ⟨w1, ?_⟩
        rw [ef]
        refine c_bit _ ?_
        simp only [psh]
        rw [bk_X11_method_48]; exact H
      · show wp _ K_X11_method 49 _ _ _ _
        rw [if_neg (by decide), if_neg (by decide), if_neg (by decide), if_neg (by decide), if_neg (by decide), if_neg (by decide), if_pos (by decide)] at H
        rw [bk_X11_method_49, nn_some, w8]; exact ⟨w1, H⟩
theorem c_steps (O : COB h a T W U) (H : Q (some (vi (fI h 1102 W))) h) : wp d K_X11_steps 0 [] [(0, vr (some a))] h Q := by
  obtain ⟨o1, o2, o3, o4, o5, o6⟩ := O
  rw [bk_X11_steps_0, o4, nn_some]
  exact ⟨o1, o6.1, H⟩
theorem c_cut (O : COB h a T W U) (TT : TS h T t n) (x : Int32) (H1 : ixO x (n + 1) = none → Q (some (vi (-3))) h) (H2 : ∀ j, ixO x (n + 1) = some j → j ≤ n → x = nI j → Q (some (vi (nI n - x))) (setFI h 902 T x)) : wp d K_X11_cut 0 [] [(0, vr (some a)), (1, vi x)] h Q := by
  obtain ⟨o1, o2, o3, o4, o5, o6⟩ := O
  have t1 := TT.1
  have t9 := TT.2.2.2.2.2.2.2.2.1
  have n2 := TT.2.2.2.2.2.2.2.2.2.1
  have bad : ixO x (n + 1) = none → wp d K_X11_cut 7 [] [(0, vr (some a)), (1, vi x)] h Q := fun e => by
    rw [bk_X11_cut_7]; exact H1 e
  rw [bk_X11_cut_0]
  rcases ixO_cases x (n := n + 1) (by omega) with ⟨e, z⟩ | ⟨j, hj, ej, e⟩
  · refine ⟨fun _ => bad e, fun q => ?_⟩
    rw [bk_X11_cut_2, o3, nn_some, t9]
    refine ⟨o1, t1, fun y => ?_, fun _ => bad e⟩
    rcases z with z | z
    · exact absurd z q
    · exfalso
      have := Int32.le_trans z.2 y
      rw [nI_leI (by omega) (by omega)] at this
      omega
  · have n0 : ¬ x < 0 := by rw [ej]; exact nI_pos (by omega)
    refine ⟨fun z => absurd z n0, fun _ => ?_⟩
    rw [bk_X11_cut_2, o3, nn_some, t9]
    refine ⟨o1, t1, fun _ => ?_, fun y => ?_⟩
    · rw [bk_X11_cut_9, o3, nn_some, nn_some, t9]
      exact ⟨o1, t1, o1, t1, H2 j e (by omega) ej⟩
    · rw [ej, nI_leI (by omega) (by omega)] at y
      omega
end
