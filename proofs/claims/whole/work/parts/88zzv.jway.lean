/-! The class's judging: methods -/
section
variable {d : Nat} {h0 h : AH} {Q : Option V → AH → Prop} {T U a0 e0 J : Nat} {R : RV} {G : Nat → Nat → Nat} {nm : Nat} {fW : Nat → Nat} {nk : Nat} {par : Nat → Nat} {wk : Nat → Int64} {pk : Nat → Int32} {ns : Nat} {fS : Nat → Nat} {ks : List Nat} {B : Nat} {C L : Nat → Int32}
theorem jn_wider (Bs : JBS h0 U a0 J R G nm fW) (K : KEQ R nk par) {x N n : Nat} {o : Option Nat} {wd : Nat → Int64} {t : Int32} (on : ¬ o = none) (et : thrO (pcl R C L) (wN R) nk o = t) (S : JST h0 T U e0 R G nm fW nk par wk pk ns fS h ks (B + (flr (jwN (pcl R C L) (wN R) nk x o) n 0).length)) (D : ND h N n wd (fun i => ai R 16 (4 * x + i)) (fun i => kN R (wN R) nk (al R 15 (4 * x + i)) (ai R 16 (4 * x + i)))) (pl : ∀ i, i < n → plp (ai R 16 (4 * x + i)))
    (H : ∀ h' ks', JST h0 T U e0 R G nm fW nk par wk pk ns fS h' ks' B → CTK ks' (flr (jwN (pcl R C L) (wN R) nk x o) n 0) ks → FX (ELs U e0) h h' → Q none h') : wp (d + 8) K_X2_noteWider 0 [] [(0, vr (some J)), (1, vr (some N)), (2, vi t)] h Q := by
  have h16 := K.2.1
  have n4 : n ≤ 4 := D.2.2.2.2.2.2.1
  rw [bk_X2_noteWider_0, show ((3 : Nat), vi 0) = (3, vi (nI 0)) from rfl]
  have LP : ∀ f j (h1 : AH) ks1, j + f = 4 → ND h1 N n wd (fun i => ai R 16 (4 * x + i)) (fun i => kN R (wN R) nk (al R 15 (4 * x + i)) (ai R 16 (4 * x + i))) → JST h0 T U e0 R G nm fW nk par wk pk ns fS h1 ks1 (B + (flr (jwN (pcl R C L) (wN R) nk x o) (n - j) j).length) → (∀ h' ks', JST h0 T U e0 R G nm fW nk par wk pk ns fS h' ks' B → CTK ks' (flr (jwN (pcl R C L) (wN R) nk x o) (n - j) j) ks1 → FX (ELs U e0) h1 h' → Q none h') → wp (d + 8) K_X2_noteWider 2 [] [(0, vr (some J)), (1, vr (some N)), (2, vi t), (3, vi (nI j))] h1 Q := by
    intro f
    induction f with
    | zero =>
      intro j h1 ks1 e D1 S1 H1
      rw [bk_X2_noteWider_2, lt4, nI_leI (by omega) (by omega)]
      refine ⟨fun _ => ?_, fun z => by omega⟩
      rw [bk_X2_noteWider_30]
      rw [show n - j = 0 by omega] at S1 H1
      exact H1 h1 ks1 S1 CTK.rf FX.rf
    | succ f ih =>
      intro j h1 ks1 e D1 S1 H1
      obtain ⟨i1, i2, i3, i4⟩ := Bs.jo S1.2.2.2
      have kt : tg h1 (U + 1) = 6 := S1.2.1.1
      have ut : tg h1 U = 11 := S1.1.2.2.2.1
      rw [bk_X2_noteWider_2, lt4, nI_leI (by omega) (by omega)]
      refine ⟨fun z => by omega, fun _ => ?_⟩
      rw [bk_X2_noteWider_5, nn_some, n_meantAt D1 (by omega)]
      refine ⟨D1.1, ?_⟩
      simp only [psh]
      have nx : ∀ (h2 : AH) ks2 x4, FX (ELs U e0) h1 h2 → JST h0 T U e0 R G nm fW nk par wk pk ns fS h2 ks2 (B + (flr (jwN (pcl R C L) (wN R) nk x o) (n - (j + 1)) (j + 1)).length) → (∀ h' ks', JST h0 T U e0 R G nm fW nk par wk pk ns fS h' ks' B → CTK ks' (flr (jwN (pcl R C L) (wN R) nk x o) (n - (j + 1)) (j + 1)) ks2 → FX (ELs U e0) h2 h' → Q none h') → wp (d + 8) K_X2_noteWider 28 [] [(0, vr (some J)), (1, vr (some N)), (2, vi t), (3, vi (nI j)), (4, vi x4)] h2 Q := fun h2 ks2 x4 x2 S2 H2 => by
        rw [bk_X2_noteWider_28, nI_1]
        exact wp_cut 4 (ih (j + 1) h2 ks2 (by omega) (D1.fx x2 (fun g hg => els_no (by omega)) (els_no (by omega)) (els_no (by omega)) (els_no (by omega))) S2 H2)
      have skip : flr (jwN (pcl R C L) (wN R) nk x o) (n - j) j = flr (jwN (pcl R C L) (wN R) nk x o) (n - (j + 1)) (j + 1) → ∀ x4, wp (d + 8) K_X2_noteWider 28 [] [(0, vr (some J)), (1, vr (some N)), (2, vi t), (3, vi (nI j)), (4, vi x4)] h1 Q := fun es x4 => by
        rw [es] at S1 H1
        exact nx h1 ks1 x4 FX.rf S1 H1
      have none' : ∀ v, ixO v nk = none → flr (jwN (pcl R C L) (wN R) nk x o) (n - j) j = flr (jwN (pcl R C L) (wN R) nk x o) (n - (j + 1)) (j + 1) → wp (d + 8) K_X2_noteWider 8 [vi v] [(0, vr (some J)), (1, vr (some N)), (2, vi t), (3, vi (nI j))] h1 Q := fun v ev es => by
        rw [bk_X2_noteWider_8, i4, nn_some, k_isChecked S1.2.1, ev]
        refine ⟨i1, kt, ?_⟩
        simp only [psh]
        rw [bk_X2_noteWider_13]
        exact ⟨fun _ => skip es _, fun z => absurd rfl z⟩
      have im : ixO (-1) nk = none := by unfold ixO; rw [if_pos (Or.inl (by decide))]
      by_cases hj : j < n
      · rw [if_pos hj]
        have ef : flr (jwN (pcl R C L) (wN R) nk x o) (n - j) j = jwN (pcl R C L) (wN R) nk x o j ++ flr (jwN (pcl R C L) (wN R) nk x o) (n - (j + 1)) (j + 1) := by
          rw [show n - j = (n - (j + 1)) + 1 by omega]; rfl
        cases ec : kN R (wN R) nk (al R 15 (4 * x + j)) (ai R 16 (4 * x + j)) with
        | none =>
          refine none' _ im ?_
          rw [ef, show jwN (pcl R C L) (wN R) nk x o j = [] from by unfold jwN; rw [show kN (pcl R C L) (wN R) nk (al (pcl R C L) 15 (4 * x + j)) (ai (pcl R C L) 16 (4 * x + j)) = none from ec]]; rfl
        | some y =>
          have hy : y < nk := kN_lt ec
          have ek : jwN (pcl R C L) (wN R) nk x o j = lif (chk (pcl R C L) (wN R) nk y && !und (pcl R C L) (wN R) nk y t) (keyN (tn (ai R 16 (4 * x + j))) 10 (y + 1)) := by
            unfold jwN
            rw [show kN (pcl R C L) (wN R) nk (al (pcl R C L) 15 (4 * x + j)) (ai (pcl R C L) 16 (4 * x + j)) = some y from ec]
            show lif (decide (¬ o = none) && (chk (pcl R C L) (wN R) nk y && !und (pcl R C L) (wN R) nk y (thrO (pcl R C L) (wN R) nk o))) _ = _
            rw [decide_eq_true on, Bool.true_and, et]; rfl
          obtain ⟨p1, p2, p3⟩ := plp_is (pl j hj)
          have N0 : (chk (pcl R C L) (wN R) nk y && !und (pcl R C L) (wN R) nk y t) = false → flr (jwN (pcl R C L) (wN R) nk x o) (n - j) j = flr (jwN (pcl R C L) (wN R) nk x o) (n - (j + 1)) (j + 1) := fun z => by rw [ef, ek, z, lif_f, List.nil_append]
          show wp _ _ 8 [vi (nI y)] _ _ _
          rw [bk_X2_noteWider_8, i4, nn_some, k_isChecked S1.2.1, ixO_nI hy (by omega)]
          refine ⟨i1, kt, ?_⟩
          simp only [psh]
          rw [bk_X2_noteWider_13, b2i_0, K.ck (C := C) (L := L) hy]
          refine ⟨fun z => skip (N0 (by rw [z, Bool.false_and])) _, fun z => ?_⟩
          have z := bt z
          rw [bk_X2_noteWider_14, i4, nn_some, k_isUnderOneOf S1.2.1 hy, K.ud (C := C) (L := L) hy]
          refine ⟨i1, kt, ?_⟩
          simp only [psh]
          rw [bk_X2_noteWider_19, b2i_0]
          refine ⟨fun z2 => skip (N0 (by rw [bt z2, Bool.not_true, Bool.and_false])) _, fun z2 => ?_⟩
          have z2 := Classical.not_not.mp z2
          rw [ef, ek, z, z2, Bool.not_false, Bool.true_and, lif_t] at S1 H1
          rw [bk_X2_noteWider_20, nn_some, n_placeAt D1 hj]
          refine ⟨i1, D1.1, ?_⟩
          simp only [psh]
          rw [bk_X2_noteWider_26, i3, nn_some]
          refine ⟨ut, ?_⟩
          show wp _ _ _ _ [(0, vr (some U)), (1, vi (nI 10)), (2, vi (ai R 16 (4 * x + j))), (3, vi (nI y))] _ _
          rw [p1, ← kI_1 y]
          refine j_noteL (d := d) (k := y + 1) S1 p2 p3 (by omega) (by omega) (fun h5 ks5 S5 c5 x5 => ?_)
          simp only [psh]
          exact nx h5 ks5 _ x5 S5 (fun h6 ks6 S6 c6 x6 => H1 h6 ks6 S6 (c5.tr c6) (x5.tr x6))
      · rw [if_neg hj]
        refine none' _ im ?_
        rw [show n - j = 0 by omega, show n - (j + 1) = 0 by omega]; rfl
  exact LP 4 0 h ks rfl D S H
/-- a method is judged: its body, and the method above -/
def JDW (R : RV) (C L : Nat → Int32) (G : Nat → Nat → Nat) (nm : Nat) (fW : Nat → Nat) (h : AH) (m : Nat) : Prop := (∀ b, oN (ai R 17 (wN R * 12 + m)) = some b → (∀ s, G 4 b ≤ s → s < G 5 b → JDS R C L G nm h s) ∧ JDB R C L G h b) ∧ fI h 1206 (fW m) = oI (abv (pcl R C L) (wN R) nm (wN R * 12 + m))
end
