/-! The class's judging: the kinds of a catch -/
theorem anyN_or {p q : Nat → Bool} (n : Nat) : (anyN p n || anyN q n) = anyN (fun k => p k || q k) n := by
  rw [Bool.eq_iff_iff, Bool.or_eq_true, anyN_iff, anyN_iff, anyN_iff]
  constructor
  · rintro (⟨k, k1, k2⟩ | ⟨k, k1, k2⟩)
    · exact ⟨k, k1, by rw [k2]; rfl⟩
    · exact ⟨k, k1, by rw [k2, Bool.or_true]⟩
  · rintro ⟨k, k1, k2⟩
    rw [Bool.or_eq_true] at k2
    rcases k2 with k2 | k2
    · exact Or.inl ⟨k, k1, k2⟩
    · exact Or.inr ⟨k, k1, k2⟩
theorem anyN_cg {p q : Nat → Bool} (n : Nat) (h : ∀ k, k < n → p k = q k) : anyN p n = anyN q n := fup_cg _ _ _ (fun k b _ hk => by rw [h k (by omega)])
section
variable {R : RV} {nk : Nat} {par : Nat → Nat} {C L : Nat → Int32}
theorem jcS_is (K : KEQ R nk par) {y : Nat} (hy : y < nk) (t : Int32) : jcS (pcl R C L) (wN R) nk t y = anyN (fun q => hasB t q && (belP par y q || belP par q y)) nk := by
  have e : jcS (pcl R C L) (wN R) nk t y = (und (pcl R C L) (wN R) nk y t || anyN (fun q => hasB t q && bel (pcl R C L) (wN R) nk q y) nk) := fup_or (fun q => hasB t q && bel (pcl R C L) (wN R) nk q y) nk 0 (und (pcl R C L) (wN R) nk y t)
  rw [e]
  show (anyN (fun q => hasB t q && bel (pcl R C L) (wN R) nk y q) nk || _) = _
  rw [anyN_or]
  refine anyN_cg _ (fun q hq => ?_)
  rw [K.bl hy, K.bl hq, ← Bool.and_or_distrib_left]
theorem jcR_is (K : KEQ R nk par) {y c j : Nat} (hy : y < nk) : jcR (pcl R C L) (wN R) nk c y j = anyN (fun q => hasB (nsS (cgK R (wN R) nk c) j) q && (belP par y q || belP par q y)) nk := by
  have h16 := K.2.1
  have lt : ∀ i k, cgK R (wN R) nk c i = some k → k < nk := fun i k e => by
    have := (ffst_some e).2.1; omega
  have e : jcR (pcl R C L) (wN R) nk c y j = anyN (fun i => match cgK R (wN R) nk c i with
    | none => false
    | some z => bel (pcl R C L) (wN R) nk y z || bel (pcl R C L) (wN R) nk z y) j := rfl
  rw [e, Bool.eq_iff_iff, anyN_iff, anyN_iff]
  constructor
  · rintro ⟨i, i1, i2⟩
    cases e2 : cgK R (wN R) nk c i with
    | none => rw [e2] at i2; cases i2
    | some z =>
      rw [e2] at i2
      have hz := lt i z e2
      have i2 : (bel (pcl R C L) (wN R) nk y z || bel (pcl R C L) (wN R) nk z y) = true := i2
      refine ⟨z, hz, ?_⟩
      rw [(hasB_nsS (by omega) j (fun i k _ e => by have := lt i k e; omega)).mpr ⟨i, i1, e2⟩, Bool.true_and, K.bl (C := C) (L := L) hy, K.bl (C := C) (L := L) hz]
      exact i2
  · rintro ⟨q, q1, q2⟩
    rw [Bool.and_eq_true] at q2
    obtain ⟨i, i1, i2⟩ := (hasB_nsS (by omega) j (fun i k _ e => by have := lt i k e; omega)).mp q2.1
    refine ⟨i, i1, ?_⟩
    rw [i2]
    show (bel (pcl R C L) (wN R) nk y q || bel (pcl R C L) (wN R) nk q y) = true
    rw [← K.bl (C := C) (L := L) hy, ← K.bl (C := C) (L := L) q1]
    exact q2.2
end
section
variable {d : Nat} {h0 h : AH} {Q : Option V → AH → Prop} {T U a0 e0 J : Nat} {R : RV} {G : Nat → Nat → Nat} {nm : Nat} {fW : Nat → Nat} {nk : Nat} {par : Nat → Nat} {wk : Nat → Int64} {pk : Nat → Int32} {ns : Nat} {fS : Nat → Nat} {ks : List Nat} {B : Nat} {C L : Nat → Int32}
theorem els_no {U e0 g y : Nat} (n : ¬ (g = 100 ∨ g = 102 ∨ g = 30101 ∨ g = 90003)) : ¬ ELs U e0 g y := fun z => by
  rcases z with ⟨-, z⟩ | ⟨z, -⟩ <;> omega
theorem cff_ls {h' : AH} {c : Nat} (cf : CFF h U R G c) (lt : G 2 c < tp h) (x : FX (ELs U e0) h h') : CFF h' U R G c := cf.fx2 x lt (fun f h1 h2 h3 => els_no (by omega)) (fun f hf => els_no (by omega)) ⟨els_no (by omega), els_no (by omega), els_no (by omega)⟩
theorem jn_catch (Bs : JBS h0 U a0 J R G nm fW) (K : KEQ R nk par) {s i : Nat} (cf : CFF h U R G (4 * s + i)) (lt : G 2 (4 * s + i) < tp h) (h7 : fI h 307 (G 2 (4 * s + i)) = insS (pcl R C L) (wN R) nk nm s) (h8 : fI h 308 (G 2 (4 * s + i)) = ahd (pcl R C L) (wN R) nk s i) (pl : ∀ j, j < tn (ai R 36 (4 * s + i)) → plp (ai R 38 (4 * (4 * s + i) + j))) (S : JST h0 T U e0 R G nm fW nk par wk pk ns fS h ks (B + (flr (jcK (pcl R C L) (wN R) nk s i (insC (pcl R C L) (wN R) nk nm s)) (tn (ai R 36 (4 * s + i))) 0).length))
    (H : ∀ h' ks', JST h0 T U e0 R G nm fW nk par wk pk ns fS h' ks' B → CTK ks' (flr (jcK (pcl R C L) (wN R) nk s i (insC (pcl R C L) (wN R) nk nm s)) (tn (ai R 36 (4 * s + i))) 0) ks → FX (ELs U e0) h h' → Q none h') : wp (d + 8) K_X2_noteCatch 0 [] [(0, vr (some J)), (1, vr (some (G 2 (4 * s + i))))] h Q := by
  have h16 := K.2.1
  obtain ⟨j1, j2, j3, j4⟩ := Bs.jo S.2.2.2
  have kt : tg h (U + 1) = 6 := S.2.1.1
  rw [bk_X2_noteCatch_0, nn_some, j4, nn_some, k_checkedOf S.2.1, h7]
  refine ⟨j1, cf.1.2.1, kt, ?_⟩
  simp only [psh]
  have eM : mask (fun k => hasB (insS (pcl R C L) (wN R) nk nm s) k && ckP par k) nk = insC (pcl R C L) (wN R) nk nm s := by
    refine fup_cg _ _ _ (fun k x _ hk => ?_)
    show (if (hasB (insS (pcl R C L) (wN R) nk nm s) k && ckP par k) then x ||| one k else x) = (if (hasB (insS (pcl R C L) (wN R) nk nm s) k && chk (pcl R C L) (wN R) nk k) then x ||| one k else x)
    rw [K.ck (C := C) (L := L) (by omega)]
  rw [bk_X2_noteCatch_5, eM]
  have n4 : tn (ai R 36 (4 * s + i)) ≤ 4 := cf.1.2.2.2.1.2.2.2.2.2.2.1
  have n4' := n4
  generalize insC (pcl R C L) (wN R) nk nm s = t at *
  clear h7 eM
  -- behind the kinds
  have LP : ∀ f j (h1 : AH) ks1, j + f = 4 → CFF h1 U R G (4 * s + i) → G 2 (4 * s + i) < tp h1 → fI h1 308 (G 2 (4 * s + i)) = ahd (pcl R C L) (wN R) nk s i → JST h0 T U e0 R G nm fW nk par wk pk ns fS h1 ks1 (B + (flr (jcK (pcl R C L) (wN R) nk s i t) (tn (ai R 36 (4 * s + i)) - j) j).length) → (∀ h' ks', JST h0 T U e0 R G nm fW nk par wk pk ns fS h' ks' B → CTK ks' (flr (jcK (pcl R C L) (wN R) nk s i t) (tn (ai R 36 (4 * s + i)) - j) j) ks1 → FX (ELs U e0) h1 h' → Q none h') → wp (d + 8) K_X2_noteCatch 8 [] [(0, vr (some J)), (1, vr (some (G 2 (4 * s + i)))), (2, vi t), (3, vi (nI j))] h1 Q := by
    intro f
    induction f with
    | zero =>
      intro j h1 ks1 e cf1 lt1 h8 S1 H1
      rw [bk_X2_noteCatch_8, lt4, nI_leI (by omega) (by omega)]
      refine ⟨fun _ => ?_, fun z => by omega⟩
      rw [bk_X2_noteCatch_76]
      rw [show tn (ai R 36 (4 * s + i)) - j = 0 by omega] at S1 H1
      exact H1 h1 ks1 S1 CTK.rf FX.rf
    | succ f ih =>
      intro j h1 ks1 e cf1 lt1 h8 S1 H1
      obtain ⟨i1, i2, i3, i4⟩ := Bs.jo S1.2.2.2
      have t4 := cf1.1.2.1
      have pN := cf1.1.2.2.1
      have D := cf1.1.2.2.2.1
      rw [← K.1] at D
      rw [bk_X2_noteCatch_8, lt4, nI_leI (by omega) (by omega)]
      refine ⟨fun z => by omega, fun _ => ?_⟩
      rw [bk_X2_noteCatch_11, nn_some, pN, nn_some, n_meantAt D (by omega)]
      refine ⟨t4, D.1, ?_⟩
      simp only [psh]
      rw [bk_X2_noteCatch_15]
      -- the next kind
      have nx : ∀ (h2 : AH) ks2 x4, FX (ELs U e0) h1 h2 → JST h0 T U e0 R G nm fW nk par wk pk ns fS h2 ks2 (B + (flr (jcK (pcl R C L) (wN R) nk s i t) (tn (ai R 36 (4 * s + i)) - (j + 1)) (j + 1)).length) → (∀ h' ks', JST h0 T U e0 R G nm fW nk par wk pk ns fS h' ks' B → CTK ks' (flr (jcK (pcl R C L) (wN R) nk s i t) (tn (ai R 36 (4 * s + i)) - (j + 1)) (j + 1)) ks2 → FX (ELs U e0) h2 h' → Q none h') → wp (d + 8) K_X2_noteCatch 74 [] [(0, vr (some J)), (1, vr (some (G 2 (4 * s + i)))), (2, vi t), (3, vi (nI j)), (4, vi x4)] h2 Q := fun h2 ks2 x4 x2 S2 H2 => by
        rw [bk_X2_noteCatch_74, nI_1]
        refine wp_cut 4 (ih (j + 1) h2 ks2 (by omega) (cff_ls cf1 lt1 x2) (by have := x2.1; omega) ?_ S2 H2)
        rw [x2.fI lt1 (els_no (by omega))]; exact h8
      have skip : flr (jcK (pcl R C L) (wN R) nk s i t) (tn (ai R 36 (4 * s + i)) - j) j = flr (jcK (pcl R C L) (wN R) nk s i t) (tn (ai R 36 (4 * s + i)) - (j + 1)) (j + 1) → ∀ x4, wp (d + 8) K_X2_noteCatch 74 [] [(0, vr (some J)), (1, vr (some (G 2 (4 * s + i)))), (2, vi t), (3, vi (nI j)), (4, vi x4)] h1 Q := fun es x4 => by
        rw [es] at S1 H1
        exact nx h1 ks1 x4 FX.rf S1 H1
      by_cases hj : j < tn (ai R 36 (4 * s + i))
      · rw [if_pos hj]
        have ef : flr (jcK (pcl R C L) (wN R) nk s i t) (tn (ai R 36 (4 * s + i)) - j) j = jcK (pcl R C L) (wN R) nk s i t j ++ flr (jcK (pcl R C L) (wN R) nk s i t) (tn (ai R 36 (4 * s + i)) - (j + 1)) (j + 1) := by
          rw [show tn (ai R 36 (4 * s + i)) - j = (tn (ai R 36 (4 * s + i)) - (j + 1)) + 1 by omega]; rfl
        cases ec : cgK R (wN R) nk (4 * s + i) j with
        | none =>
          refine ⟨fun _ => skip ?_ _, fun z => absurd rfl z⟩
          rw [ef, show jcK (pcl R C L) (wN R) nk s i t j = [] from by unfold jcK; rw [show cgK (pcl R C L) (wN R) nk (4 * s + i) j = none from ec]]; rfl
        | some y =>
          have hy : y < nk := by have := (ffst_some ec).2.1; omega
          have ek : jcK (pcl R C L) (wN R) nk s i t j = lif (decide (1 < y) && (chk (pcl R C L) (wN R) nk y && !jcS (pcl R C L) (wN R) nk t y)) (keyN (tn (ai R 38 (4 * (4 * s + i) + j))) 3 (y + 1)) ++ (lif (und (pcl R C L) (wN R) nk y (ahd (pcl R C L) (wN R) nk s i)) (keyN (tn (ai R 38 (4 * (4 * s + i) + j))) 4 (y + 1)) ++ lif (jcR (pcl R C L) (wN R) nk (4 * s + i) y j) (keyN (tn (ai R 38 (4 * (4 * s + i) + j))) 5 (y + 1))) := by
            unfold jcK; rw [show cgK (pcl R C L) (wN R) nk (4 * s + i) j = some y from ec]; rfl
          rw [ef, ek, List.append_assoc, List.append_assoc] at S1 H1
          obtain ⟨p1, p2, p3⟩ := plp_is (pl j hj)
          refine ⟨fun z => absurd z (nI_ne_m1 (by omega)), fun _ => ?_⟩
          rw [bk_X2_noteCatch_19, nn_some, pN, nn_some, n_placeAt D hj]
          refine ⟨t4, D.1, ?_⟩
          simp only [psh]
          rw [bk_X2_noteCatch_23, nn_some, pN, nn_some, n_asSetAheadOf D (m := j) (by omega) (by omega)]
          refine ⟨t4, D.1, ?_⟩
          simp only [psh]
          show wp _ _ 28 _ [(0, vr (some J)), (1, vr (some (G 2 (4 * s + i)))), (2, vi t), (3, vi (nI j)), (4, vi (nI y)), (5, vi (ai R 38 (4 * (4 * s + i) + j)))] _ _
          rw [p1]
          generalize flr (jcK (pcl R C L) (wN R) nk s i t) (tn (ai R 36 (4 * s + i)) - (j + 1)) (j + 1) = rest at *
          generalize tn (ai R 38 (4 * (4 * s + i) + j)) = p at *
          -- doubled
          have R3 : ∀ (h3 : AH) ks3, FX (ELs U e0) h1 h3 → JST h0 T U e0 R G nm fW nk par wk pk ns fS h3 ks3 (B + (lif (jcR (pcl R C L) (wN R) nk (4 * s + i) y j) (keyN p 5 (y + 1)) ++ rest).length) → (∀ h' ks', JST h0 T U e0 R G nm fW nk par wk pk ns fS h' ks' B → CTK ks' (lif (jcR (pcl R C L) (wN R) nk (4 * s + i) y j) (keyN p 5 (y + 1)) ++ rest) ks3 → FX (ELs U e0) h3 h' → Q none h') → wp (d + 8) K_X2_noteCatch 62 [] [(0, vr (some J)), (1, vr (some (G 2 (4 * s + i)))), (2, vi t), (3, vi (nI j)), (4, vi (nI y)), (5, vi (nI p)), (6, vi (nsS (cgK R (wN R) nk (4 * s + i)) j))] h3 Q := fun h3 ks3 x3 S3 H3 => by
            obtain ⟨o1, o2, o3, o4⟩ := Bs.jo S3.2.2.2
            have ku : tg h3 (U + 1) = 6 := S3.2.1.1
            have ut : tg h3 U = 11 := S3.1.2.2.2.1
            rw [bk_X2_noteCatch_62, o4, nn_some, k_isNear S3.2.1 hy, ← jcR_is (C := C) (L := L) K hy]
            refine ⟨o1, ku, ?_⟩
            simp only [psh]
            rw [bk_X2_noteCatch_67, b2i_0]
            refine ⟨fun z => ?_, fun z => ?_⟩
            · rw [z, lif_f, List.nil_append] at S3 H3
              refine wp_cut 5 (nx h3 ks3 _ x3 S3 H3)
            · rw [bt z, lif_t] at S3 H3
              rw [bk_X2_noteCatch_68, o3, nn_some]
              refine ⟨o1, ut, ?_⟩
              show wp _ _ _ _ [(0, vr (some U)), (1, vi (nI 5)), (2, vi (nI p)), (3, vi (nI y))] _ _
              rw [← kI_1 y]
              refine j_noteL (d := d) (k := y + 1) S3 p2 p3 (by omega) (by omega) (fun h5 ks5 S5 c5 x5 => ?_)
              simp only [psh]
              exact wp_cut 5 (nx h5 ks5 _ (x3.tr x5) S5 (fun h6 ks6 S6 c6 x6 => H3 h6 ks6 S6 (c5.tr c6) (x5.tr x6)))
          -- caught ahead
          have R2 : ∀ (h2 : AH) ks2, FX (ELs U e0) h1 h2 → JST h0 T U e0 R G nm fW nk par wk pk ns fS h2 ks2 (B + (lif (und (pcl R C L) (wN R) nk y (ahd (pcl R C L) (wN R) nk s i)) (keyN p 4 (y + 1)) ++ (lif (jcR (pcl R C L) (wN R) nk (4 * s + i) y j) (keyN p 5 (y + 1)) ++ rest)).length) → (∀ h' ks', JST h0 T U e0 R G nm fW nk par wk pk ns fS h' ks' B → CTK ks' (lif (und (pcl R C L) (wN R) nk y (ahd (pcl R C L) (wN R) nk s i)) (keyN p 4 (y + 1)) ++ (lif (jcR (pcl R C L) (wN R) nk (4 * s + i) y j) (keyN p 5 (y + 1)) ++ rest)) ks2 → FX (ELs U e0) h2 h' → Q none h') → wp (d + 8) K_X2_noteCatch 49 [] [(0, vr (some J)), (1, vr (some (G 2 (4 * s + i)))), (2, vi t), (3, vi (nI j)), (4, vi (nI y)), (5, vi (nI p)), (6, vi (nsS (cgK R (wN R) nk (4 * s + i)) j))] h2 Q := fun h2 ks2 x2 S2 H2 => by
            obtain ⟨o1, o2, o3, o4⟩ := Bs.jo S2.2.2.2
            have ku : tg h2 (U + 1) = 6 := S2.2.1.1
            have ut : tg h2 U = 11 := S2.1.2.2.2.1
            rw [bk_X2_noteCatch_49, nn_some, o4, nn_some, x2.fI lt1 (els_no (by omega)), h8, k_isUnderOneOf S2.2.1 hy, K.ud (C := C) (L := L) hy]
            refine ⟨o1, by rw [x2.tg lt1]; exact t4, ku, ?_⟩
            simp only [psh]
            rw [bk_X2_noteCatch_55, b2i_0]
            refine ⟨fun z => ?_, fun z => ?_⟩
            · rw [z, lif_f, List.nil_append] at S2 H2
              exact R3 h2 ks2 x2 S2 H2
            · rw [bt z, lif_t] at S2 H2
              rw [bk_X2_noteCatch_56, o3, nn_some]
              refine ⟨o1, ut, ?_⟩
              show wp _ _ _ _ [(0, vr (some U)), (1, vi (nI 4)), (2, vi (nI p)), (3, vi (nI y))] _ _
              rw [← kI_1 y]
              refine j_noteL (d := d) (k := y + 1) S2 p2 p3 (by omega) (by omega) (fun h5 ks5 S5 c5 x5 => ?_)
              simp only [psh]
              rw [kI_1 y]
              exact R3 h5 ks5 (x2.tr x5) S5 (fun h6 ks6 S6 c6 x6 => H2 h6 ks6 S6 (c5.tr c6) (x5.tr x6))
          -- never thrown
          have ku : tg h1 (U + 1) = 6 := S1.2.1.1
          have ut : tg h1 U = 11 := S1.1.2.2.2.1
          have N1 : (decide (1 < y) && (chk (pcl R C L) (wN R) nk y && !jcS (pcl R C L) (wN R) nk t y)) = false → wp (d + 8) K_X2_noteCatch 49 [] [(0, vr (some J)), (1, vr (some (G 2 (4 * s + i)))), (2, vi t), (3, vi (nI j)), (4, vi (nI y)), (5, vi (nI p)), (6, vi (nsS (cgK R (wN R) nk (4 * s + i)) j))] h1 Q := fun z => by
            rw [z, lif_f, List.nil_append] at S1 H1
            exact R2 h1 ks1 FX.rf S1 H1
          rw [bk_X2_noteCatch_28, show (1 : Int32) = nI 1 from rfl, nI_leI (by omega) (by omega)]
          refine ⟨fun z => N1 (by rw [decide_eq_false (by omega)]; rfl), fun z => ?_⟩
          rw [bk_X2_noteCatch_32, i4, nn_some, k_isChecked S1.2.1, ixO_nI hy (by omega)]
          refine ⟨i1, ku, ?_⟩
          simp only [psh]
          rw [bk_X2_noteCatch_36, b2i_0, K.ck (C := C) (L := L) hy]
          refine ⟨fun z2 => N1 (by rw [z2, Bool.false_and, Bool.and_false]), fun z2 => ?_⟩
          have z2 := bt z2
          rw [bk_X2_noteCatch_37, i4, nn_some, k_isNear S1.2.1 hy, ← jcS_is (C := C) (L := L) K hy]
          refine ⟨i1, ku, ?_⟩
          simp only [psh]
          rw [bk_X2_noteCatch_42, b2i_0]
          refine ⟨fun z3 => N1 (by rw [bt z3, Bool.not_true, Bool.and_false, Bool.and_false]), fun z3 => ?_⟩
          have z3 := Classical.not_not.mp z3
          rw [decide_eq_true (show 1 < y by omega), z2, z3, Bool.not_false, Bool.true_and, Bool.true_and, lif_t] at S1 H1
          rw [bk_X2_noteCatch_43, i3, nn_some]
          refine ⟨i1, ut, ?_⟩
          show wp _ _ _ _ [(0, vr (some U)), (1, vi (nI 3)), (2, vi (nI p)), (3, vi (nI y))] _ _
          rw [← kI_1 y]
          refine j_noteL (d := d) (k := y + 1) S1 p2 p3 (by omega) (by omega) (fun h5 ks5 S5 c5 x5 => ?_)
          simp only [psh]
          rw [kI_1 y]
          exact R2 h5 ks5 x5 S5 (fun h6 ks6 S6 c6 x6 => H1 h6 ks6 S6 (c5.tr c6) (x5.tr x6))
      · rw [if_neg hj]
        refine ⟨fun _ => skip ?_ _, fun z => absurd rfl z⟩
        rw [show tn (ai R 36 (4 * s + i)) - j = 0 by omega, show tn (ai R 36 (4 * s + i)) - (j + 1) = 0 by omega]; rfl
  exact LP 4 0 h ks rfl cf lt h8 S H
end
