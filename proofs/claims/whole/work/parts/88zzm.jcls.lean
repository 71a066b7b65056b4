/-! The class's judging: the methods in the ( ) of try; catches -/
theorem thrS_ns (R : RV) (C L : Nat → Int32) (w nk x : Nat) : thrS (pcl R C L) w nk x = nsS (fun i => kN R w nk (al R 15 (4 * x + i)) (ai R 16 (4 * x + i))) (tn (ai R 14 x)) := rfl
theorem plp_is {v : Int32} (h : plp v) : v = nI (tn v) ∧ 0 < tn v ∧ tn v < 4096 := by
  obtain ⟨p, e, h1, h2⟩ := h
  rw [e, tn_nI (by omega)]
  exact ⟨rfl, h1, by omega⟩
section
variable {d : Nat} {h0 h : AH} {Q : Option V → AH → Prop} {T U a0 e0 J : Nat} {R : RV} {G : Nat → Nat → Nat} {nm : Nat} {fW : Nat → Nat} {nk : Nat} {par : Nat → Nat} {wk : Nat → Int64} {pk : Nat → Int32} {ns : Nat} {fS : Nat → Nat} {ks : List Nat} {B : Nat} {C L : Nat → Int32}
theorem jn_closing (Bs : JBS h0 U a0 J R G nm fW) (K : KEQ R nk par) {s : Nat} (hs : SRG R s) (h9 : ai R 19 s = 9) (S : JST h0 T U e0 R G nm fW nk par wk pk ns fS h ks (B + (flr (jtN (pcl R C L) (wN R) nm s) (tn (ai R 29 s)) 0).length)) (D : ND h (G 6 s) (tn (ai R 29 s)) (fun i => conv (al R 30 (4 * s + i))) (fun i => ai R 31 (4 * s + i)) (fun _ => none)) (hw : ∀ i, i < tn (ai R 29 s) → WV (al R 30 (4 * s + i))) (pl : ∀ i, i < tn (ai R 29 s) → plp (ai R 31 (4 * s + i)))
    (H : ∀ h' ks', JST h0 T U e0 R G nm fW nk par wk pk ns fS h' ks' B → ND h' (G 6 s) (tn (ai R 29 s)) (fun i => conv (al R 30 (4 * s + i))) (fun i => ai R 31 (4 * s + i)) (fun i => mN R (wN R) nm (al R 30 (4 * s + i))) → CTK ks' (flr (jtN (pcl R C L) (wN R) nm s) (tn (ai R 29 s)) 0) ks → FX (fun g y => ELs U e0 g y ∨ (g = 90001 ∧ y = G 6 s + 3)) h h' → Q (some (vi (nmS (pcl R C L) (wN R) nk nm s))) h') : wp (d + 8) K_X2_closing 0 [] [(0, vr (some J)), (1, vr (some (G 6 s)))] h Q := by
  have eN : nmS (pcl R C L) (wN R) nk nm s = fup (fun k x => x ||| thrO (pcl R C L) (wN R) nk (mN R (wN R) nm (al R 30 (4 * s + k)))) (tn (ai R 29 s)) 0 0 := by
    refine fup_cg _ _ _ (fun i x _ _ => ?_)
    show x ||| (if ai R 19 s = 9 then thrO (pcl R C L) (wN R) nk (mN R (wN R) nm (al R 30 (4 * s + i))) else _) = _
    rw [if_pos h9]
  rw [eN] at H
  have n4 : tn (ai R 29 s) ≤ 4 := D.2.2.2.2.2.2.1
  have nm12 := Bs.2.2.2.2.2.2.1
  have jl : ∀ i, jtN (pcl R C L) (wN R) nm s i = lif (decide (mN R (wN R) nm (al R 30 (4 * s + i)) = none)) (keyN (tn (ai R 31 (4 * s + i))) 1 0) := fun i => rfl
  generalize en : tn (ai R 29 s) = n at *
  have LP : ∀ f i (h1 : AH) ks1 v, i + f = n → JST h0 T U e0 R G nm fW nk par wk pk ns fS h1 ks1 (B + (flr (jtN (pcl R C L) (wN R) nm s) f i).length) → ND h1 (G 6 s) n (fun i => conv (al R 30 (4 * s + i))) (fun i => ai R 31 (4 * s + i)) (fun j => if j < i then mN R (wN R) nm (al R 30 (4 * s + j)) else none) → (∀ h' ks', JST h0 T U e0 R G nm fW nk par wk pk ns fS h' ks' B → ND h' (G 6 s) n (fun i => conv (al R 30 (4 * s + i))) (fun i => ai R 31 (4 * s + i)) (fun i => mN R (wN R) nm (al R 30 (4 * s + i))) → CTK ks' (flr (jtN (pcl R C L) (wN R) nm s) f i) ks1 → FX (fun g y => ELs U e0 g y ∨ (g = 90001 ∧ y = G 6 s + 3)) h1 h' → Q (some (vi (fup (fun k x => x ||| thrO (pcl R C L) (wN R) nk (mN R (wN R) nm (al R 30 (4 * s + k)))) f i v))) h') → wp (d + 8) K_X2_closing 4 [] [(0, vr (some J)), (1, vr (some (G 6 s))), (2, vi v), (3, vi (nI i))] h1 Q := by
    intro f
    induction f with
    | zero =>
      intro i h1 ks1 v e S1 D1 H1
      rw [bk_X2_closing_4]
      refine ⟨fun z => (by cases z), fun _ => ?_⟩
      rw [bk_X2_closing_6, nn_some, D1.2.2.2.2.2.1, nI_leI (by omega) (by omega)]
      refine ⟨D1.1, fun _ => ?_, fun z => by omega⟩
      rw [bk_X2_closing_52]
      exact H1 h1 ks1 S1 (D1.cg (fun j hj => ⟨rfl, rfl, if_pos (by omega)⟩)) CTK.rf FX.rf
    | succ f ih =>
      intro i h1 ks1 v e S1 D1 H1
      obtain ⟨j1, j2, j3, j4⟩ := Bs.jo S1.2.2.2
      have ut : tg h1 U = 11 := S1.1.2.2.2.1
      obtain ⟨d1, d2, ⟨d3, d4, d5⟩, ⟨d6, d7, d8⟩, ⟨d9, d10, d11⟩, d12, d13, d14⟩ := id D1
      rw [bk_X2_closing_4]
      refine ⟨fun z => (by cases z), fun _ => ?_⟩
      rw [bk_X2_closing_6, nn_some, d12, nI_leI (by omega) (by omega)]
      refine ⟨d1, fun z => by omega, fun _ => ?_⟩
      rw [bk_X2_closing_10, lt4, nI_leI (by omega) (by omega)]
      refine ⟨fun z => by omega, fun _ => ?_⟩
      rw [bk_X2_closing_13, nn_some, nn_some, d3, nn_some, j3, nn_some, d9, nI_clamp (by omega), (d14 i (by omega)).1]
      refine ⟨d1, j1, d1, d4, by rw [d5]; exact pk_in i 4 (by omega), ut, j_wayNamed (d := d + 4) Bs S1 (hw i (by omega)) ?_⟩
      simp only [psh]
      rw [bk_X2_closing_23, nn_some, nn_some, nI_clamp (by omega), show fP (setAI h1 (G 6 s + 3) i (oI (mN R (wN R) nm (al R 30 (4 * s + i))))) 30602 (G 6 s) = some (G 6 s + 3) from d9, nn_some, show fP (setAI h1 (G 6 s + 3) i (oI (mN R (wN R) nm (al R 30 (4 * s + i))))) 30400 J = some U from j3, nn_some]
      rw [show aI (setAI h1 (G 6 s + 3) i (oI (mN R (wN R) nm (al R 30 (4 * s + i))))) (G 6 s + 3) i = oI (mN R (wN R) nm (al R 30 (4 * s + i))) from if_pos ⟨rfl, rfl⟩]
      have xs : FX (fun g y => g = 90001 ∧ y = G 6 s + 3) h1 (setAI h1 (G 6 s + 3) i (oI (mN R (wN R) nm (al R 30 (4 * s + i))))) := FX.AI ⟨rfl, rfl⟩
      have S2 : JST h0 T U e0 R G nm fW nk par wk pk ns fS (setAI h1 (G 6 s + 3) i (oI (mN R (wN R) nm (al R 30 (4 * s + i))))) ks1 (B + (flr (jtN (pcl R C L) (wN R) nm s) (f + 1) i).length) := S1.w Bs (xs.mono (fun g y z => Or.inr (Or.inr ⟨z.1, s, hs, h9, z.2⟩))) rfl rfl
      have D2 : ND (setAI h1 (G 6 s + 3) i (oI (mN R (wN R) nm (al R 30 (4 * s + i))))) (G 6 s) n (fun i => conv (al R 30 (4 * s + i))) (fun i => ai R 31 (4 * s + i)) (fun j => if j < i + 1 then mN R (wN R) nm (al R 30 (4 * s + j)) else none) := by
        refine ⟨d1, d2, ⟨d3, d4, d5⟩, ⟨d6, d7, d8⟩, ⟨d9, d10, d11⟩, d12, d13, fun j hj => ?_⟩
        obtain ⟨q1, q2, q3, q4⟩ := d14 j hj
        refine ⟨q1, ?_, ?_, fun k ek => ?_⟩
        · rw [show aI (setAI h1 (G 6 s + 3) i (oI (mN R (wN R) nm (al R 30 (4 * s + i))))) (G 6 s + 2) j = aI h1 (G 6 s + 2) j from if_neg (by omega)]; exact q2
        · dsimp only at q3 ⊢
          by_cases y : j = i
          · rw [y, if_pos (by omega)]; exact if_pos ⟨rfl, rfl⟩
          · rw [show aI (setAI h1 (G 6 s + 3) i (oI (mN R (wN R) nm (al R 30 (4 * s + i))))) (G 6 s + 3) j = aI h1 (G 6 s + 3) j from if_neg (by omega), q3]
            by_cases y2 : j < i
            · rw [if_pos y2, if_pos (by omega)]
            · rw [if_neg y2, if_neg (by omega)]
        · dsimp only at ek
          by_cases y : j < i + 1
          · rw [if_pos y] at ek
            have := mN_lt ek; omega
          · rw [if_neg y] at ek; cases ek
      have t2 : tg (setAI h1 (G 6 s + 3) i (oI (mN R (wN R) nm (al R 30 (4 * s + i))))) = tg h1 := rfl
      have l2 : ln (setAI h1 (G 6 s + 3) i (oI (mN R (wN R) nm (al R 30 (4 * s + i))))) = ln h1 := rfl
      refine ⟨d10, by rw [d11]; exact pk_in i 4 (by omega), j1, d1, Or.inl d10, by rw [l2, d11]; exact pk_in i 4 (by omega), ut, ?_⟩
      generalize setAI h1 (G 6 s + 3) i (oI (mN R (wN R) nm (al R 30 (4 * s + i)))) = h2 at *
      refine j_wayAt (d := d + 4) S2 (fun m e => mN_lt e) ?_
      obtain ⟨i1, i2, i3, i4⟩ := Bs.jo S2.2.2.2
      have ut2 : tg h2 U = 11 := S2.1.2.2.2.1
      simp only [psh]
      rw [bk_X2_closing_31]
      rw [show flr (jtN (pcl R C L) (wN R) nm s) (f + 1) i = jtN (pcl R C L) (wN R) nm s i ++ flr (jtN (pcl R C L) (wN R) nm s) f (i + 1) from rfl, jl] at S2 H1
      rw [fup] at H1
      cases eo : mN R (wN R) nm (al R 30 (4 * s + i)) with
      | none =>
        rw [eo, decide_eq_true rfl, lif_t] at S2 H1
        refine ⟨fun z => absurd rfl z, fun _ => ?_⟩
        obtain ⟨p1, p2, p3⟩ := plp_is (pl i (by omega))
        have D2' := D2
        obtain ⟨f1, f2, ⟨f3, f4, f5⟩, ⟨f6, f7, f8⟩, ⟨f9, f10, f11⟩, f12, f13, f14⟩ := D2'
        rw [bk_X2_closing_34, nn_some, f6, nn_some, i3, nn_some, nI_clamp (by omega), (f14 i (by omega)).2.1]
        refine ⟨i1, f1, Or.inl f7, by rw [f8]; exact pk_in i 4 (by omega), ut2, ?_⟩
        show wp _ _ _ _ [(0, vr (some U)), (1, vi 1), (2, vi (ai R 31 (4 * s + i))), (3, vi (-1))] _ _
        rw [← kI_0, show (1 : Int32) = nI 1 from rfl, p1]
        refine j_noteL (d := d) S2 p2 p3 (by omega) (by omega) (fun h3 ks3 S3 c3 x3 => ?_)
        simp only [psh]
        rw [bk_X2_closing_43, bk_X2_closing_50, nI_1]
        refine wp_cut 4 (ih (i + 1) h3 ks3 v (by omega) S3 (D2.fx x3 (fun g hg z => ?_) (fun z => ?_) (fun z => ?_) (fun z => ?_)) (fun h4 ks4 S4 D4 c4 x4 => ?_))
        · rcases z with ⟨-, z⟩ | ⟨z, -⟩ <;> omega
        · rcases z with ⟨-, z⟩ | ⟨z, -⟩ <;> omega
        · rcases z with ⟨-, z⟩ | ⟨z, -⟩ <;> omega
        · rcases z with ⟨-, z⟩ | ⟨z, -⟩ <;> omega
        · have := H1 h4 ks4 S4 D4 (c3.tr c4) ((xs.mono (fun _ _ z => Or.inr z)).tr ((x3.mono (fun _ _ z => Or.inl z)).tr x4))
          rw [show v ||| thrO (pcl R C L) (wN R) nk none = v from by show v ||| 0 = v; exact Int32.or_zero] at this
          exact this
      | some m =>
        have hm := mN_lt eo
        rw [eo, decide_eq_false (fun z => by cases z), lif_f, List.nil_append] at S2 H1
        refine ⟨fun _ => ?_, fun z => by cases z⟩
        have W := Bs.way S2.2.2.2 hm
        show wp _ _ 44 _ [(0, vr (some J)), (1, vr (some (G 6 s))), (2, vi v), (3, vi (nI i)), (4, vr (some (fW m)))] _ _
        rw [bk_X2_closing_44, nn_some, W.1.2.2, nn_some, n_asSet W.2.1]
        refine ⟨W.1.1, W.2.1.1, ?_⟩
        simp only [psh]
        rw [bk_X2_closing_48, bk_X2_closing_50, nI_1]
        refine wp_cut 4 (ih (i + 1) h2 ks1 _ (by omega) S2 D2 (fun h4 ks4 S4 D4 c4 x4 => ?_))
        have := H1 h4 ks4 S4 D4 c4 ((xs.mono (fun _ _ z => Or.inr z)).tr x4)
        rw [K.1]
        rw [show thrO (pcl R C L) (wN R) nk (some m) = nsS (fun i => kN R (wN R) nk (al R 15 (4 * (wN R * 12 + m) + i)) (ai R 16 (4 * (wN R * 12 + m) + i))) (tn (ai R 14 (wN R * 12 + m))) from thrS_ns R C L (wN R) nk (wN R * 12 + m), K.1] at this
        exact this
  rw [bk_X2_closing_0, show ((3 : Nat), vi 0) = (3, vi (nI 0)) from rfl]
  exact LP n 0 h ks 0 (by omega) S (D.cg (fun j _ => ⟨rfl, rfl, (if_neg (by omega)).symm⟩)) H
end
