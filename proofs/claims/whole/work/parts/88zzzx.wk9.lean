/-! Walking: the call -/
def EWW (W U g y : Nat) : Prop := EWK W U g y ∨ (y = W ∧ g = 31100)
/-- the reference walks from r to r' and answers v -/
def RWK (r r' : RV) (x : Int32) (y : Int64) (v : Int32) : Prop := ∀ (d : Nat) (h : AH) (ar : Nat) (Q : Option V → AH → Prop), RW r h ar → (∀ h', RW r' h' ar → Q (some (vi v)) h') → wp (d + 6) K_X12_walk 0 [] [(0, vr (some ar)), (1, vi x), (2, vl y)] h Q
section
variable {d : Nat} {h : AH} {Q : Option V → AH → Prop} {a T U V' e0 W : Nat} {R r : RV} {C L : Nat → Int32} {G : Nat → Nat → Nat} {fW par : Nat → Nat} {wk : Nat → Int64} {pk : Nat → Int32} {fS : Nat → Nat} {ks : List Nat} {dp : Nat → Nat}
theorem c_walk (O : COB h a T W U) (N : UNF h U V' e0 R C L G (nmN R) fW (nkN R) par wk pk (nsC R) fS ks) (hW : W < U ∨ V' ≤ W) (hX : WCX R C L r) (dpp : ∀ b, wN R * 1024 ≤ b → b < nbN R → dp b < 8 ∧ ∀ j, upB R b = some j → dp j < dp b) (e65 : gi r 1465 = fI h 1102 W) (x : Int32) (y : Int64)
    (H : ∀ h' v r', FX (EWW W U) h h' → (tp h' = tp h ∧ rc h' = rc h ∧ rs h' = rs h) → KPW r r' → gi r' 1465 = fI h' 1102 W → RWK r r' x y v → Q (some (vi v)) h') : wp (d + 984) K_X11_walk 0 [] [(0, vr (some a)), (1, vi x), (2, vl y)] h Q := by
  obtain ⟨o1, o2, o3, o4, o5, o6, o7⟩ := O
  have BVr := hX.2.1
  have hg := hX.1
  obtain ⟨T', n12', nm12, -, ns120, -⟩ := N.2.2.2.2.2.2.1
  have BAD : (∀ j, ixO x (nmN R) = some j → ai R 17 (wN R * 12 + j) = -1) → Q (some (vi (-3))) h := fun hb => H h (-3) r FX.rf ⟨rfl, rfl, rfl⟩ KPW.rf e65 (fun d1 h1 ar Q1 RW1 K1 => wk_bad RW1 BVr x y (fun j e => by
    have hj : j < nmN R := by
      rcases ixO_cases x (n := nmN R) (by omega) with ⟨e', -⟩ | ⟨i, hi, -, e'⟩
      · rw [e'] at e; cases e
      · rw [e'] at e; rw [← Option.some.inj e]; exact hi
    rw [(hg_w hg (q := 17) (by omega) (by omega)).1]; exact hb j e) (K1 h1 RW1))
  rw [bk_X11_walk_0, o5, nn_some]
  refine ⟨o1, N.1.1, ?_⟩
  refine c_wayAt (d := d + 980) N x ?_
  simp only [psh]
  rw [bk_X11_walk_4]
  rcases ixO_cases x (n := nmN R) (by omega) with ⟨ex, -⟩ | ⟨j, hj, xj, ex⟩
  · rw [ex] at BAD ⊢
    refine ⟨fun _ => ?_, fun z => absurd rfl z⟩
    rw [bk_X11_walk_10]
    exact BAD (fun j e => by cases e)
  · rw [ex] at BAD ⊢
    have WJ := (N.2.2.2.2.2.2.2.2.2.1 j hj).1
    have p8 := WJ.2.2.2.2.2.2.2.2.1
    refine ⟨fun z => (by cases z), fun _ => ?_⟩
    rw [bk_X11_walk_7, show Option.map fW (some j) = some (fW j) from rfl, nn_some, p8]
    refine ⟨WJ.1.1, fun z => ?_, fun z => ?_⟩
    · cases e17 : oN (ai R 17 (wN R * 12 + j)) with
      | none => rw [e17] at z; exact absurd rfl z
      | some b =>
        obtain ⟨n17, t17⟩ := oN_some e17
        have r17 : ai r 17 (wN R * 12 + j) = ai R 17 (wN R * 12 + j) := (hg_w hg (q := 17) (by omega) (by omega)).1
        have mb := bod_in hj e17
        have rb : RCH R G (nmN R) b := RCH.bod mb
        have b41 := (T'.1.2 b mb).1.1
        have b40 := rb.top T' b41
        have rg := rb.rg T'
        rw [bk_X11_walk_12, nn_some, o4, nn_some, o5, p8, e17, show Option.map (G 1) (some b) = some (G 1 b) from rfl]
        refine ⟨o1, o1, WJ.1.1, o6, ?_⟩
        rw [bk_X9_start_0]
        refine ⟨o6, o6, o6, ?_⟩
        rw [bk_X9_start_9]
        refine ⟨o6, ?_⟩
        have x0 : FX (EWW W U) h (setFI (setFJ (setFP h 31100 W (some U)) 21101 W y) 1102 W 0) := ((FX.FP (Or.inr ⟨rfl, rfl⟩)).tr (FX.FJ (Or.inl (Or.inl ⟨rfl, Or.inr rfl⟩)))).tr (FX.FI (Or.inl (Or.inl ⟨rfl, Or.inl rfl⟩)))
        have c1 : fP (setFI (setFJ (setFP h 31100 W (some U)) 21101 W y) 1102 W 0) 31100 W = some U := by
          show fP (setFP h 31100 W (some U)) 31100 W = some U
          rw [fP_setFP, if_pos ⟨rfl, rfl⟩]
        have c2 : fJ (setFI (setFJ (setFP h 31100 W (some U)) 21101 W y) 1102 W 0) 21101 W = y := by
          show fJ (setFJ (setFP h 31100 W (some U)) 21101 W y) 21101 W = y
          rw [fJ_setFJ, if_pos ⟨rfl, rfl⟩]
        have c3 : fI (setFI (setFJ (setFP h 31100 W (some U)) 21101 W y) 1102 W 0) 1102 W = 0 := by rw [fI_setFI, if_pos ⟨rfl, rfl⟩]
        have c4 : tg (setFI (setFJ (setFP h 31100 W (some U)) 21101 W y) 1102 W 0) W = 12 := o6
        have c5 : tp (setFI (setFJ (setFP h 31100 W (some U)) 21101 W y) 1102 W 0) = tp h ∧ rc (setFI (setFJ (setFP h 31100 W (some U)) 21101 W y) 1102 W 0) = rc h ∧ rs (setFI (setFJ (setFP h 31100 W (some U)) 21101 W y) 1102 W 0) = rs h := ⟨rfl, rfl, rfl⟩
        have N1 := N.fx x0 (fun g y' p1 p2 z => by unfold EWW EWK at z; omega) (fun y' z => by unfold EWW EWK at z; omega)
        generalize setFI (setFJ (setFP h 31100 W (some U)) 21101 W y) 1102 W 0 = h1 at *
        -- the reference's beginning
        have kp0 : KPW r (sI (sI (sI (sI (sL r 21464 y) 1465 0) 1466 0) 11468 0) 1469 0) := ((((KPW.rf.l y).s _ (by decide)).s _ (by decide)).s _ (by decide)).s _ (by decide)
        have d1 : gl (sI (sI (sI (sI (sL r 21464 y) 1465 0) 1466 0) 11468 0) 1469 0) 21464 = y := by
          show gl (sL r 21464 y) 21464 = y
          rw [gl_sL, if_pos rfl]
        have d2 : gi (sI (sI (sI (sI (sL r 21464 y) 1465 0) 1466 0) 11468 0) 1469 0) 1465 = 0 := by rw [gi_sI, if_neg (by decide), gi_sI, if_neg (by decide), gi_sI, if_neg (by decide), gi_sI, if_pos rfl]
        have d3 : gi (sI (sI (sI (sI (sL r 21464 y) 1465 0) 1466 0) 11468 0) 1469 0) 1466 = 0 := by rw [gi_sI, if_neg (by decide), gi_sI, if_neg (by decide), gi_sI, if_pos rfl]
        have d4 : gi (sI (sI (sI (sI (sL r 21464 y) 1465 0) 1466 0) 11468 0) 1469 0) 11468 = 0 := by rw [gi_sI, if_neg (by decide), gi_sI, if_pos rfl]
        have d5 : gi (sI (sI (sI (sI (sL r 21464 y) 1465 0) 1466 0) 11468 0) 1469 0) 1469 = nI 0 := by rw [gi_sI, if_pos rfl]; rfl
        have eI : wkI r (wN R) j y = pusF (sI (sI (sI (sI (sL r 21464 y) 1465 0) 1466 0) 11468 0) 1469 0) b := by unfold wkI; rw [r17, t17]
        generalize sI (sI (sI (sI (sL r 21464 y) 1465 0) 1466 0) 11468 0) 1469 0 = r0 at *
        have E1 : WEN h1 U V' e0 W R C L G fW par wk pk fS ks r0 dp := ⟨N1, ⟨c4, by rw [c5.1]; exact o7, c1, hW⟩, hX.kp kp0, dpp⟩
        have S1 : WKS h1 W U R G r0 (fun _ => False) h1 r0 := ⟨⟨FX.rf, rfl, rfl, rfl⟩, KPW.rf, ⟨by rw [c2, d1], by rw [c3, d2], 0, d2, by omega⟩, fun c hc => hc.elim⟩
        have DN : DAN R (fun _ => False) b := fun m q an z => by
          cases m with
          | zero =>
            have an : b = q := an
            rw [← an, b40] at z
            exact absurd z (by decide)
          | succ m =>
            obtain ⟨i, i1, -⟩ := an
            rw [upB_none b41] at i1
            cases i1
        have er : rsN R = wN R * 120 + nsC R := rfl
        have sz : G 5 b - G 4 b ≤ 120 := by
          obtain ⟨-, g4, g5⟩ := T'.2.2.1 b rg.1 rg.2
          omega
        -- the reference's end
        have RK : ∀ r2 v, GW R (pusF r0 b) r2 → (∃ g, gi r2 1469 = nI g ∧ g < 17) → ¬ wrn r2 → v = (if ¬ gi r2 11468 = 0 then -2 else if gi r2 1466 = 1 then gi r2 1467 else -1) → RWK r r2 x y v := fun r2 v g2 hgf hr ev d1' h2 ar Q1 RW1 K1 => by
          rw [xj]
          refine wk_start RW1 BVr hj y (by rw [r17]; exact n17) (fun h3 R3 => ?_)
          rw [eI] at R3
          obtain ⟨n, gn⟩ := g2
          obtain ⟨g, g1, g17⟩ := hgf
          refine wk_goes _ y n (pusF r0 b) h3 r2 R3 gn (fun h4 R4 => ?_)
          have ef : fcN r2 = g := by unfold fcN; rw [g1, tn_nI (by omega)]
          refine wk_end R4 (by rw [ef]; exact g1) (by rw [ef]; exact g17) hr _ y ?_
          rw [← ev]
          exact K1 h4 R4
        refine gob_all E1 120 b rb sz (d + 2) h1 r0 0 (fun _ => False) _ S1 d3 d4 d5 (Nat.zero_le _) DN (fun z => by rw [b40] at z; exact absurd z (by decide)) (fun h2 v r2 g2 S2 B2 => ?_)
        have fx2 : FX (EWW W U) h h2 := x0.tr (S2.1.1.mono (fun f x z => Or.inl z))
        have tp2 : tp h2 = tp h ∧ rc h2 = rc h ∧ rs h2 = rs h := ⟨S2.1.2.1.trans c5.1, S2.1.2.2.1.trans c5.2.1, S2.1.2.2.2.trans c5.2.2⟩
        simp only [psh]
        rw [bk_X9_start_12]
        rcases B2 with ⟨ev, fl, gg⟩ | B2
        · rw [ev]
          refine ⟨fun p => absurd p (by decide), fun _ => ?_⟩
          rw [bk_X9_start_16]
          refine ⟨fun _ => ?_, fun p => absurd (by decide) p⟩
          rw [bk_X9_start_21, bk_X9_start_22]
          simp only [psh]
          rw [bk_X11_walk_20]
          exact H h2 (-2) r2 fx2 tp2 (kp0.tr S2.2.1) S2.2.2.1.2.1.symm (RK r2 _ g2 gg (fun w => fl w.2) (by rw [if_pos fl]))
        · have e40 : ai r2 40 b = 0 := by rw [hg_b (E1.hg S2) (by omega) rg.1 rg.2 E1.t.2.2.2.2.1]; exact b40
          have g3 := lv_turn E1 S2 rb (show 0 < 15 by omega) B2 (fun z => by rw [b40] at z; exact absurd z (by decide)) (fun z => by rw [b40] at z; exact absurd z (by decide))
          have el : lvF (sI r2 1469 (nI 0)) (wN R) (nkN R) (nmN R) b 0 = sI r2 1469 (nI 0) := by
            refine lvF_o ?_ ?_ ?_ ?_ ?_ <;> (show ¬ ai r2 40 b = _) <;> rw [e40] <;> decide
          rw [el] at g3
          obtain ⟨b1, b2, b3, b4, -, -, b5, b6, b7⟩ := B2
          have f1 : gi (sI r2 1469 (nI 0)) 1466 = gi r2 1466 := by rw [gi_sI, if_neg (by decide)]
          have f2 : gi (sI r2 1469 (nI 0)) 1467 = gi r2 1467 := by rw [gi_sI, if_neg (by decide)]
          have f3 : gi (sI r2 1469 (nI 0)) 11468 = 0 := by rw [gi_sI, if_neg (by decide)]; exact b1
          have f4 : gi (sI r2 1469 (nI 0)) 1469 = nI 0 := by rw [gi_sI, if_pos rfl]
          have f5 : gi (sI r2 1469 (nI 0)) 1465 = fI h2 1102 W := by rw [gi_sI, if_neg (by decide)]; exact S2.2.2.1.2.1.symm
          have kp3 : KPW r (sI r2 1469 (nI 0)) := (kp0.tr S2.2.1).s _ (by decide)
          generalize sI r2 1469 (nI 0) = r3 at *
          have nw : ¬ wrn r3 := fun w => by
            have := w.1
            unfold fcN at this
            rw [f4] at this
            exact absurd this (by decide)
          have FIN' : ∀ v', v' = (if gi r2 1466 = 1 then gi r2 1467 else -1) → Q (some (vi v')) h2 := fun v' ev => by
            refine H h2 v' r3 fx2 tp2 kp3 f5 (RK r3 v' (g2.tr g3) ⟨0, f4, by omega⟩ nw ?_)
            rw [if_neg (fun q => q f3), f1, f2]; exact ev
          rcases b5 with ⟨v1, v2⟩ | ⟨k, v1, v2, v3, v4⟩ | ⟨v1, v2, t, v3, v4⟩ | ⟨v1, v2⟩
          · rw [v1]
            refine ⟨fun p => absurd p (by decide), fun _ => ?_⟩
            rw [bk_X9_start_16]
            refine ⟨fun _ => ?_, fun p => absurd (by decide) p⟩
            rw [bk_X9_start_21, bk_X9_start_22]
            simp only [psh]
            rw [bk_X11_walk_20]
            exact FIN' _ (by rw [v2, if_neg (by decide)])
          · rw [v1]
            have k16 : k < 2 ^ 31 := by have := E1.t.2.1.2.1; omega
            refine ⟨fun p => absurd (show nI k < 0 by rw [p]; decide) (nI_pos k16), fun _ => ?_⟩
            rw [bk_X9_start_16]
            refine ⟨fun _ => ?_, fun p => absurd (fun q => nI_pos k16 (by rw [q]; decide)) p⟩
            rw [bk_X9_start_21, bk_X9_start_22]
            simp only [psh]
            rw [bk_X11_walk_20]
            exact FIN' _ (by rw [if_pos v3, v4])
          · rw [v1]
            refine ⟨fun _ => ?_, fun p => absurd rfl p⟩
            rw [bk_X9_start_19, bk_X9_start_22]
            simp only [psh]
            rw [bk_X11_walk_20]
            exact FIN' _ (by rw [v2, if_neg (by decide)])
          · rw [v1]
            refine ⟨fun p => absurd p (by decide), fun _ => ?_⟩
            rw [bk_X9_start_16]
            refine ⟨fun p => absurd rfl p, fun _ => ?_⟩
            rw [bk_X9_start_19, bk_X9_start_22]
            simp only [psh]
            rw [bk_X11_walk_20]
            exact FIN' _ (by rw [v2, if_neg (by decide)])
    · rw [bk_X11_walk_10]
      refine BAD (fun i e => ?_)
      rw [← Option.some.inj e]
      cases e17 : oN (ai R 17 (wN R * 12 + j)) with
      | none =>
        unfold oN at e17
        split at e17
        · assumption
        · cases e17
      | some b => rw [e17] at z; cases z
end
