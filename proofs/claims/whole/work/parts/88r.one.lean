/-! Statements with one block -/
theorem up_in {R : RV} {b bb s : Nat} {what : Int32} (U : UPD R) (h1 : wN R * 1024 ≤ b) (h2 : b < nbN R) (e41 : ai R 41 b = nI s) (hs : s < 2 ^ 31) (e21 : ai R 21 s = nI bb) (hbb : bb < 2 ^ 31) (e40 : ai R 40 b = what) (n0 : ¬ what = 0) (n6 : ¬ what = 6) : cch R b = cch R bb ∧ lmB R b = (if what = 1 ∨ what = 8 then 1 else 0) + lmB R bb ∧ inL R b = (if what = 1 ∨ what = 8 then false else if what = 4 then true else inL R bb) := by
  have up := upB_of e41 hs e21 hbb
  refine ⟨?_, ?_, ?_⟩
  · rw [cc_up U h1 h2 up, e40, if_neg n6, List.nil_append]
  · rw [lm_up U h1 h2 up, e40]
  · unfold inL
    rw [tg_up U h1 h2 up, e40]
    by_cases z : what = 1 ∨ what = 8
    · rw [if_pos z, if_pos (Or.inr z)]; simp
    · rw [if_neg z, if_neg (fun y => by rcases y with y | y; exact n0 y; exact z y)]
      by_cases z4 : what = 4
      · rw [if_pos z4, if_pos z4]; simp
      · rw [if_neg z4, if_neg z4]
/-- what is known inside the first block of a statement -/
theorem dpr_in {h h3 h4 : AH} {R r : RV} {G : Nat → Nat → Nat} {sc : List Nat} {l : Nat} {il : Bool} {nk : Nat} {wk : Nat → Int64} {nm : Nat} {fS : Nat → Nat} {what : Int32} (A : RIL r) (hr : rng r) (d0 : 0 < dN r) (d1 : ¬ gi r 1451 = 125) (EN : ENR r R) (P : DPR h3 R G r (rsB r) sc l il nk wk nm (nsC r) fS) (A2 : RIL (stpF r)) (nb : nbN (stpF r) = nbN r + 1) (r40 : ai (stpF r) 40 (nbN r) = what) (r41 : ai (stpF r) 41 (nbN r) = nI (rsN r)) (n0 : ¬ what = 0) (n6 : ¬ what = 6) (S : ∀ c, c ∈ cch R (rsB r) → SCF h4 R G c) :
    DPR h4 R (fun q i => if q = 0 ∧ i = rsN r then tp h else G q i) (stpF r) (nbN r) sc ((if what = 1 ∨ what = 8 then 1 else 0) + l) (if what = 1 ∨ what = 8 then false else if what = 4 then true else il) nk wk nm (nsC r + 1) (up1 fS (nsC r) (tp h)) ∧ cch R (nbN r) = cch R (rsB r) ∧ nsC (stpF r) = nsC r + 1 ∧ rsN (stpF r) = rsN r + 1 := by
  obtain ⟨v20, v21, v22, ew, lb, FR, rl⟩ := st_vals A hr d0 d1 EN
  have EN2 := EN.step hr
  have ok1 := EN2.right
  obtain ⟨-, O⟩ := turn A hr ok1
  obtain ⟨o1, o2, o3, ⟨o4, o4'⟩, -⟩ := O
  have w2 : wN (stpF r) = wN r := by unfold wN; rw [o1]
  obtain ⟨⟨p1, p1'⟩, p2, p3, p4, p5, p6, p7, p8⟩ := P
  have sm := small A
  have hb1 : nbN r < nbN (stpF r) := by omega
  have e40 : ai R 40 (nbN r) = what := by rw [FR.2.2.1 40 _ (by omega) (by omega) hb1]; exact r40
  have e41 : ai R 41 (nbN r) = nI (rsN r) := by rw [FR.2.2.1 41 _ (by omega) (by omega) hb1]; exact r41
  have nbR := FR.1.2.2.1
  have lo : wN R * 1024 ≤ nbN r := by rw [ew]; exact Nat.le_add_right _ _
  obtain ⟨u1, u2, u3⟩ := up_in p8 lo (by omega) e41 sm.1 v21 lb e40 n0 n6
  have lo2 : ∀ q i, q ≤ 17 → ai (stpF r) q i = ai r q i := fun q i hq => (lo_turn (ow_turn (RIL_pre A)) (dN_0 d0) hq i).1
  have g2 : (fun q i => if q = 0 ∧ i = rsN r then tp h else G q i) 2 = G 2 := by funext i; simp
  have q1 := A.q
  have q2 := A2.q
  have er : rsN (stpF r) = rsN r + 1 := by omega
  have e1 : rsN r = wN r * 120 + nsC r := rfl
  have e2 : rsN (stpF r) = wN r * 120 + nsC (stpF r) := by rw [← w2]; rfl
  refine ⟨⟨⟨?_, fun k hk => ?_⟩, ?_, fun k hk => ?_, ?_, fun c m => ⟨?_, ?_⟩, ?_, ?_, p8⟩, u1, by omega, er⟩
  · rw [p1]; unfold nkN; rw [w2, lo2 2 _ (by omega)]
  · obtain ⟨a1, a2, a3⟩ := p1' k hk
    rw [w2]
    refine ⟨a1, a2, Int32.lt_trans a3 ?_⟩
    rw [q1.1, q2.1, nI_ltI (by omega) (by omega)]
    exact o3
  · rw [p2]; unfold nmN; rw [w2, lo2 8 _ (by omega)]
  · rw [w2]
    unfold up1
    by_cases y : k = nsC r
    · rw [if_pos y]; simp [y, e1]
    · rw [if_neg y, p3 k (by omega)]
      simp [show ¬ wN r * 120 + k = rsN r by omega]
  · rw [u1, g2]; exact p4
  · rw [u1] at m
    have s := S c m
    unfold SCF at s ⊢
    rw [g2]; exact s
  · rw [u1] at m
    have := (p5 c m).2
    omega
  · rw [u2, p6]
  · rw [u3, p7]
/-- a statement with one block, at the end -/
theorem one_dpo {h h4 h' h'' : AH} {U : Nat} {R r rc r' : RV} {G G' G2 : Nat → Nat → Nat} {x : Nat} {ks ks4 ks' ks'' C1 C2 : List Nat} {fS' : Nat → Nat} {E : Nat → Nat → Prop} {what : Int32} {k : Nat} (A : RIL r) (hr : rng r) (d0 : 0 < dN r) (d1 : ¬ gi r 1451 = 125) (EN : ENR r R) (hc : ∀ c, c ∈ cch R (rsB r) → c / 4 < rsN r) (nb : nbN (stpF r) = nbN r + 1) (r40 : ai (stpF r) 40 (nbN r) = what) (r41 : ai (stpF r) 41 (nbN r) = nI (rsN r)) (r42 : ai (stpF r) 42 (nbN r) = 0) (er : rsN (stpF r) = rsN r + 1) (ec : cch R (nbN r) = cch R (rsB r))
    (BP : BPO h4 h' U R (fun q i => if q = 0 ∧ i = rsN r then tp h else G q i) G' (stpF r) rc (nbN r) x ks4 ks' fS') (ge : ∀ q i, ¬ (q = 6 ∧ i = rsN r) → G2 q i = G' q i) (nbc : nbN (stpF r) ≤ nbN rc) (rsc : rsN r + 1 ≤ rsN rc) (nbR : nbN rc ≤ nbN R)
    (X : FX E h' h'') (nX : ∀ g y, tp h4 ≤ y → y < tp h' → E g y → g = 90003) (htp : tp h < tp h4) (htp2 : tp h4 ≤ tp h') (S : SFF h'' U R G2 (rsN r)) (nx : fP h'' 30804 (tp h) = none)
    (v26 : ai R 26 (rsN r) = nI (nbN r)) (v27 : ai R 27 (rsN r) = -1) (v28 : ai R 28 (rsN r) = -1) (v32 : ai R 32 (rsN r) = nI 0) (v29 : cnt (ai R 29 (rsN r)) 4) (v29' : ¬ k = 10 → ai R 29 (rsN r) = nI 0) (v19 : ai R 19 (rsN r) = nI k) (hk : k = 1 ∨ k = 5 ∨ k = 6 ∨ k = 10 ∨ k = 11) (hrol : what = rol k) (Pl : PLS R (rsN r)) (h6 : k = 10 → tp h' ≤ G2 6 (rsN r) ∧ G2 6 (rsN r) + 3 < tp h'')
    (w' : wN r' = wN rc) (ns' : nsC r' = nsC rc) (nb' : nbN r' = nbN rc) (hw : wtS R (rsN r) + qN r + 2 + qN rc ≤ qN (stpF r) + qN r') (wc : wN rc = wN r)
    (c1 : CTK ks4 C1 ks) (c2 : CTK ks'' C2 ks') (cm : ∀ a, List.count a C1 + List.count a C2 = List.count a (mpS R (rsN r)))
    (s1 : ∀ c, c ∈ cch R (rsB r) → fI h4 10304 (G 2 c) = fI h 10304 (G 2 c)) (s2 : ∀ c, c ∈ cch R (rsB r) → fI h'' 10304 (G 2 c) = fI h' 10304 (G 2 c)) : ∃ G'', DPO h h'' U R G G'' r r' (tp h) ks ks'' fS' := by
  obtain ⟨v20, v21, v22, ew, lb, FR, rl⟩ := st_vals A hr d0 d1 EN
  obtain ⟨b1, b2, b3, ⟨b4, b5, b6⟩, b7, b8, b9⟩ := BP
  have sm := small A
  have rs' : rsN r' = rsN rc := by
    have e1 : rsN r' = wN r' * 120 + nsC r' := rfl
    have e2 : rsN rc = wN rc * 120 + nsC rc := rfl
    rw [e1, e2, w', ns']
  have hb1 : nbN r < nbN (stpF r) := by omega
  have kd : kids R (rsN r) = [nbN r] := by
    unfold kids
    rw [v26, v27, v28, v32, oN_nI sm.2]
    rfl
  have BKn : ∀ v role num, v = -1 → BK R (rsN r) v role num := fun v role num e => Or.inl e
  have f40 : ∀ q, 40 ≤ q → q ≤ 43 → ai R q (nbN r) = ai (stpF r) q (nbN r) := fun q h1 h2 => FR.2.2.1 q _ h1 h2 hb1
  have B26 : BK R (rsN r) (ai R 26 (rsN r)) (rol k) 0 := Or.inr ⟨nbN r, v26, by rw [ew]; exact Nat.le_add_right _ _, by omega, by rw [f40 40 (by omega) (by omega), r40, hrol], by rw [f40 41 (by omega) (by omega), r41], by rw [f40 42 (by omega) (by omega), r42]⟩
  have c0 : tn (ai R 32 (rsN r)) = 0 := by rw [v32]; rfl
  have G0 : G2 0 (rsN r) = tp h := by
    rw [ge 0 _ (fun z => absurd z.1 (by decide)), (b1.1 (rsN r) (by omega)).1]; simp
  have nk' : ∀ j, j < 20 → ¬ j = k → ¬ ai R 19 (rsN r) = nI j := fun j hj hjk e => by
    rw [v19] at e
    have := congrArg tn e
    rw [tn_nI (by omega), tn_nI (by omega)] at this
    omega
  have i9 : ¬ ai R 19 (rsN r) = 9 := nk' 9 (by omega) (by omega)
  have i3 : ¬ ai R 19 (rsN r) = 3 := nk' 3 (by omega) (by omega)
  have hn6 : hasN R (rsN r) → k = 10 := fun z => by
    rcases z with z | z
    · exact absurd z i9
    · by_cases y : k = 10
      · exact y
      · exact absurd z (nk' 10 (by omega) (fun w => y w.symm))
  have A3 : AD h'' U (tp h4) (tp h') R G2 (fun _ => False) (rsN r + 1) (rsN rc) (nbN r) (nbN rc) := by
    rw [er] at b3
    exact (b3.fx X nX).gb ⟨⟨fun s _ => ge _ _ (fun z => absurd z.1 (by decide)), fun s h1 _ => ⟨ge _ _ (fun z => absurd z.1 (by decide)), ge _ _ (fun z => by omega)⟩⟩, fun b _ _ => ⟨ge _ _ (fun z => absurd z.1 (by decide)), ge _ _ (fun z => absurd z.1 (by decide)), ge _ _ (fun z => absurd z.1 (by decide))⟩, fun c _ => ge _ _ (fun z => absurd z.1 (by decide))⟩
  have KK : (∀ b, b ∈ kids R (rsN r) → nbN r ≤ b ∧ b < nbN rc) ∧ (∀ c, prS R (rsN r) = some c → c / 4 < rsN r) ∧ ∀ c, (cch R (tn (ai R 21 (rsN r)))).head? = some c → c / 4 < rsN r := by
    refine ⟨fun b hbm => ?_, fun c hcm => ?_, fun c hcm => ?_⟩
    · rw [kd] at hbm
      have := List.mem_singleton.mp hbm
      omega
    · rw [prS_find v21 lb] at hcm
      exact hc c (List.mem_of_find?_eq_some hcm)
    · rw [v21, tn_nI lb] at hcm
      exact hc c (List.mem_of_mem_head? hcm)
  obtain ⟨G'', g0, g3, AD'⟩ := st_fin (a := tp h4) (z := tp h') (a' := tp h) (z' := tp h'') A3 S (by rw [G0]; exact nx) KK ⟨v29, by rw [v32]; exact ⟨rfl, by decide⟩, by omega, by
      rw [kd]
      exact ⟨by rw [ge 4 _ (fun z => absurd z.1 (by decide)), b5, er], by rw [ge 5 _ (fun z => absurd z.1 (by decide)), b6]; exact rsc, by
        show G2 5 (nbN r) = rsN rc
        rw [ge 5 _ (fun z => absurd z.1 (by decide)), b6]⟩, ⟨k, v19, by omega, B26, BKn _ _ _ v27, BKn _ _ _ v28, fun i hi => by omega, fun _ => v27, fun _ => ⟨v28, v32⟩, fun _ => by rw [v26]; exact nI_ne_m1 sm.2, fun z => by omega, fun _ y => v29' y⟩, Pl⟩ (by rw [G0]; omega) (fun z => by
      have := h6 (hn6 z)
      exact ⟨by omega, this.2, Or.inr this.1⟩) (fun i hi => by omega) ⟨htp2, X.1, Nat.le_refl _⟩ (by omega)
  have gg : ∀ q i, ¬ q = 3 → ¬ q = 6 → G'' q i = G' q i := fun q i h1 h2 => by
    rw [g0 q i (fun z => h1 z.1), ge q i (fun z => h2 z.1)]
  have cs : cch R (rsB r) = cch R (nbN r) := ec.symm
  refine ⟨G'', ⟨fun s hs => ⟨?_, ?_, ?_⟩, fun b hb => ⟨?_, ?_, ?_⟩, fun c hcc => ?_⟩, fun k' hk' => ?_, ?_, ?_, ?_, fun c m => ?_, ?_, ?_⟩
  · rw [gg 0 s (by decide) (by decide), (b1.1 s (by omega)).1]
    simp [show ¬ s = rsN r by omega]
  · rw [g0 3 s (fun z => by omega), ge 3 s (fun z => absurd z.1 (by decide)), (b1.1 s (by omega)).2.1]; simp
  · rw [g0 6 s (fun z => absurd z.1 (by decide)), ge 6 s (fun z => by omega), (b1.1 s (by omega)).2.2]; simp
  · rw [gg 1 b (by decide) (by decide), (b1.2.1 b hb).1]; simp
  · rw [gg 4 b (by decide) (by decide), (b1.2.1 b hb).2.1]; simp
  · rw [gg 5 b (by decide) (by decide), (b1.2.1 b hb).2.2]; simp
  · rw [gg 2 c (by decide) (by decide), b1.2.2 c (by omega)]; simp
  · rw [gg 0 _ (by decide) (by decide), b2 k' (by omega)]
    rw [show wN (stpF r) = wN r from FR.1.1.symm.trans ew]
  · rw [rs', nb']; exact AD'
  · rw [rs']; exact g3
  · rw [g0 0 _ (fun z => absurd z.1 (by decide))]; exact G0.symm
  · have m2 : c ∈ cch R (nbN r) := by rw [ec]; exact m
    have := b7 c m2
    rw [er] at this
    simp only [show ¬ (2 : Nat) = 0 by decide, false_and, if_false] at this
    rw [s2 c m, this, s1 c m, rs', stR_add R c (show rsN r ≤ rsN r + 1 by omega) rsc, stR_one, decide_eq_false i3, Bool.false_and, Bool.false_or]
  · rw [rs', show rsN rc - rsN r = 1 + (rsN rc - (rsN r + 1)) by omega, flr_add]
    rw [er] at b8
    intro a
    have e1 := c1 a
    have e2 := c2 a
    have e3 := b8 a
    have e4 := cm a
    rw [List.count_append, show flr (mpS R) 1 (rsN r) = mpS R (rsN r) ++ [] from rfl, List.append_nil]
    omega
  · rw [rs', nb', show rsN rc - rsN r = 1 + (rsN rc - (rsN r + 1)) by omega, sumN_add]
    rw [er] at b9
    rw [show sumN (wtS R) 1 (rsN r) = wtS R (rsN r) + 0 from rfl]
    omega
