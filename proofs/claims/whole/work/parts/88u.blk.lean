/-! block, while, for: the contracts -/
theorem own_of {r X1 : RV} {c : Nat} {what : Int32} (M : MD r (dN r) c (rsN r + 1) X1) (n0 : ¬ what = 0) (x32 : cnt (ai X1 32 (rsN r)) 4) (x29 : what = 8 → ai X1 29 (rsN r) = nI 0) (e41 : ai X1 41 = ai (rsA r) 41) (e46 : ai X1 46 = ai (rsA r) 46) (ho : ∀ j, j < dN r → ¬ ai (rsA r) 41 (obN (rsA r) j) = nI (rsN r)) : OWN X1 what (nI (rsN r)) := by
  refine Or.inr ⟨n0, rsN r, rfl, ?_, ?_, x32, x29, fun j hj => ?_⟩
  · rw [M.w]; exact Nat.le_add_right _ _
  · rw [M.2.2.2.2.2.2.2.1]; omega
  · have := ho j (by rw [← M.2.2.2.2.2.1]; exact hj)
    unfold obN at this ⊢
    rw [e41, e46]; exact this
theorem stp_11 {r : RV} (A : RIL r) (d0 : 0 < dN r) (d1 : ¬ gi r 1451 = 125) (hs : srt r = some 11) (hn : nsC r < 120) : stpF r = opB (tI (rsA r) 19 (rsN r) 11) 26 (rsN r) 9 ∧ gi r 1451 = 123 ∧ ¬ ai r 18 (wN r) = 120 := by
  have T := A.1
  have i : isSt r = true := (isSt_srt T).mpr (by rw [hs]; exact fun z => by cases z)
  have n120 : ¬ ai r 18 (wN r) = 120 := by
    rw [A.s.1, lt120, nI_eq (by omega) (by omega)]; omega
  have n123 : gi r 1451 = 123 := (tk_sign T (c := 123) (by decide)).mp (srt_11 hs)
  refine ⟨?_, n123, n120⟩
  unfold stpF
  rw [if_neg (dN_0 d0), if_neg d1]
  unfold rsF
  rw [if_neg (fun z => by
    rcases z with z | z
    · rw [i] at z; cases z
    · exact n120 z), if_pos n123]
/-- the heap behind a block, its address in the statement -/
theorem sc_blk {D k : Nat} (hk : k = 5 ∨ k = 6 ∨ k = 11) {h h4 h' h1 : AH} {Q : Option V → AH → Prop} {T U e0 l : Nat} {il : Bool} {so : Option Nat} {sc : List Nat} {r R X1 rc : RV} {nm : Nat} {fW fS : Nat → Nat} {ks ks' : List Nat} {B' B0 n ns' x : Nat} {fS' : Nat → Nat} {G : Nat → Nat → Nat} {what : Int32} (hrol : what = rol k) (A : RIL r) (hr : rng r) (hD : dN r = D) (D0 : 0 < D) (d1 : ¬ gi r 1451 = 125) (hsc : ∀ a, a ∈ sc → a + 1 < tp h ∧ U + 10 ≤ a) (hU : U + 10 ≤ tp h) (X4 : FX (EPn T U e0 (tp h) sc) h h4) (s1 : ∀ a, a < tp h → fI h4 10304 a = fI h 10304 a) (t9 : tg h4 (tp h) = 9) (htp : tp h < tp h4) (F4 : FO h4 8 (tp h) (vS0 (nI k) (gi r 1449) (nI nm - 1) (nI l)) (fun _ => 0) (fun _ => none)) (pp : plp (gi r 1449))
    (OD : OPD r X1 D what) (x19 : ai X1 19 (rsN r) = nI k) (xq : ∀ q, q = 27 ∨ q = 28 ∨ q = 29 ∨ q = 32 → ai X1 q (rsN r) = ai (rsA r) q (rsN r)) (g : goL D n (stpF r) rc) (Ac : RIL rc) (ec : gi rc 1452 = -1) (c125 : gi rc 1451 = 125) (dc : dN rc = D + 1) (E' : ES h1 T U e0 1 (clA rc) D l il so) (X' : FX (EPa T U e0 sc) h4 h') (X1' : FX (fun g y => y = U + 9 ∧ (g = 703 ∨ g = 704 ∨ g = 10705 ∨ g = 30706)) h' h1) (tp1 : tp h1 = tp h') (L' : LST h1 U e0 nm fW ns' fS' ks' B') (ens : ns' = nsC rc) (fk : ∀ k, k < nsC r → fS' k = fS k) (crc : B0 ≤ B' + 3 * qN (clA rc)) (tx : tg h' x = 3 ∧ x < tp h' ∧ tp h4 ≤ x)
    (DP : ENR r R → nm = nmN r ∧ l = lmB R (rsB r) ∧ sc = (cch R (rsB r)).map (G 2) ∧ (∀ c, c ∈ cch R (rsB r) → c / 4 < rsN r)) (BP : ENR r R → ENR rc R ∧ ∃ G', BPO h4 h' U R (fun q i => if q = 0 ∧ i = rsN r then tp h else G q i) G' (stpF r) rc (nbN r) x ks ks' fS' ∧ cch R (nbN r) = cch R (rsB r))
    (H : ∀ h' r' ks' B' ns' fS' n, goK D n (stpF r) r' → ES h' T U e0 1 r' D l il so → FX (EPa T U e0 sc) h h' → LST h' U e0 nm fW ns' fS' ks' B' → (∀ k, k < nsC r → fS' k = fS k) → (gi r' 1452 = -1 → ns' = nsC r' ∧ nsC r < ns' ∧ B0 ≤ B' + 3 * qN r' ∧ dN r' = D) → (¬ gi r' 1452 = -1 → B0 + D ≤ B' + 3 * tn (gi r 1448) + 20) → (tg h' (tp h) = 9 ∧ tp h < tp h') → (ENR r R → ENR r' R ∧ ∃ G', DPO h h' U R G G' r r' (tp h) ks ks' fS') → Q (some (vr (some (tp h)))) h') :
    tg h1 (tp h) = 9 ∧ Q (some (vr (some (tp h)))) (setFP h1 30809 (tp h) (some x)) := by
  have d0 : 0 < dN r := by omega
  have sm := small A
  obtain ⟨a1, a2, a3, a4, a5, a6, a7, a8, a9, a10, a11⟩ := cla_v Ac ec c125 dc
  obtain ⟨q1, q2, q3, q4, q5, q6, q7, q8, q9, q10, q11, q12⟩ := id OD
  obtain ⟨z1, z2, z3, OW, FC⟩ := cls_v hD q2 q4 q5 q6 q7 q8 q9 g ec dc sm.1
  have cl : stpF rc = clA rc := by
    rw [close_is c125 (by omega), z2, hrol]
    unfold clB
    rcases hk with hk | hk | hk <;> subst hk <;> rfl
  have gk : goK D (n + 1) (stpF r) (clA rc) := by
    rw [← cl]
    exact goK_tr (m := 1) (goL_K g) ⟨rng_in ec (by omega), RIL_pre Ac, by omega, rfl⟩
  have htp' : tp h4 ≤ tp h' := X'.1
  have t9' : tg h' (tp h) = 9 := by rw [X'.tg htp]; exact t9
  have t91 : tg h1 (tp h) = 9 := by rw [X1'.tg (by omega)]; exact t9'
  refine ⟨t91, ?_⟩
  have E2 := E'.fp (f := 30809) (x := tp h) (some x) hU (by decide)
  have L2 := LST.fp L' (f := 30809) (x := tp h) (some x) hU (by decide)
  have F' := F4.fx X' htp (fun f hf => EPa_no (by omega))
  have F1 := F'.fx X1' (by omega) (fun f hf z => by omega)
  have F2 := F1.sP 30809 (some x)
  have X2 : FX (fun g y => (y = U + 9 ∧ (g = 703 ∨ g = 704 ∨ g = 10705 ∨ g = 30706)) ∨ (g = 30809 ∧ y = tp h)) h' (setFP h1 30809 (tp h) (some x)) := (X1'.mono (fun _ _ z => Or.inl z)).toFP _ (Or.inr ⟨rfl, rfl⟩)
  have XX : FX (EPn T U e0 (tp h) sc) h (setFP h1 30809 (tp h) (some x)) := (X4.tr (EPa_en X')).tr (X2.mono (fun g y z => by
    rcases z with z | z
    · exact Or.inl (Or.inr (Or.inr (Or.inr ⟨z.1, by omega⟩)))
    · exact Or.inr ⟨by omega, by omega⟩))
  have t92 : tg (setFP h1 30809 (tp h) (some x)) (tp h) = 9 := t91
  have tp2 : tp (setFP h1 30809 (tp h) (some x)) = tp h' := tp1
  generalize setFP h1 30809 (tp h) (some x) = h2 at *
  have e1 : rsN r = wN r * 120 + nsC r := rfl
  refine H h2 (clA rc) ks' B' ns' fS' (n + 1) gk E2 (EPn_end XX) L2 fk (fun _ => ⟨by omega, ?_, crc, a9⟩) (fun z => absurd a2 z) ⟨t92, by omega⟩ (fun EN => ?_)
  · have w := FC.1.1
    have w3 : wN (stpF r) = wN r := by unfold wN; rw [q3.1]
    have e2 : rsN rc = wN rc * 120 + nsC rc := rfl
    have := FC.1.2.1
    rw [w, w3] at e2
    omega
  · obtain ⟨ENc, G', bp, cc⟩ := BP EN
    obtain ⟨y1, y2, y3, y4⟩ := DP EN
    have EN' : ENR (clA rc) R := by rw [← cl]; exact ENc.step (rng_in ec (by omega))
    refine ⟨EN', one_fin (l := l) (nm := nm) (X1 := X1) (rc := rc) (by omega) hrol A hr hD D0 d1 OD x19 xq g ec dc gk a2 a3 a5 a9 a10 EN EN' y4 y1 y2 bp cc X2 (fun g y h1 h2 z => by omega) htp htp' t92 hU F2 (fun f _ => rfl) (fun z => by omega) pp CTK.rf (fun c m => ?_) (fun c m => ?_)⟩
    · have hm : G 2 c ∈ sc := by rw [y3]; exact List.mem_map.mpr ⟨c, m, rfl⟩
      exact s1 _ (by have := hsc _ hm; omega)
    · have hm : G 2 c ∈ sc := by rw [y3]; exact List.mem_map.mpr ⟨c, m, rfl⟩
      have := hsc _ hm
      exact X2.fI (by omega) (fun z => by omega)
theorem sc_11 {D : Nat} (HB : BLC D) : SC D 11 := by
  intro d h h3 Q T U e0 l il so sc r R nk par wk pk nm fW fS ks B B0 G hd A hr hD D0 d1 hl CH hsc K hs hn E3 L3 hU X3 t9 ⟨htp, ntg⟩ F3 cr hB0 DP H
  obtain ⟨d, rfl⟩ : ∃ j, d = j + 10 := ⟨d - 10, by omega⟩
  have d0 : 0 < dN r := by omega
  have c9 := E3.1.2.2.2.2.2.2.2.2.1
  obtain ⟨p, g1, g2, g3⟩ := E3.pl
  have pq : gi r 1449 = nI p := by rw [← (E3.2.2.2.2 hr.1).1.2.1]; exact g1
  have cg := cr_ge A cr hB0
  obtain ⟨B, rfl⟩ : ∃ b, B = b + 1 := ⟨B - 1, by omega⟩
  obtain ⟨st, n123, n120⟩ := stp_11 A d0 d1 hs hn
  obtain ⟨M1, ho⟩ := MD_rsA (MD.start A hr.1) d0 n120
  have M3 : MD r (dN r) 0 (rsN r + 1) (tI (rsA r) 19 (rsN r) 11) := MDtI M1 _ _ (by decide)
  have te : TE r (tI (rsA r) 19 (rsN r) 11) := TE_rsA.tr (TE_tI (by decide))
  have nv := new_vals A
  have x19 : ai (tI (rsA r) 19 (rsN r) 11) 19 (rsN r) = nI 11 := by rw [ai_tI, if_pos ⟨rfl, rfl⟩]; rfl
  have xq : ∀ q, ¬ q = 19 → ai (tI (rsA r) 19 (rsN r) 11) q = ai (rsA r) q := fun q hq => ai_ne hq
  have ow : OWN (tI (rsA r) 19 (rsN r) 11) 9 (nI (rsN r)) := own_of M3 (by decide) (by rw [xq 32 (by decide), (nv 32).2.2 (by omega)]; exact ⟨rfl, by decide⟩) (fun z => absurd z (by decide)) (xq 41 (by decide)) (xq 46 (by decide)) ho
  have q1 := te.q
  have E4 := E3.te (TEW.of te (by rw [M3.2.1]; exact hr.1.symm))
  have X4 : FX (EPn T U e0 (tp h) sc) h h3 := ENL_en X3
  rw [if_pos rfl, bk_X5_takeStatement_41]
  refine ⟨c9, st_block (R := R) (h := h) (h3 := h3) (G := G) (wk := wk) (l := l) (il := il) (fS := fS) (what := 9) HB (by omega) A hr hD D0 d1 (by omega) M3 ow (by decide) (by decide) st E4 CH K L3 (by omega) hB0 (by rw [if_neg (by decide), Nat.zero_add]) (by rw [if_neg (by decide), if_neg (by decide)]) DP (fun EN c m => ((DP EN).2.2.2.2.1 c m).1) ?_ ?_⟩
  · intro h' rc x ks' B' ns' fS' n OD g Ac ec c125 dc Ec Xc Lc ens fk crc tx BP
    simp only [psh, bk_X5_takeStatement_44, nn_some]
    exact sc_blk (k := 11) (by omega) rfl A hr hD D0 d1 hsc hU X4 (fun a ha => (X3.mono (fun _ _ z => Or.inr z)).fI (by omega) (ENX_set (T := T) (U := U) (e0 := e0) (b := tp h) (by omega))) t9 htp F3 ⟨p, pq, by omega, by omega⟩ OD x19 (fun q hq => by rw [xq q (by omega)]) g Ac ec c125 dc Ec Xc FX.rf rfl Lc ens fk crc tx (fun EN => by
      obtain ⟨-, y1, -, y3, y4, y2, -⟩ := DP EN
      exact ⟨y1, y2, y3, fun c m => (y4 c m).2⟩) BP H
  · intro h' rw x ks' B' ns' fS' n gk bad Ew Xw Lw fk crw tx
    have t9' : tg h' (tp h) = 9 := by rw [Xw.tg htp]; exact t9
    have htp' : tp h3 ≤ tp h' := Xw.1
    simp only [psh, bk_X5_takeStatement_44, nn_some]
    refine ⟨t9', ?_⟩
    refine H _ rw ks' B' ns' fS' n gk (Ew.fp (some x) hU (by decide)) (EPn_end ((X4.tr (EPa_en Xw)).toFP _ (Or.inr ⟨Nat.le_refl _, by decide⟩))) (LST.fp Lw (some x) hU (by decide)) fk (fun z => absurd z bad) (fun _ => by omega) ⟨t9', by show tp h < tp h'; omega⟩ (fun EN => absurd ((EN.step hr).go (goK_N gk)).right bad)
