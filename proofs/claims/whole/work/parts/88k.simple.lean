/-! do, return, break -/
theorem kwx {r : RV} (T : RT r) {k : Nat} (hk : k < 20) (h : tkn r = k) : gl r 21450 = lN (kwN k) := (tk_kw T hk).mp h
theorem stp_kw {r : RV} (A : RIL r) (d0 : 0 < dN r) (d1 : ¬ gi r 1451 = 125) {k : Nat} (hs : srt r = some k) (hk : ¬ k = 11) (hn : nsC r < 120) : stpF r = rsK (advF (rsA r)) (rsN r) (lN (kwN k)) ∧ ¬ gi r 1451 = -1 ∧ ¬ ai r 18 (wN r) = 120 := by
  obtain ⟨tk, k10⟩ := srt_kw hs hk
  have T := A.1
  have i : isSt r = true := (isSt_srt T).mpr (by rw [hs]; exact fun z => by cases z)
  have n120 : ¬ ai r 18 (wN r) = 120 := by
    rw [A.s.1, lt120, nI_eq (by omega) (by omega)]; omega
  have n123 : ¬ gi r 1451 = 123 := fun z => by
    have := (tk_sign T (c := 123) (by decide)).mpr z
    rw [tk, show sgT 123 = 20 from rfl] at this
    omega
  have hx := kwx T (by omega) tk
  have nz : ∀ k, k < 20 → ¬ lN (kwN k) = 0 := by decide +kernel
  refine ⟨?_, ne_end T (by rw [hx]; exact nz k (by omega)), n120⟩
  unfold stpF
  rw [if_neg (dN_0 d0), if_neg d1]
  unfold rsF
  rw [if_neg (fun z => by
    rcases z with z | z
    · rw [i] at z; cases z
    · exact n120 z), if_neg n123, hx]
theorem rsK_simple (X : RV) (s : Nat) {k : Nat} (hk : k = 0 ∨ k = 7 ∨ k = 8) : rsK X s (lN (kwN k)) = takF (tI X 19 s (nI k)) 59 := by
  rcases hk with hk | hk | hk <;> subst hk
  · have e : lN (kwN 0) = 25711 := by decide +kernel
    rw [e]; rfl
  · have e : lN (kwN 7) = 422826041707 := by decide +kernel
    rw [e]; rfl
  · have e : lN (kwN 8) = 125780071117422 := by decide +kernel
    rw [e]; rfl
/-- a sign is taken by both -/
theorem tak_tew {a X : RV} {c : Int32} {t : Nat} (te : TE a X) (ea : gi a 1452 = -1) (eX : gi X 1452 = -1) (T : RT a) (hc : c ∈ ([123, 125, 40, 41, 59, 44, 124, -1] : List Int32)) (ht : t = sgT c) : TEW (gT (decide (tkn a = t)) a) (takF X c) ∧ (gi (takF X c) 1452 = -1 ↔ gi a 1451 = c) := by
  have s := tk_sign T hc
  unfold takF
  by_cases z : gi a 1451 = c
  · rw [decide_eq_true (by rw [ht]; exact s.mpr z), gT_t ea, if_pos (te.2.2.2.1.trans z)]
    refine ⟨TEW.of te.adv ?_, ?_⟩
    · rw [gi_adv, gi_adv, ea, eX]
    · rw [gi_adv]; simp [eX, z]
  · rw [decide_eq_false (fun y => z (s.mp (by rw [← ht]; exact y))), gT_f ea, if_neg (fun y => z (te.2.2.2.1.symm.trans y))]
    have w1 := fai_w T ea
    have w2 := fai_w (te.rt T) eX
    refine ⟨⟨by rw [w1.2, w2.2]; exact te.2.2.1, fun y => absurd y w1.1, ?_, ?_⟩, ?_⟩
    · rw [TE_fai.2.1, TE_fai.2.1]; exact te.2.1
    · show ai X 1 = ai a 1; exact te.2.2.2.2.2
    · simp [w2.1, z]
/-- what a new statement has, read off behind its first token -/
theorem new_vals {r : RV} (A : RIL r) : ∀ q, ai (advF (rsA r)) q (rsN r) = ai (rsA r) q (rsN r) ∧ (q = 26 ∨ q = 27 ∨ q = 28 → ai (rsA r) q (rsN r) = -1) ∧ (q = 29 ∨ q = 32 → ai (rsA r) q (rsN r) = nI 0) := fun q => by
  have v := rsX_v r
  refine ⟨by rw [ai_adv], fun hq => ?_, fun hq => ?_⟩
  · rw [rsA_X r (by omega) (by omega) (by omega)]
    rcases hq with rfl | rfl | rfl
    · exact v.2.2.2.1
    · exact v.2.2.2.2.1
    · exact v.2.2.2.2.2.1
  · rw [rsA_X r (by omega) (by omega) (by omega)]
    rcases hq with rfl | rfl
    · exact v.2.2.2.2.2.2.1
    · exact v.2.2.2.2.2.2.2
/-- do and return (and break, behind its note) -/
theorem sc_tail {D k : Nat} (hk : k = 0 ∨ k = 7 ∨ k = 8) {d : Nat} {h h3 h4 : AH} {Q : Option V → AH → Prop} {T U e0 l : Nat} {il : Bool} {so : Option Nat} {sc : List Nat} {r R : RV} {nm : Nat} {fW fS : Nat → Nat} {ks ks4 : List Nat} {B B0 : Nat} {G : Nat → Nat → Nat} {nk : Nat} {wk : Nat → Int64} (hd : 7 ≤ d) (A : RIL r) (hr : rng r) (hD : dN r = D) (D0 : 0 < D) (d1 : ¬ gi r 1451 = 125) (hs : srt r = some k) (hn : nsC r < 120) (hsc : ∀ a, a ∈ sc → a + 1 < tp h ∧ U + 10 ≤ a)
    (E4 : ES h4 T U e0 1 (advF r) D l il so) (L4 : LST h4 U e0 nm fW (nsC r + 1) (up1 fS (nsC r) (tp h)) ks4 B) (hU : U + 10 ≤ tp h) (X4 : FX (ENX T U e0 (tp h)) h h4) (t9 : tg h4 (tp h) = 9) (htp : tp h < tp h4) (be : Bool) (F4 : FO h4 8 (tp h) (up1 (vS0 (nI k) (gi r 1449) (nI nm - 1) (nI l)) 10813 (b2i be)) (fun _ => 0) (fun _ => none)) (cr : B0 ≤ B + 2 + 3 * qN r)
    (DP : ENR r R → DPR h3 R G r (rsB r) sc l il nk wk nm (nsC r) fS ∧ be = (decide (k = 7) && inL R (rsB r)) ∧ CTK ks4 (mpS R (rsN r)) ks ∧ plp (gi r 1449))
    (H : ∀ h' r' ks' B' ns' fS' n, goK D n (stpF r) r' → ES h' T U e0 1 r' D l il so → FX (EPa T U e0 sc) h h' → LST h' U e0 nm fW ns' fS' ks' B' → (∀ k, k < nsC r → fS' k = fS k) → (gi r' 1452 = -1 → ns' = nsC r' ∧ nsC r < ns' ∧ B0 ≤ B' + 3 * qN r' ∧ dN r' = D) → (¬ gi r' 1452 = -1 → B0 + D ≤ B' + 3 * tn (gi r 1448) + 20) → (tg h' (tp h) = 9 ∧ tp h < tp h') → (ENR r R → ENR r' R ∧ ∃ G', DPO h h' U R G G' r r' (tp h) ks ks' fS') → Q (some (vr (some (tp h)))) h') :
    wp d K_X5_takeStatement 80 [] [(0, vr (some (U + 9))), (1, vi (nI k)), (2, vr (some (tp h)))] h4 Q := by
  obtain ⟨d, rfl⟩ : ∃ j, d = j + 7 := ⟨d - 7, by omega⟩
  have d0 : 0 < dN r := by omega
  have D8 := A.d.2
  obtain ⟨st, ne, n120⟩ := stp_kw A d0 d1 hs (by omega) hn
  rw [rsK_simple _ _ hk] at st
  obtain ⟨M1, ho⟩ := MD_rsA (MD.start A hr.1) d0 n120
  have M2 := M1.adv (by rw [gi_rsA]; exact ne)
  have M3 : MD r (dN r) (0 + 1) (rsN r + 1) (tI (advF (rsA r)) 19 (rsN r) (nI k)) := MDtI M2 _ _ (by decide)
  have te : TE (advF r) (tI (advF (rsA r)) 19 (rsN r) (nI k)) := (TE_rsA.adv).tr (TE_tI (by decide))
  have er : gi (advF r) 1452 = -1 := by rw [gi_adv]; exact hr.1
  have RT1 := RT_adv A.1.1
  obtain ⟨tw, ok⟩ := tak_tew te er M3.2.1 RT1 (c := 59) (t := 24) (by decide) rfl
  rw [← st] at tw ok
  have c9 := E4.1.2.2.2.2.2.2.2.2.1
  rw [bk_X5_takeStatement_80]
  refine ⟨c9, ?_⟩
  rw [show vi 24 = vi (nI 24) from rfl]
  refine p_take E4 (by omega) (fun h5 E5 w5 => ?_)
  simp only [psh, bk_X5_takeStatement_83]
  have X5 : FX (ENX T U e0 (tp h)) h h5 := X4.tr (w5.1.mono (fun _ _ z => Or.inl z))
  have F5 := F4.fx w5.1 (by omega) (fun f hf => EPW_no (by omega))
  have t95 : tg h5 (tp h) = 9 := by rw [w5.1.tg htp]; exact t9
  have htp5 : tp h < tp h5 := by rw [w5.2.1]; exact htp
  have q1 : qN r < qN (advF r) := (A.adv_q).2 ne
  have fin : gi (stpF r) 1452 = -1 → stpF r = advF (tI (advF (rsA r)) 19 (rsN r) (nI k)) ∧ MD r (dN r) (0 + 1 + 1) (rsN r + 1) (stpF r) := fun z => by
    obtain ⟨y1, y2, y3⟩ := M3.tak (s := 59) (by decide) (by rw [← st]; exact z)
    rw [st, y2]
    exact ⟨rfl, y3⟩
  refine H h5 (stpF r) ks4 B _ _ 0 rfl (E5.te tw) (EPn_end (ENX_en X5)) (L4.pw w5) (fun j hj => ?_) (fun z => ?_) (fun z => ?_) ⟨t95, htp5⟩ (fun EN => ⟨EN.step hr, ?_⟩)
  · unfold up1; rw [if_neg (by omega)]
  · obtain ⟨-, M4⟩ := fin z
    have e1 := M4.2.2.2.2.2.2.2.1
    have e2 := M4.2.2.2.2.2.2.2.2
    have w := M4.w
    have e3 : rsN (stpF r) = wN r * 120 + nsC (stpF r) := by rw [← w]; rfl
    have e4 : rsN r = wN r * 120 + nsC r := rfl
    exact ⟨by omega, by omega, by omega, by rw [M4.2.2.2.2.2.1]; exact hD⟩
  · have e : gi (stpF r) 1452 = gi (advF r) 1449 := by
      have : ¬ gi (advF r) 1451 = 59 := fun y => z (ok.mpr y)
      rw [tw.1, decide_eq_false (show ¬ tkn (advF r) = 24 from fun y => this ((tk_sign RT1 (c := 59) (by decide)).mp y)), gT_f er]
      exact (fai_w RT1 er).2
    have ln := rt_len A.1
    omega
  · obtain ⟨P, ebe, ct, pp⟩ := DP EN
    have z := (EN.step hr).right
    obtain ⟨es, M4⟩ := fin z
    obtain ⟨v20, v21, v22, ew, lb, FR, rl⟩ := st_vals A hr d0 d1 EN
    have CL := (st_cls A hr d0 d1 (n := 0) (r' := stpF r) rfl z M4.2.2.2.2.2.1).1
    have A1 := M4.1
    obtain ⟨c1, -⟩ := cls_en (EN.step hr) A1 CL
    have nv := new_vals A
    have r' : ∀ q, ¬ q = 19 → ai (stpF r) q (rsN r) = ai (rsA r) q (rsN r) := fun q hq => by
      rw [es, ai_adv, ai_ne hq]; exact (nv q).1
    have v19 : ai R 19 (rsN r) = nI k := by
      rw [(FR.2.1 19 _ (by omega) rl).1, es, ai_adv, ai_tI, if_pos ⟨rfl, rfl⟩]
    have v26 : ai R 26 (rsN r) = -1 := by rw [(FR.2.1 26 _ (by omega) rl).1, r' 26 (by decide)]; exact (nv 26).2.1 (by omega)
    have v27 : ai R 27 (rsN r) = -1 := by rw [c1 27 (by omega), r' 27 (by decide)]; exact (nv 27).2.1 (by omega)
    have v28 : ai R 28 (rsN r) = -1 := by rw [c1 28 (by omega), r' 28 (by decide)]; exact (nv 28).2.1 (by omega)
    have v29 : ai R 29 (rsN r) = nI 0 := by rw [c1 29 (by omega), r' 29 (by decide)]; exact (nv 29).2.2 (by omega)
    have v32 : ai R 32 (rsN r) = nI 0 := by rw [c1 32 (by omega), r' 32 (by decide)]; exact (nv 32).2.2 (by omega)
    have nk : ∀ j, j < 20 → ¬ j = k → ¬ ai R 19 (rsN r) = nI j := fun j hj hjk e => by
      rw [v19] at e
      have := congrArg tn e
      rw [tn_nI (by omega), tn_nI (by omega)] at this
      omega
    have n1 : ¬ ai R 19 (rsN r) = 1 := nk 1 (by omega) (by omega)
    have n2 : ¬ ai R 19 (rsN r) = 2 := nk 2 (by omega) (by omega)
    have n3 : ¬ ai R 19 (rsN r) = 3 := nk 3 (by omega) (by omega)
    have n9 : ¬ ai R 19 (rsN r) = 9 := nk 9 (by omega) (by omega)
    have n10 : ¬ ai R 19 (rsN r) = 10 := nk 10 (by omega) (by omega)
    obtain ⟨p1, p2, p3, p4, p5, p6, p7, p8⟩ := P
    refine leaf_dpo (k := k) A hr d0 d1 EN M4.nb (fun c m => (p5 c m).2) p3 rfl ?_ ?_ htp5 ⟨v26, v27, v28, v29, v32⟩ v19 (by omega) ⟨by rw [v20]; exact pp, fun y => ?_, fun i hi => ?_, fun i hi => ?_⟩ (fun c m => ?_) ct
    · have g0 : (fun q i => if q = 0 ∧ i = rsN r then tp h else G q i) 0 (rsN r) = tp h := by simp
      unfold SFF
      rw [g0]
      have f := fun g hg => F5 g hg
      refine ⟨⟨hU, t95⟩, ⟨?_, ?_, ?_, ?_⟩, fun y => ?_, ?_, ?_, ?_, ?_, ?_, ?_, ?_⟩
      · rw [(f 800 (by decide)).1, v19]; rfl
      · rw [(f 801 (by decide)).1, v20]; rfl
      · rw [(f 802 (by decide)).1, v22, p2]; rfl
      · rw [(f 803 (by decide)).1, v21, tn_nI lb, p6]; rfl
      · rcases y with y | y | y
        · exact absurd y n1
        · exact absurd y n2
        · exact absurd y n3
      · rw [(f 807 (by decide)).1, if_neg (fun y => n2 y.1)]; rfl
      · rw [(f 30808 (by decide)).2.2, if_neg]
        rintro (y | y)
        · exact n2 y
        · exact n3 y
      · rw [(f 30809 (by decide)).2.2, v26]; rfl
      · rw [(f 30810 (by decide)).2.2, if_neg n9, v27]; rfl
      · rw [if_neg, (f 30811 (by decide)).2.2]
        rintro (y | y)
        · exact n9 y
        · exact n10 y
      · rw [(f 30812 (by decide)).2.2, v32, if_neg (by decide)]
      · refine ⟨?_, by rw [(f 814 (by decide)).1]; rfl⟩
        rw [(f 10813 (by decide)).1]
        show b2i be = _
        rw [ebe, v19]
        congr 1
        have e7 : decide (k = 7) = decide (nI k = 7) := by
          apply decide_eq_decide.mpr
          constructor
          · intro y; rw [y]; rfl
          · intro y
            have y : nI k = nI 7 := y
            have := congrArg tn y
            rw [tn_nI (by omega), tn_nI (by omega)] at this
            exact this
        rw [e7]
        unfold tgS inL
        rw [v21, tn_nI lb]
    · exact (F5 30804 (by decide)).2.2
    · rcases y with y | y | y
      · exact absurd y n1
      · exact absurd y n2
      · exact absurd y n3
    · rw [v29] at hi; have : tn (nI 0) = 0 := rfl; omega
    · rw [v32] at hi; have : tn (nI 0) = 0 := rfl; omega
    · rw [stR_one, show decide (ai R 19 (rsN r) = 3) = false from decide_eq_false n3, Bool.false_and, if_neg (by decide)]
      have hm : G 2 c ∈ sc := by rw [p4]; exact List.mem_map.mpr ⟨c, m, rfl⟩
      have hm2 := hsc _ hm
      exact X5.fI (by omega) (ENX_set (by omega))
