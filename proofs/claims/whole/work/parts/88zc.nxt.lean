/-! The next block of a statement is read -/
theorem enr_bk {R : RV} : ∀ {n : Nat} {r r' : RV}, goN n r r' → ENR r' R → ENR r R := by
  intro n
  induction n with
  | zero => intro r r' a E; rw [show r' = r from a] at E; exact E
  | succ n ih => intro r r' a E; exact (ih a.2.2 E).back a.1 a.2.1
/-- where a block of the statement s ends -/
theorem cls_w {r2 rd : RV} {D n b s : Nat} {what : Int32} (A2 : RIL r2) (d2 : dN r2 = D + 1) (b2 : rsB r2 = b) (nb : nbN r2 = b + 1) (ls : s < rsN r2) (r40 : ai r2 40 b = what) (r41 : ai r2 41 b = nI s) (g : goL D n r2 rd) (e : gi rd 1452 = -1) (dc : dN rd = D + 1) : rsB rd = b ∧ ai rd 40 (rsB rd) = what ∧ ai rd 41 (rsB rd) = nI s ∧ OWK s r2 rd ∧ FZ r2 rd := by
  have ob : obN r2 D = b := by
    rw [← b2]
    show tn (ai r2 46 D) = tn (ai r2 46 (dN r2 - 1))
    rw [d2, show D + 1 - 1 = D by omega]
  obtain ⟨f1, f2, f3⟩ := frl (s := s) A2 g e (by omega) (by rw [ob]; exact r41) ls
  obtain ⟨-, F, -⟩ := frk A2 (goL_K g) e (by omega)
  have b3 : rsB rd = b := by
    show tn (ai rd 46 (dN rd - 1)) = _
    rw [dc, show D + 1 - 1 = D by omega, f2]
    exact ob
  refine ⟨b3, ?_, ?_, f3, F⟩
  · rw [b3, F.2.2.1 40 _ (by omega) (by omega) (by omega)]; exact r40
  · rw [b3, F.2.2.1 41 _ (by omega) (by omega) (by omega)]; exact r41
/-- how the next block is opened -/
def OPE (r rc X : RV) (D : Nat) (what num : Int32) (q i : Nat) : Prop := gi (stpF rc) 1452 = -1 ∧ RIL (stpF rc) ∧ OST rc (stpF rc) ∧ dN (stpF rc) = D + 1 ∧ rsB (stpF rc) = nbN rc ∧ nbN (stpF rc) = nbN rc + 1 ∧ rsN (stpF rc) = rsN rc ∧ ai (stpF rc) 40 (nbN rc) = what ∧ ai (stpF rc) 41 (nbN rc) = nI (rsN r) ∧ ai (stpF rc) 42 (nbN rc) = num ∧ ai (stpF rc) q i = nI (nbN rc) ∧ (∀ p, p < 39 → ¬ p = q → ai (stpF rc) p = ai X p) ∧ (∀ p, al (stpF rc) p = al X p) ∧ (∀ j, ¬ j = i → ai (stpF rc) q j = ai X q j) ∧ qN X + 1 ≤ qN (stpF rc) ∧ wN (stpF rc) = wN r
theorem nx_block {D : Nat} (HB : BLC D) {d : Nat} {h3 h4 : AH} {Q : Option V → AH → Prop} {T U e0 l : Nat} {il : Bool} {so so' : Option Nat} {sc sc' : List Nat} {r rc R X : RV} {nk : Nat} {par : Nat → Nat} {wk : Nat → Int64} {pk : Nat → Int32} {nm ns : Nat} {fW fS0 fS : Nat → Nat} {ks4 : List Nat} {B B0 : Nat} {G Gm : Nat → Nat → Nat} {what num : Int32} {c n q i : Nat} (hd : 20 * (9 - D) ≤ d) (A : RIL r) (hr : rng r) (hD : dN r = D) (D0 : 0 < D) (d1 : ¬ gi r 1451 = 125) (hl : l ≤ D + 1) (gk : goK D n (stpF r) rc) (Ac : RIL rc) (ec : gi rc 1452 = -1) (c125 : gi rc 1451 = 125) (dc : dN rc = D + 1) (o41 : ai rc 41 (rsB rc) = nI (rsN r)) (M : MD rc D c (rsN rc) X) (O : OWN X what (nI (rsN r))) (n0 : ¬ what = 0 ∧ ¬ what = 1 ∧ ¬ what = 8 ∧ ¬ what = 4) (hq : fre2 q = true) (hq2 : (¬ q = 43 ∧ ¬ q = 1 ∧ ¬ q = 42) ∧ q < 39) (h6 : what = 6 → tn num < 4) (st : stpF rc = tI (opF X what (nI (rsN r)) num) q i (opV X)) (E4 : ES h4 T U e0 1 X D l il so') (CH : CHN h4 U sc' so') (K : KD h4 (U + 1) nk par wk pk) (L4 : LST h4 U e0 nm fW ns fS ks4 (B + 1)) (hns : ns = nsC rc) (cr : B0 ≤ B + 2 + 3 * qN X) (hB0 : 3 * tn (gi r 1448) + 100 ≤ B0)
    (DP : ENR r R → DPR h3 R G r (rsB r) sc l il nk wk nm (nsC r) fS0) (fs : ENR r R → ENR rc R → ∀ k, k < ns → fS k = Gm 0 (wN r * 120 + k)) (DS : ENR r R → ENR rc R → sc' = ((if what = 6 then [4 * rsN r + tn num] else []) ++ cch R (rsB r)).map (Gm 2) ∧ ∀ c, c ∈ ((if what = 6 then [4 * rsN r + tn num] else []) ++ cch R (rsB r)) → OPE r rc X D what num q i → ENR (stpF rc) R → SCF h4 R Gm c)
    (H1 : ∀ h' rd x ks' B' ns' fS' n', OPE r rc X D what num q i → goL D n' (stpF rc) rd → RIL rd → gi rd 1452 = -1 → gi rd 1451 = 125 → dN rd = D + 1 → ES h' T U e0 1 (clA rd) D l il so' → FX (EPa T U e0 sc') h4 h' → LST h' U e0 nm fW ns' fS' ks' B' → ns' = nsC rd → (∀ k, k < ns → fS' k = fS k) → B0 ≤ B' + 3 * qN (clA rd) → (tg h' x = 3 ∧ x < tp h' ∧ tp h4 ≤ x) → (ENR r R → ENR rc R ∧ ENR rd R ∧ ∃ G', BPO h4 h' U R Gm G' (stpF rc) rd (nbN rc) x ks4 ks' fS' ∧ cch R (nbN rc) = (if what = 6 then [4 * rsN r + tn num] else []) ++ cch R (rsB r)) → Q (some (vr (some x))) h')
    (H2 : ∀ h' rw x ks' B' ns' fS' n', goK D n' (stpF rc) rw → ¬ gi rw 1452 = -1 → ES h' T U e0 1 rw D l il so' → FX (EPa T U e0 sc') h4 h' → LST h' U e0 nm fW ns' fS' ks' B' → (∀ k, k < ns → fS' k = fS k) → B0 + D + 1 ≤ B' + 3 * tn (gi r 1448) + 20 → (tg h' x = 3 ∧ x < tp h' ∧ tp h4 ≤ x) → Q (some (vr (some x))) h') : wp d K_X5_takeBlock 0 [] [(0, vr (some (U + 9)))] h4 Q := by
  have d0 : 0 < dN r := by omega
  have hk : HKK rc D := Or.inr ⟨by omega, c125⟩
  obtain ⟨op, oq⟩ := opq (q := q) (i := i) (num := num) (v := opV X) M hk ⟨by omega, by omega⟩ O (Or.inr (Or.inr ⟨o41.symm, by omega⟩)) hq hq2.1 h6
  rw [← st] at op oq
  have er1 := M.2.1
  have okr : gi (stpF r) 1452 = -1 := goK_ok gk ec
  obtain ⟨A1, OS1⟩ := turn A hr okr
  obtain ⟨p1, p2, p3, ⟨p4, p4'⟩, -⟩ := id OS1
  have d1s : D ≤ dN (stpF r) := by
    have := (st_seg A hr d0 d1 (n := 0) (r' := stpF r) rfl okr).2.2.2.2.2.2.2.1
    omega
  obtain ⟨-, F1, -⟩ := frk A1 gk ec d1s
  have w1 : wN (stpF r) = wN r := by unfold wN; rw [p1]
  have wc : wN rc = wN r := F1.1.1.trans w1
  have len : gi rc 1448 = gi r 1448 := F1.1.2.2.2.2.1.trans p2
  have lenX : gi X 1448 = gi r 1448 := M.2.2.2.1.trans len
  have sm := small A
  have smc := small Ac
  have OD : okO X = true → OPE r rc X D what num q i := fun z => by
    obtain ⟨q1, q2, q3, q4, q5⟩ := oq z
    obtain ⟨-, -, op3⟩ := op
    obtain ⟨-, -, y⟩ := op3 er1
    obtain ⟨y1, y2, y3, y4, y5, y6, y7, y8, y9⟩ := y z
    have aa : ∀ p, p < 39 → ¬ p = q → ai (stpF rc) p = ai X p := fun p h1 h2 => by
      rw [st, ai_ne h2, ai_op (by omega)]
    have w2 : wN (stpF rc) = wN X := by
      unfold wN
      rw [q2.1, M.2.2.1]
    have q18 : ¬ (18 : Nat) = q := fun z => by
      subst z; exact absurd hq (by decide)
    have qq : qN X + 1 ≤ qN (stpF rc) := by
      rw [y3.q]
      exact (M.1.adv_q).2 (by rw [okO_123 z]; decide)
    refine ⟨y2, y1, q2, y4, y5, y6, ?_, q3, q4, q5, ?_, aa, fun p => ?_, fun j hj => ?_, qq, by rw [w2, M.w, wc]⟩
    · rw [← M.2.2.2.2.2.2.2.1]
      unfold rsN
      rw [w2, aa 18 (by omega) q18]
    · rw [st, ai_tI, if_pos ⟨rfl, rfl⟩]; unfold opV; rw [if_pos z, M.nb]
    · rw [st]
      show al (opF X what (nI (rsN r)) num) p = _
      rw [op_al]
    · rw [st, ai_tI, if_neg (fun y => hj y.2), ai_op (by omega)]
  have DPI : okO X = true → ENR (stpF rc) R → DPR h4 R Gm (stpF rc) (nbN rc) sc' l il nk wk nm ns fS ∧ cch R (nbN rc) = (if what = 6 then [4 * rsN r + tn num] else []) ++ cch R (rsB r) := fun z E2 => by
    have ENc := E2.back (rng_in ec (by omega)) (RIL_pre Ac)
    have EN : ENR r R := (enr_bk (goK_N gk) ENc).back hr (RIL_pre A)
    have OE := OD z
    obtain ⟨t1, t2⟩ := DS EN ENc
    have fs := fs EN ENc
    have P := DP EN
    obtain ⟨v20, v21, v22, ew, lb, FR, rl⟩ := st_vals A hr d0 d1 EN
    obtain ⟨q1, q2, q3, q4, q5, q6, q7, q8, q9, q10, q11, q12, q13, q14, q15, q16⟩ := id OE
    have FR2 := FZ_en E2 q2
    obtain ⟨⟨x1, x1'⟩, x2, x3, x4, x5, x6, x7, x8⟩ := P
    have hb1 : nbN rc < nbN (stpF rc) := by omega
    have e40 : ai R 40 (nbN rc) = what := by rw [FR2.2.2.1 40 _ (by omega) (by omega) hb1]; exact q8
    have e41 : ai R 41 (nbN rc) = nI (rsN r) := by rw [FR2.2.2.1 41 _ (by omega) (by omega) hb1]; exact q9
    have e42 : ai R 42 (nbN rc) = num := by rw [FR2.2.2.1 42 _ (by omega) (by omega) hb1]; exact q10
    have nbR := FR2.1.2.2.1
    have lo : wN R * 1024 ≤ nbN rc := by rw [ew, ← wc]; exact Nat.le_add_right _ _
    have up := upB_of e41 sm.1 v21 lb
    have hc : cch R (nbN rc) = (if what = 6 then [4 * rsN r + tn num] else []) ++ cch R (rsB r) := by
      rw [cc_up x8 lo (by omega) up, e40]
      unfold prC
      rw [e41, e42, tn_nI sm.1]
    have glo : goK D (n + 1) (stpF r) (stpF rc) := goK_tr (m := 1) gk ⟨rng_in ec (by omega), RIL_pre Ac, by omega, rfl⟩
    have lo2 : ∀ q i, q ≤ 17 → ai (stpF rc) q i = ai r q i := fun q i hq => (goK_lo glo q i hq).1.trans (lo_turn (ow_turn (RIL_pre A)) (dN_0 d0) hq i).1
    have m1 := F1.1.2.2.2.1
    have o3 := q3.2.2.1
    have qa := A.q
    have qb := q2.q
    have rlc : rsN r < rsN rc := by have := F1.1.2.1; omega
    refine ⟨⟨⟨?_, fun k hk => ?_⟩, ?_, fun k hk => ?_, ?_, fun c m => ⟨?_, ?_⟩, ?_, ?_, x8⟩, hc⟩
    · rw [x1]; unfold nkN; rw [q16, lo2 2 _ (by omega)]
    · obtain ⟨a1, a2, a3⟩ := x1' k hk
      rw [q16]
      refine ⟨a1, a2, Int32.lt_trans a3 ?_⟩
      rw [qa.1, qb.1, nI_ltI (by omega) (by omega)]
      omega
    · rw [x2]; unfold nmN; rw [q16, lo2 8 _ (by omega)]
    · rw [q16]; exact fs k hk
    · rw [hc]; exact t1
    · rw [hc] at m; exact t2 c m OE E2
    · rw [hc, List.mem_append] at m
      rcases m with m | m
      · by_cases y : what = 6
        · rw [if_pos y] at m
          have := List.mem_singleton.mp m
          have := h6 y
          omega
        · rw [if_neg y] at m; cases m
      · have := (x5 c m).2; omega
    · rw [x6, lm_up x8 lo (by omega) up, e40, if_neg (by rintro (y | y); exact n0.2.1 y; exact n0.2.2.1 y), Nat.zero_add]
    · rw [x7]
      unfold inL
      rw [tg_up x8 lo (by omega) up, e40, if_neg (by rintro (y | y | y); exact n0.1 y; exact n0.2.1 y; exact n0.2.2.1 y), if_neg n0.2.2.2]
  refine HB d h4 Q T U e0 l il so' sc' X (stpF rc) R (nbN rc) nk par wk pk nm fW ns fS ks4 B B0 Gm hd hl E4 CH K L4 op (fun _ => cr) (fun z => absurd er1 z) (by rw [lenX]; exact hB0) (fun _ z => ?_) (fun _ z E2 => (DPI z E2).1) ?_ ?_
  · obtain ⟨q1, q2, q3, q4, q5, q6, q7, q8, q9, q10, q11, q12, q13, q14, q15, q16⟩ := OD z
    have e1 : rsN rc = wN rc * 120 + nsC rc := rfl
    have e2 : rsN (stpF rc) = wN (stpF rc) * 120 + nsC (stpF rc) := rfl
    rw [q16] at e2
    rw [wc] at e1
    omega
  · intro h' rd x ks' B' ns' fS' n' _ z g Ad ed c125' dd Ed Xd Ld ens fk crd tx dd'
    refine H1 h' rd x ks' B' ns' fS' n' (OD z) g Ad ed c125' dd Ed Xd Ld ens fk crd tx (fun EN => ?_)
    have ENc := (EN.step hr).go (goK_N gk)
    obtain ⟨d2, G', bp⟩ := dd' (ENc.step (rng_in ec (by omega)))
    exact ⟨ENc, d2, G', bp, (DPI z (ENc.step (rng_in ec (by omega)))).2⟩
  · intro h' rw x ks' B' ns' fS' hh bad Ew Xw Lw fk crw tx
    rcases hh with ⟨z, -⟩ | ⟨-, n', g⟩
    · exact absurd er1 z
    · exact H2 h' rw x ks' B' ns' fS' n' (goL_K g) bad Ew Xw Lw fk (by rw [← lenX]; exact crw) tx
