/-! The whole text -/
theorem goN_ap : ∀ {n m : Nat} {r r' r'' : RV}, goN n r r' → goN m r' r'' → goN (n + m) r r'' := by
  intro n
  induction n with
  | zero => intro m r r' r'' a b; rw [show r' = r from a] at b; rw [Nat.zero_add]; exact b
  | succ n ih =>
    intro m r r' r'' a b
    rw [show n + 1 + m = (n + m) + 1 by omega]
    exact ⟨a.1, a.2.1, ih a.2.2 b⟩
theorem goN_q : ∀ {n : Nat} {r r' : RV}, RIL r → goN n r r' → gi r' 1452 = -1 → qN r ≤ qN r' ∧ gi r' 1448 = gi r 1448 := by
  intro n
  induction n with
  | zero => intro r r' A a _; rw [show r' = r from a]; exact ⟨Nat.le_refl _, rfl⟩
  | succ n ih =>
    intro r r' A a ok
    have ok1 : gi (stpF r) 1452 = -1 := by
      have g := a.2.2
      cases n with
      | zero => rw [← show r' = stpF r from g]; exact ok
      | succ n => exact g.1.1
    obtain ⟨A1, O⟩ := turn A a.1 ok1
    obtain ⟨i1, i2⟩ := ih A1 a.2.2 ok
    have := O.2.2.1
    exact ⟨by omega, i2.trans O.2.1⟩
theorem parse_bad {d : Nat} {h : AH} {Q : Option V → AH → Prop} {T U e0 : Nat} {rw : RV} {D l : Nat} {il : Bool} {so : Option Nat} {n : Int32} (E : ES h T U e0 0 rw D l il so) (bad : ¬ gi rw 1452 = -1) (HQ : ∀ h', ES h' T U e0 0 rw D l il so → PW T U h h' → Q (some (vi (gi rw 1452))) h') : wp (d + 11) K_X5_parse 5 [] [(0, vr (some (U + 9))), (1, vi n)] h Q := by
  have c9 := E.1.2.2.2.2.2.2.2.2.1
  have T27 : wp (d + 11) K_X5_parse 27 [] [(0, vr (some (U + 9))), (1, vi n)] h Q := by
    rw [bk_X5_parse_27, show vi 28 = vi (nI 28) from rfl, p_at E (by omega)]
    refine ⟨c9, ?_⟩
    simp only [psh, bk_X5_parse_30, b2i_0, decide_eq_false bad, Bool.false_and]
    refine ⟨fun z => absurd trivial z, fun _ => ?_⟩
    rw [bk_X5_parse_31]
    refine ⟨c9, p_refuse E (fun h2 E2 w2 => ?_)⟩
    rw [gT_w bad] at E2
    simp only [psh]
    rw [bk_X5_parse_33, E2.2.2.1.1]
    exact ⟨E2.1.2.2.2.2.2.2.2.2.1, HQ h2 E2 w2⟩
  rw [bk_X5_parse_5]
  refine ⟨fun _ => T27, fun _ => ?_⟩
  rw [bk_X5_parse_8, show vi 11 = vi (nI 11) from rfl, p_at E (by omega)]
  refine ⟨c9, ?_⟩
  simp only [psh, bk_X5_parse_11, b2i_0, decide_eq_false bad, Bool.false_and]
  refine ⟨fun z => absurd trivial z, fun _ => ?_⟩
  rw [bk_X5_parse_12, show vi 13 = vi (nI 13) from rfl, p_at E (by omega)]
  refine ⟨c9, ?_⟩
  simp only [psh, bk_X5_parse_15, b2i_0, decide_eq_false bad, Bool.false_and]
  exact ⟨fun _ => T27, fun z => absurd trivial z⟩
theorem p_loop {d : Nat} (HB : BLC 0) {hB : AH} {Q : Option V → AH → Prop} {T U e0 : Nat} {r0 R : RV} {a0 B0 : Nat} (hd : 180 ≤ d + 9)
    (HR : ∀ h' r' nk' par' wk' pk' nm' fW' ns' fS' ks' B' G' n', goN n' r0 r' → gi r' 1451 = -1 → TOS hB T U e0 R a0 B0 h' r' nk' par' wk' pk' nm' fW' ns' fS' ks' B' G' → Q (some (vi (-1))) h')
    (HW : ∀ h' r' nm' fW' ns' fS' ks' B' n', goN n' r0 r' → ¬ gi r' 1452 = -1 → ES h' T U e0 0 r' 0 0 false none → LST h' U e0 nm' fW' ns' fS' ks' B' → B0 ≤ B' + 3 * tn (gi r0 1448) + 20 → FX (EPT T U e0) hB h' → Q (some (vi (gi r' 1452))) h') :
    ∀ m n, n + m = 2000 → ∀ h r nk par wk pk nm fW ns fS ks B G k, goN k r0 r → gi r 1448 = gi r0 1448 → n ≤ qN r → TOS hB T U e0 R a0 B0 h r nk par wk pk nm fW ns fS ks B G → wp (d + 11) K_X5_parse 5 [] [(0, vr (some (U + 9))), (1, vi (nI n))] h Q := by
  intro m
  induction m with
  | zero =>
    intro n hn h r nk par wk pk nm fW ns fS ks B G k gk lr nq S
    obtain ⟨⟨A, er, dr⟩, E, K, L, -⟩ := id S
    have c9 := E.1.2.2.2.2.2.2.2.2.1
    obtain ⟨⟨pp, nn, hp, hn', l1, l2⟩, ⟨q, e, l, l3, l4⟩, -⟩ := A.1
    have eq : qN r = q := by unfold qN; rw [e, tn_nI (by rw [hp, tn_nI (by omega)] at l; omega)]
    have t28 : gi r 1451 = -1 := Classical.byContradiction (fun y => by
      have := l3 y
      rw [hp, tn_nI (by omega)] at this
      omega)
    have k28 : tkn r = 28 := (tk_sign A.1 (c := -1) (by decide)).mpr t28
    rw [bk_X5_parse_5]
    refine ⟨fun _ => ?_, fun z => absurd (by rw [show n = 2000 by omega]; decide) z⟩
    rw [bk_X5_parse_27, show vi 28 = vi (nI 28) from rfl, p_at E (by omega)]
    refine ⟨c9, ?_⟩
    simp only [psh, bk_X5_parse_30, b2i_0, er, k28, decide_true, Bool.true_and]
    refine ⟨fun _ => ?_, fun z => absurd (fun y => by cases y) z⟩
    rw [bk_X5_parse_33, E.2.2.1.1, er]
    exact ⟨c9, HR h r nk par wk pk nm fW ns fS ks B G k gk t28 S⟩
  | succ m ih =>
    intro n hn h r nk par wk pk nm fW ns fS ks B G k gk lr nq S
    obtain ⟨⟨A, er, dr⟩, E, K, L, ⟨ek, em, en⟩, ⟨cr, hB0⟩, ⟨ha0, ha1⟩, XB, TL⟩ := id S
    have c9 := E.1.2.2.2.2.2.2.2.2.1
    have d0 : gi r 1455 = 0 := by rw [A.d.1, dr]; rfl
    have len := rt_len A.1
    have kw11 : lN (kwN 11) = 1802071652 := by decide +kernel
    have kw13 : lN (kwN 13) = 7823737 := by decide +kernel
    have t11 : tkn r = 11 ↔ gl r 21450 = 1802071652 := by rw [← kw11]; exact tk_kw A.1 (by omega)
    have t13 : tkn r = 13 ↔ gl r 21450 = 7823737 := by rw [← kw13]; exact tk_kw A.1 (by omega)
    have t28 : tkn r = 28 ↔ gi r 1451 = -1 := tk_sign A.1 (c := -1) (by decide)
    rw [bk_X5_parse_5, show (2000 : Int32) = nI 2000 from rfl, nI_leI (by omega) (by omega)]
    refine ⟨fun z => by omega, fun _ => ?_⟩
    -- after a turn
    have WR : ∀ h' r' nm' fW' ns' fS' ks' B' n', goN n' (stpF r) r' → rng r → ¬ gi r' 1452 = -1 → ES h' T U e0 0 r' 0 0 false none → LST h' U e0 nm' fW' ns' fS' ks' B' → B0 ≤ B' + 3 * tn (gi r 1448) + 20 → FX (EPT T U e0) hB h' → wp (d + 11) K_X5_parse 5 [] [(0, vr (some (U + 9))), (1, vi (nI n + 1))] h' Q := by
      intro h' r' nm' fW' ns' fS' ks' B' n' g' hr bad E' L' c' X'
      refine parse_bad E' bad (fun h2 E2 w2 => ?_)
      exact HW h2 r' nm' fW' ns' fS' ks' B' _ (goN_ap gk (show goN (n' + 1) r r' from ⟨hr, RIL_pre A, g'⟩)) bad E2 (L'.pw w2) (by rw [← lr]; exact c') (X'.tr w2.tp)
    have OKT : ∀ h' r' nk' par' wk' pk' nm' fW' ns' fS' ks' B' G' n', goN n' (stpF r) r' → rng r → TOS hB T U e0 R a0 B0 h' r' nk' par' wk' pk' nm' fW' ns' fS' ks' B' G' → wp (d + 11) K_X5_parse 5 [] [(0, vr (some (U + 9))), (1, vi (nI n + 1))] h' Q := by
      intro h' r' nk' par' wk' pk' nm' fW' ns' fS' ks' B' G' n' g' hr S'
      have g1 : goN (n' + 1) r r' := ⟨hr, RIL_pre A, g'⟩
      have ok' := S'.1.2.1
      have ok1 : gi (stpF r) 1452 = -1 := by
        cases n' with
        | zero => rw [← show r' = stpF r from g']; exact ok'
        | succ n' => exact g'.1.1
      obtain ⟨A1, O⟩ := turn A hr ok1
      have q1 := (goN_q A1 g' ok').1
      have q2 := O.2.2.1
      rw [nI_1]
      exact ih (n + 1) (by omega) h' r' nk' par' wk' pk' nm' fW' ns' fS' ks' B' G' _ (goN_ap gk g1) ((goN_q A g1 ok').2.trans lr) (by omega) S'
    have T16 : tkn r = 11 ∨ tkn r = 13 → wp (d + 11) K_X5_parse 16 [] [(0, vr (some (U + 9))), (1, vi (nI n))] h Q := fun ht => by
      rw [bk_X5_parse_16, show vi 11 = vi (nI 11) from rfl, p_at E (by omega)]
      refine ⟨c9, ?_⟩
      simp only [psh, bk_X5_parse_19, b2i_0, er, decide_true, Bool.true_and]
      refine ⟨fun z => ?_, fun z => ?_⟩
      · have h13 : tkn r = 13 := by
          rcases ht with ht | ht
          · rw [decide_eq_true ht] at z; cases z
          · exact ht
        have hk := t13.mp h13
        have nend : ¬ gi r 1451 = -1 := ne_end A.1 (by rw [hk]; decide)
        rw [bk_X5_parse_23]
        refine ⟨c9, p_way (d := d) HB hd S hk (fun h' r' nm' fW' ns' fS' ks' B' G' n' g' S' => ?_) (fun h' r' nm' fW' ns' fS' ks' B' n' g' bad E' L' c' X' => ?_)⟩
        · simp only [psh]
          rw [bk_X5_parse_25]
          exact OKT h' r' nk par wk pk nm' fW' ns' fS' ks' B' G' n' g' ⟨er, Or.inr nend⟩ S'
        · simp only [psh]
          rw [bk_X5_parse_25]
          exact WR h' r' nm' fW' ns' fS' ks' B' n' g' ⟨er, Or.inr nend⟩ bad E' L' c' X'
      · have h11 : tkn r = 11 := Classical.byContradiction (fun y => z (decide_eq_false y))
        have hk := t11.mp h11
        have nend : ¬ gi r 1451 = -1 := ne_end A.1 (by rw [hk]; decide)
        rw [bk_X5_parse_20]
        refine ⟨c9, p_kind (d := d + 1) S hk (fun h' nk' par' wk' pk' ks' B' ok S' => ?_) (fun h' nm' fW' ns' fS' ks' B' bad E' L' c' X' => ?_)⟩
        · simp only [psh]
          rw [bk_X5_parse_22, bk_X5_parse_25]
          exact OKT h' (stpF r) nk' par' wk' pk' nm fW ns fS ks' B' G 0 rfl ⟨er, Or.inr nend⟩ S'
        · simp only [psh]
          rw [bk_X5_parse_22, bk_X5_parse_25]
          exact WR h' (stpF r) nm' fW' ns' fS' ks' B' 0 rfl ⟨er, Or.inr nend⟩ bad E' L' c' X'
    have T27 : ¬ tkn r = 11 → ¬ tkn r = 13 → wp (d + 11) K_X5_parse 27 [] [(0, vr (some (U + 9))), (1, vi (nI n))] h Q := fun n11 n13 => by
      rw [bk_X5_parse_27, show vi 28 = vi (nI 28) from rfl, p_at E (by omega)]
      refine ⟨c9, ?_⟩
      simp only [psh, bk_X5_parse_30, b2i_0, er, decide_true, Bool.true_and]
      refine ⟨fun z => ?_, fun z => ?_⟩
      · have h28 : tkn r = 28 := Classical.byContradiction (fun y => z (decide_eq_false y))
        rw [bk_X5_parse_33, E.2.2.1.1, er]
        exact ⟨c9, HR h r nk par wk pk nm fW ns fS ks B G k gk (t28.mp h28) S⟩
      · have z := Classical.not_not.mp z
        have h28 : ¬ tkn r = 28 := fun y => by rw [decide_eq_true y] at z; cases z
        have hr : rng r := ⟨er, Or.inr (fun y => h28 (t28.mpr y))⟩
        have es : stpF r = faiF r := by
          unfold stpF
          rw [if_pos d0, if_neg (fun y => n11 (t11.mpr y)), if_neg (fun y => n13 (t13.mpr y))]
        rw [bk_X5_parse_31]
        refine ⟨c9, p_refuse E (fun h2 E2 w2 => ?_)⟩
        rw [gT_f er] at E2
        simp only [psh]
        rw [bk_X5_parse_33, E2.2.2.1.1]
        exact ⟨E2.1.2.2.2.2.2.2.2.2.1, HW h2 (faiF r) nm fW ns fS ks B (k + 1) (goN_ap gk (show goN 1 r (faiF r) from ⟨hr, RIL_pre A, es.symm⟩)) (fai_w A.1 er).1 E2 (L.pw w2) (by rw [← lr]; omega) (XB.tr w2.tp)⟩
    rw [bk_X5_parse_8, show vi 11 = vi (nI 11) from rfl, p_at E (by omega)]
    refine ⟨c9, ?_⟩
    simp only [psh, bk_X5_parse_11, b2i_0, er, decide_true, Bool.true_and]
    refine ⟨fun z => T16 (Or.inl (Classical.byContradiction (fun y => z (decide_eq_false y)))), fun z => ?_⟩
    have n11 : ¬ tkn r = 11 := fun y => by
      have z := Classical.not_not.mp z
      rw [decide_eq_true y] at z; cases z
    rw [bk_X5_parse_12, show vi 13 = vi (nI 13) from rfl, p_at E (by omega)]
    refine ⟨c9, ?_⟩
    simp only [psh, bk_X5_parse_15, b2i_0, er, decide_true, Bool.true_and]
    refine ⟨fun z2 => T27 n11 (fun y => by rw [decide_eq_true y] at z2; cases z2), fun z2 => T16 (Or.inr (Classical.byContradiction (fun y => z2 (decide_eq_false y))))⟩
