/-! The class's find -/
def K5 (r : RV) : Prop := ∀ k, k < nkN r → ai r 5 (wN r * 16 + k) < nI 2001
theorem k5_turn {x : RV} (A : RIL x) (hr : rng x) (ok : gi (stpF x) 1452 = -1) (W : OW (AT x) x (stpF x)) (K : K5 x) : K5 (stpF x) := by
  obtain ⟨A', O⟩ := turn A hr ok
  have ew : wN (stpF x) = wN x := by unfold wN; rw [O.1]
  intro k hk
  rw [ew]
  have w2 := A.w2
  by_cases q : gi x 1455 = 0 ∧ gl x 21450 = 1802071652
  · have st : stpF x = rkF x := by
      unfold stpF
      rw [if_pos q.1, if_pos q.2]
    have ok' := ok
    rw [st] at ok'
    obtain ⟨f1, f2, f3, f4, f5, ⟨f6, f7⟩, v3, v4, v6, v7, v5⟩ := rk_f A hr.1 q.2 ok'
    rw [← st] at f6 v5
    have nk' : nkN (stpF x) = nkN x + 1 := by
      unfold nkN
      rw [ew, f6, tn_nI (by omega)]
      rfl
    have rki : rkI x = wN x * 16 + nkN x := rfl
    by_cases z : k < nkN x
    · have no : ai (stpF x) 5 (wN x * 16 + k) = ai x 5 (wN x * 16 + k) := (W 5 _ (fun h => by
        unfold AT at h
        rcases h with h | h | h | ⟨-, h⟩ | ⟨d1, -⟩ | ⟨d1, -⟩
        · omega
        · omega
        · omega
        · unfold ATo at h
          rcases h with ⟨-, h⟩ | ⟨-, h⟩
          · omega
          · omega
        · exact d1 q.1
        · exact d1 q.1)).1
      rw [no]
      exact K k z
    · have ek : k = nkN x := by omega
      rw [ek, ← rki, v5]
      have M0 := MD.start A hr.1
      have M1 := M0.adv (ne_end A.1 (by rw [q.2]; decide))
      have M2 := M1.adv (ne_end M1.rt (okN_ne f1))
      have M3 := M2.adv (ne_end M2.rt (by rw [f2]; decide))
      have M4 := M3.adv (ne_end M3.rt (okN_ne f3))
      obtain ⟨q1, q2, -⟩ := M4.1.q
      rw [q1, nI_ltI (by omega) (by omega)]
      omega
  · have no : ∀ g, 2 ≤ g ∧ g ≤ 7 → ∀ i, ai (stpF x) g i = ai x g i := fun g hg i => (W g i (fun h => by
      unfold AT at h
      rcases h with h | h | h | ⟨d0, h⟩ | ⟨d0, d1, h⟩ | ⟨d0, d1, n0, h⟩
      · omega
      · omega
      · omega
      · unfold ATo at h
        rcases h with ⟨h, -⟩ | ⟨-, h⟩
        · exact q ⟨d0, h⟩
        · omega
      · unfold ATs at h; omega
      · omega)).1
    have nk' : nkN (stpF x) = nkN x := by unfold nkN; rw [ew, no 2 (by omega)]
    rw [no 5 (by omega)]
    exact K k (by omega)
theorem k5_en {r R : RV} (E : ENR r R) (A : RIL r) (I : K5 r) : K5 R := (en_ind (P := fun x => K5 x) (fun x A hr ok _ _ W p => k5_turn A hr ok W p) E A I).1
theorem le_bl {x : Int32} (h : isLe x = true) : isBl x = false := by
  unfold isBl
  refine decide_eq_false ?_
  rintro (z | z)
  · rw [z] at h; exact absurd h (by decide)
  · rw [z] at h; exact absurd h (by decide)
theorem sgT_27 (x : Int32) : ¬ sgT x = 27 := by
  unfold sgT
  split
  · decide
  split
  · decide
  split
  · decide
  split
  · decide
  split
  · decide
  split
  · decide
  split
  · decide
  split
  · decide
  · decide
abbrev onlC (t : Nat → Int32) (n : Nat) : Prop := 0 < n ∧ n ≤ 8 ∧ lwE t n 0 = n ∧ isKw (lwW t n 0 0) = false
section
variable {d : Nat} {h : AH} {Q : Option V → AH → Prop} {a T W U V' e0 n : Nat} {R r : RV} {C L : Nat → Int32} {G : Nat → Nat → Nat} {nm : Nat} {fW : Nat → Nat} {nk : Nat} {par : Nat → Nat} {wk : Nat → Int64} {pk : Nat → Int32} {ns : Nat} {fS : Nat → Nat} {ks : List Nat}
theorem c_only {t : Nat → Int32} (TT : TS h T t n) (H : ∀ h', TW T h h' → Q (some (vl (if onlC t n then conv (lwW t n 0 0) else 0))) h') : wp (d + 7) K_X7_onlyName 0 [] [(0, vr (some T))] h Q := by
  have n2 := TT.2.2.2.2.2.2.2.2.2.1
  rw [bk_X7_onlyName_0]
  refine ⟨TT.1, ?_⟩
  rw [bk_X7_start_0]
  refine ⟨TT.1, TT.1, ?_⟩
  have w0 : TW T h (setFI h 903 T 0) := TW.FI (by decide)
  have ex : ∃ r0 : RV, gi r0 1448 = nI n ∧ gi r0 1447 = nI 0 ∧ ai r0 1 = t := ⟨(fun f => if f = 1448 then nI n else nI 0, fun _ => 0, fun _ => t, fun _ _ => 0), rfl, rfl, rfl⟩
  obtain ⟨r0, e48, e47, e1⟩ := ex
  refine p_advance (d := d) (r := r0) (by rw [e1, e48, tn_nI (by omega)]; exact TT.tw w0) ⟨0, n, e47, e48, Nat.zero_le _, n2⟩ (by rw [fFI_same, e47]; rfl) (fun h1 w1 K => ?_)
  simp only [psh]
  rw [bk_X7_start_5]
  simp only [psh]
  have w := w0.tr w1
  have S1 := TT.tw w
  have e902 := S1.2.2.2.2.2.2.2.2.1
  obtain ⟨-, k5, k4, k3, k6⟩ := K
  have eF : advF r0 = tokP r0 t n (skB t n 0) := by
    unfold advF
    rw [e47, e48, tn_nI (by omega), tn_nI (by omega), Nat.sub_zero, e1]
  have H1 := H h1 w
  by_cases c : onlC t n
  · rw [if_pos c] at H1
    obtain ⟨C1, C2, C3, C4⟩ := c
    have le : isLe (t 0) = true := by
      obtain ⟨m, em⟩ : ∃ m, n = m + 1 := ⟨n - 1, by omega⟩
      rw [em, lwE] at C3
      by_cases z : isLe (t 0) = true
      · exact z
      · rw [if_neg z] at C3; omega
    have q0 : skB t n 0 = 0 := by
      obtain ⟨m, em⟩ : ∃ m, n = m + 1 := ⟨n - 1, by omega⟩
      rw [em, skB, if_neg (by rw [le_bl le]; decide)]
    rw [q0] at eF
    unfold tokP at eF
    rw [if_neg (by omega), if_pos le] at eF
    simp only [Nat.sub_zero] at eF
    rw [C3, if_pos (by omega)] at eF
    have g51 : gi (advF r0) 1451 = 0 := by rw [eF]; rfl
    have g49 : gi (advF r0) 1449 = nI 0 := by rw [eF]; rfl
    have g47 : gi (advF r0) 1447 = nI n := by rw [eF]; rfl
    have g50 : gl (advF r0) 21450 = lwW t n 0 0 := by rw [eF]; rfl
    have tk : tkn (advF r0) = 27 := by
      unfold tkn
      rw [if_pos g51, g50]
      rw [isKw_kwI] at C4
      exact Classical.not_not.mp (of_decide_eq_false C4)
    rw [bk_X7_onlyName_2, k4, tk]
    refine ⟨S1.1, fun z => absurd rfl z, fun _ => ?_⟩
    rw [bk_X7_onlyName_6, k5, g49]
    refine ⟨S1.1, fun z => absurd rfl z, fun _ => ?_⟩
    rw [bk_X7_onlyName_9, k3 (by rw [g51]; decide), g47, e902]
    refine ⟨S1.1, S1.1, fun z => absurd rfl z, fun _ => ?_⟩
    rw [bk_X7_onlyName_14, k6 g51, g50, bk_X7_onlyName_18]
    exact ⟨S1.1, H1⟩
  · rw [if_neg c] at H1
    have NO : wp (d + 7) K_X7_onlyName 17 [] [(0, vr (some T))] h1 Q := by
      rw [bk_X7_onlyName_17, bk_X7_onlyName_18]
      exact H1
    rw [bk_X7_onlyName_2, k4]
    refine ⟨S1.1, fun _ => NO, fun z => ?_⟩
    have z := Classical.not_not.mp z
    have tk : tkn (advF r0) = 27 := by
      have := tkn_le (advF r0)
      have z := congrArg tn z
      rw [tn_nI (by omega)] at z
      exact z
    have g51 : gi (advF r0) 1451 = 0 := by
      by_cases y : gi (advF r0) 1451 = 0
      · exact y
      · unfold tkn at tk
        rw [if_neg y] at tk
        exact absurd tk (sgT_27 _)
    have l := skB_le t n 0
    generalize skB t n 0 = q at eF l
    have l2 := lwE_le t (n - q) q
    have WD : ¬ q = n ∧ lwE t (n - q) q - q ≤ 8 ∧ advF r0 = stk r0 (nI (lwE t (n - q) q)) (nI q) 0 (lwW t (n - q) q 0) := by
      unfold tokP at eF
      by_cases y1 : q = n
      · rw [if_pos y1] at eF
        rw [eF] at g51
        exact absurd (show (-1 : Int32) = 0 from g51) (by decide)
      · rw [if_neg y1] at eF
        by_cases y2 : isLe (t q) = true
        · rw [if_pos y2] at eF
          by_cases y3 : lwE t (n - q) q - q ≤ 8
          · rw [if_pos y3] at eF
            exact ⟨y1, y3, eF⟩
          · rw [if_neg y3] at eF
            rw [eF] at g51
            exact absurd (show (-2 : Int32) = 0 from g51) (by decide)
        · rw [if_neg y2] at eF
          rw [eF] at g51
          have g51 : (if isSg (t q) = true then t q else -2) = (0 : Int32) := g51
          by_cases y4 : isSg (t q) = true
          · rw [if_pos y4] at g51
            rw [g51] at y4
            exact absurd y4 (by decide)
          · rw [if_neg y4] at g51
            exact absurd g51 (by decide)
    obtain ⟨x1, x2, x3⟩ := WD
    have g49 : gi (advF r0) 1449 = nI q := by rw [x3]; rfl
    have g47 : gi (advF r0) 1447 = nI (lwE t (n - q) q) := by rw [x3]; rfl
    have g50 : gl (advF r0) 21450 = lwW t (n - q) q 0 := by rw [x3]; rfl
    rw [bk_X7_onlyName_6, k5, g49]
    refine ⟨S1.1, fun _ => NO, fun z2 => ?_⟩
    have q0 : q = 0 := by
      have z2 := congrArg tn (Classical.not_not.mp z2)
      rw [tn_nI (by omega)] at z2
      exact z2
    subst q0
    simp only [Nat.sub_zero] at x2 x3 g47 g50 l2
    rw [bk_X7_onlyName_9, k3 (by rw [g51]; decide), g47, e902]
    refine ⟨S1.1, S1.1, fun _ => NO, fun z3 => ?_⟩
    have en : lwE t n 0 = n := by
      have z3 := congrArg tn (Classical.not_not.mp z3)
      rw [tn_nI (by omega), tn_nI (by omega)] at z3
      exact z3
    refine absurd ⟨by omega, by omega, en, ?_⟩ c
    unfold tkn at tk
    rw [if_pos g51, g50] at tk
    rw [isKw_kwI, tk]
    rfl
theorem c_wayNamed (N : UNF h U V' e0 R C L G nm fW nk par wk pk ns fS ks) {y : Int64} (hy : WV y) (H : Q (some (vi (oI (mN R (wN R) nm y)))) h) : wp (d + 3) K_X8_wayNamed 0 [] [(0, vr (some U)), (1, vl (conv y))] h Q := by
  obtain ⟨⟨c4, -, c6, -⟩, -, ⟨eW, eS, eM, aW, -⟩, ⟨t1, -⟩, -, -, ⟨-, -, r13, -⟩, -, -, WY, -⟩ := N
  have Lp : ∀ m k, k + m = nm → Q (some (vi (oI (ffst (fun m => decide (fJ h 21201 (fW m) = conv y)) m k)))) h → wp (d + 3) K_X8_wayNamed 2 [] [(0, vr (some U)), (1, vl (conv y)), (3, vi (nI k))] h Q := by
    intro m
    induction m with
    | zero =>
      intro k e hq
      rw [bk_X8_wayNamed_2, c6, nn_some, l_size aW]
      refine ⟨c4, aW.1, ?_⟩
      simp only [psh]
      rw [bk_X8_wayNamed_6, nI_leI (by omega) (by omega)]
      refine ⟨fun _ => ?_, fun z => by omega⟩
      rw [bk_X8_wayNamed_24]
      exact hq
    | succ m ih =>
      intro k e hq
      rw [bk_X8_wayNamed_2, c6, nn_some, l_size aW]
      refine ⟨c4, aW.1, ?_⟩
      simp only [psh]
      rw [bk_X8_wayNamed_6, nI_leI (by omega) (by omega)]
      refine ⟨fun z => by omega, fun _ => ?_⟩
      rw [bk_X8_wayNamed_7, c6, nn_some, l_get aW (show k < nm by omega) (by omega)]
      refine ⟨c4, aW.1, ?_⟩
      simp only [psh]
      rw [bk_X8_wayNamed_11]
      have t13 := t1 k (by omega)
      refine ⟨fun a ea => (Option.some.inj ea) ▸ t13, (fun z => by cases z), fun _ => ?_⟩
      rw [bk_X8_wayNamed_15, nn_some, lg0]
      refine ⟨t13, fun z => ?_, fun z => ?_⟩
      · rw [bk_X8_wayNamed_22, nI_1]
        refine wp_cut 4 (ih (k + 1) (by omega) ?_)
        rw [ffst, if_neg (by rw [decide_eq_false z]; decide)] at hq
        exact hq
      · have z := Classical.not_not.mp z
        rw [bk_X8_wayNamed_20]
        rw [ffst, if_pos (decide_eq_true z)] at hq
        exact hq
  rw [bk_X8_wayNamed_0, show vi 0 = vi (nI 0) from rfl]
  refine Lp nm 0 (by omega) ?_
  have : ffst (fun m => decide (fJ h 21201 (fW m) = conv y)) nm 0 = mN R (wN R) nm y := by
    refine ffst_cg _ _ (fun i _ hi => ?_)
    have W := (WY i (by omega)).1
    rw [W.2.2.2.1.1]
    exact decide_eq_decide.mpr (conv_inj W.2.2.2.1.2 hy)
  rw [this]; exact H
/-- what finding may change -/
def EFN (T g y : Nat) : Prop := ET T g y ∨ (y = T ∧ g = 902)
theorem c_find (O : COB h a T W U) (N : UNF h U V' e0 R C L G nm fW nk par wk pk ns fS ks) (hT : T < U ∨ V' ≤ T) (hg : HAH (wN R) r (pcl R C L)) (k5 : K5 R) (TT : TS h T (ai r 1) n) (H : ∀ h', FX (EFN T) h h' → (tp h' = tp h ∧ rc h' = rc h ∧ rs h' = rs h) → TS h' T (ai r 1) 0 → Q (some (vi (fndS r (wN R) nk nm n))) h') : wp (d + 8) K_X11_find 0 [] [(0, vr (some a))] h Q := by
  have nk16 : nk ≤ 16 := N.2.2.2.2.2.1.1.2.1
  have enk : nk = nkN R := N.2.2.2.2.2.1.1.1
  have nm12 : nm ≤ 12 := N.2.2.2.2.2.2.1.2.2.1
  rw [bk_X11_find_0, O.2.2.1, nn_some]
  refine ⟨O.1, TT.1, ?_⟩
  refine c_only TT (fun h1 w1 => ?_)
  have TT1 := TT.tw w1
  have O1 : COB h1 a T W U := O.fx w1.1 (fun g hg z => by unfold ET at z; omega)
  simp only [psh]
  rw [bk_X11_find_3, O1.2.2.1, nn_some, lg0]
  have x2 : FX (EFN T) h (setFI h1 902 T 0) := (w1.1.mono (fun g y z => Or.inl z)).tr (FX.FI (Or.inr ⟨rfl, rfl⟩))
  have TT2 : TS (setFI h1 902 T 0) T (ai r 1) 0 := by
    obtain ⟨a1, a2, a3, a4, a5, a6, a7, a8, a9, a10, a11, a12, s, vv, a13⟩ := TT1
    exact ⟨a1, a2, a3, a4, a5, a6, a7, a8, if_pos ⟨rfl, rfl⟩, by omega, fun i hi => absurd hi (Nat.not_lt_zero _), a12, s, vv, a13⟩
  have O2 : COB (setFI h1 902 T 0) a T W U := O.fx x2 (fun g hg z => by unfold EFN ET at z; omega)
  have N2 : UNF (setFI h1 902 T 0) U V' e0 R C L G nm fW nk par wk pk ns fS ks := N.fx x2 (fun g y p1 p2 z => by unfold EFN ET at z; omega) (fun y z => by unfold EFN ET at z; omega)
  have t2 : tp (setFI h1 902 T 0) = tp h ∧ rc (setFI h1 902 T 0) = rc h ∧ rs (setFI h1 902 T 0) = rs h := ⟨w1.2.1, w1.2.2.1, w1.2.2.2⟩
  have H2 := H _ x2 t2 TT2
  generalize setFI h1 902 T 0 = h2 at *
  refine ⟨O1.1, TT1.1, fun z => ?_, fun z => ?_⟩
  · by_cases c : onlC (ai r 1) n
    · rw [if_pos c]
      have hy : WV (lwW (ai r 1) n 0 0) := by
        obtain ⟨a', q1, q2, -⟩ := lw_both (ai r 1) n 0 0 0 rfl (by have := c.2.1; have := c.2.2.1; omega)
        rw [show (0 : Int64) = lN 0 from rfl, q2]
        exact ⟨a', q1, rfl⟩
      unfold fndS at H2
      rw [if_pos c] at H2
      obtain ⟨u1, u2, -⟩ := N2.1
      have K := N2.2.1
      have vals := N2.2.2.2.2.2.1.2
      rw [bk_X11_find_14, O2.2.2.2.2.1, nn_some, u2, nn_some]
      refine ⟨O2.1, u1, K.1, ?_⟩
      rw [k_named K]
      have ek : ffst (fun k => decide (wk k = conv (lwW (ai r 1) n 0 0))) nk 0 = kN r (wN R) nk (lwW (ai r 1) n 0 0) (nI 2001) := by
        rw [hg_kN hg nk16]
        unfold kN
        refine ffst_cg _ _ (fun k _ hk => ?_)
        obtain ⟨v1, v2, -⟩ := vals k (by omega)
        rw [v1]
        refine decide_eq_decide.mpr ?_
        rw [conv_inj v2 hy]
        exact ⟨fun q => ⟨q, k5 k (by omega)⟩, fun q => q.1⟩
      rw [ek]
      simp only [psh]
      rw [bk_X11_find_19]
      cases e1 : kN r (wN R) nk (lwW (ai r 1) n 0 0) (nI 2001) with
      | some k =>
        have := kN_lt e1
        rw [e1] at H2
        have H2 : Q (some (vi (nI (100 + k)))) h2 := H2
        refine ⟨fun q => absurd q (nI_ne_m1 (by omega)), fun _ => ?_⟩
        rw [bk_X11_find_23, show oI (some k) = nI k from rfl, show (100 : Int32) = nI 100 from rfl, nI_add]
        exact H2
      | none =>
        rw [e1] at H2
        refine ⟨fun _ => ?_, fun q => absurd rfl q⟩
        rw [bk_X11_find_27, O2.2.2.2.2.1, nn_some]
        refine ⟨O2.1, u1, ?_⟩
        refine c_wayNamed (d := d + 4) N2 hy ?_
        simp only [psh]
        rw [bk_X11_find_31, ← hg_mN hg nm12]
        cases e2 : mN r (wN R) nm (lwW (ai r 1) n 0 0) with
        | some m =>
          have := mN_lt e2
          rw [e2] at H2
          have H2 : Q (some (vi (nI (200 + m)))) h2 := H2
          refine ⟨fun _ => ?_, fun q => absurd (nI_ne_m1 (by omega)) q⟩
          rw [bk_X11_find_37, bk_X11_find_40, show oI (some m) = nI m from rfl, show (200 : Int32) = nI 200 from rfl, nI_add]
          exact H2
        | none =>
          rw [e2] at H2
          refine ⟨fun q => absurd rfl q, fun _ => ?_⟩
          rw [bk_X11_find_35, bk_X11_find_40]
          exact H2
    · rw [if_neg c] at z
      exact absurd rfl z
  · have z := Classical.not_not.mp z
    have c : ¬ onlC (ai r 1) n := fun c => by
      rw [if_pos c] at z
      obtain ⟨a', q1, q2, -, q4, -⟩ := lw_both (ai r 1) n 0 0 0 rfl (by have := c.2.1; have := c.2.2.1; omega)
      have z0 : (0 : Int64) = conv (lN 0) := rfl
      rw [show (lwW (ai r 1) n 0 0) = lwW (ai r 1) n 0 (lN 0) from rfl, q2, z0, conv_inj ⟨a', q1, rfl⟩ ⟨0, Or.inl rfl, rfl⟩, pk_lEQ (vd8_lt q1) (by decide)] at z
      have := c.1
      have := c.2.2.1
      rcases q4 rfl with y | y
      · omega
      · omega
    unfold fndS at H2
    rw [if_neg c] at H2
    rw [bk_X11_find_12]
    exact H2
end
