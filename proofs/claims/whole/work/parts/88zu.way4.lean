/-! A method is told: behind its head -/
theorem rmE_keep (X : RV) (m : Nat) {q : Nat} (h1 : 9 ≤ q) (h2 : q ≤ 16) : ai (rmE X m) q = ai X q ∧ al (rmE X m) q = al X q := by
  have e1 : ai (rmU X) q = ai X q := by unfold rmU; exact ai_ne (by omega)
  have e2 : al (rmU X) q = al X q := by unfold rmU; rw [al_tI]
  unfold rmE
  split
  · exact ⟨by rw [ai_adv]; exact e1, by rw [al_adv]; exact e2⟩
  · exact ⟨by rw [ai_ne (by omega), ai_op (by omega)]; exact e1, by rw [al_tI, op_al]; exact e2⟩
theorem w_80 {d : Nat} (HB : BLC 0) {hB h hc : AH} {Q : Option V → AH → Prop} {T U e0 : Nat} {r R X6 a6 : RV} {a0 B0 nk : Nat} {par : Nat → Nat} {wk : Nat → Int64} {pk : Nat → Int32} {nm : Nat} {fW : Nat → Nat} {ns : Nat} {fS : Nat → Nat} {ks ks6 : List Nat} {B b c k : Nat} {G : Nat → Nat → Nat} {v : Nat → Int32} {u : Nat → Int64} {p : Nat → Option Nat} {wd : Nat → Int64} {pc : Nat → Int32} (hd : 180 ≤ d + 9) (S : TOS hB T U e0 R a0 B0 h r nk par wk pk nm fW ns fS ks B G) (hk : gl r 21450 = 7823737) (n12 : nm < 12) (W : WYP h hc T U e0 nk par wk pk (nm + 1) (up1 fW nm (tp h)) ns fS ks6 (b + 1) v u p) (E : ES hc T U e0 1 a6 0 0 false none) (r6 : gi a6 1452 = -1) (te : TE a6 X6) (M : MD r 0 c (rsN r) X6) (hc2 : 2 ≤ c) (st : stpF r = rmE X6 (rmI r)) (N : ND hc (tp h + 1) k wd pc (fun j => ffst (fun k => decide (wk k = wd j)) nk 0)) (VX : VB (tp h) v u p X6 (rmI r)) (v13 : v 11207 = ai X6 13 (rmI r)) (b13 : ai X6 13 (rmI r) = 0 ∨ ai X6 13 (rmI r) = 1) (c14 : ai X6 14 (rmI r) = nI k) (k4 : k ≤ 4) (da : ∀ j, j < k → wd j = conv (al X6 15 (4 * rmI r + j)) ∧ WV (al X6 15 (4 * rmI r + j)) ∧ pc j = ai X6 16 (4 * rmI r + j) ∧ ∃ p', pc j = nI p' ∧ qN r < p' ∧ p' ≤ 2000 ∧ p' < qN X6) (c17 : ai X6 17 (rmI r) = -1) (c8 : KE8 r X6) (ct : CTK ks6 (lif (decide (¬ ffst (fun m => decide (fJ h 21201 (fW m) = u 21201)) nm 0 = none)) (keyN (tn (v 1202)) 2 0) ++ flr (unkL pc (fun j => ffst (fun k => decide (wk k = wd j)) nk 0)) k 0) ks) (cr : B0 ≤ b + 2 + 3 * qN X6)
    (H1 : ∀ h' r' nm' fW' ns' fS' ks' B' G' n, goN n (stpF r) r' → TOS hB T U e0 R a0 B0 h' r' nk par wk pk nm' fW' ns' fS' ks' B' G' → Q none h')
    (H2 : ∀ h' r' nm' fW' ns' fS' ks' B' n, goN n (stpF r) r' → ¬ gi r' 1452 = -1 → ES h' T U e0 0 r' 0 0 false none → LST h' U e0 nm' fW' ns' fS' ks' B' → B0 ≤ B' + 3 * tn (gi r 1448) + 20 → FX (EPT T U e0) hB h' → Q none h') : wp (d + 10) K_X5_tellWay 80 [] [(0, vr (some (U + 9))), (1, vr (some (tp h)))] hc Q := by
  obtain ⟨⟨A, er, dr⟩, E0, K, L, ⟨ek, em, en⟩, ⟨cr0, hB0⟩, ⟨ha0, ha1⟩, XB, TL⟩ := S
  obtain ⟨w1, w2, w3, w4, w5, w6⟩ := id W
  have d0 : gi r 1455 = 0 := by rw [A.d.1, dr]; rfl
  have nend : ¬ gi r 1451 = -1 := ne_end A.1 (by rw [hk]; decide)
  have hr : rng r := ⟨er, Or.inr nend⟩
  have tT : T < U := by have := E.1.2.1; omega
  have he := w5.e0
  have hU : U + 10 ≤ tp h := by omega
  have c9 := E.1.2.2.2.2.2.2.2.2.1
  have sm := small A
  have wX : wN X6 = wN r := M.w
  have c12 := A.2.2.2.2.2.1
  have emt : nm = tn (ai r 8 (wN r)) := em
  have a8 : ai X6 8 (wN X6) = nI nm := by rw [wX, c8.2, c12.1, ← emt]
  have n12' : ¬ ai X6 8 (wN X6) = 12 := fun z => by
    rw [a8] at z
    have := congrArg tn z
    rw [tn_nI (by omega)] at this
    have : nm = 12 := this
    omega
  obtain ⟨MU, u8⟩ := MD_rmU M n12'
  rw [a8, tn_nI (by omega), wX] at u8
  have rmi : rmI r = wN r * 12 + nm := by rw [em]; rfl
  have teU : TE a6 (rmU X6) := te.tr (TE_tI (by decide))
  have lenX : gi X6 1448 = gi r 1448 := M.2.2.2.1
  have len := rt_len M.1.1
  rw [lenX] at len
  have W8 := ow_turn (RIL_pre A)
  have keep : ∀ q i, ¬ (8 ≤ q ∧ q ≤ 17) → q < 39 → ai (stpF r) q i = ai r q i := fun q i hq hq2 => (W8 q i (fun y => by
    have kw : ¬ (7823737 : Int64) = 1802071652 := by decide
    unfold AT at y
    rcases y with y | y | y | ⟨-, y⟩ | ⟨y, -⟩ | ⟨y, -⟩
    · omega
    · omega
    · omega
    · unfold ATo at y
      rcases y with ⟨y, -⟩ | ⟨-, y⟩
      · rw [hk] at y; exact kw y
      · omega
    · exact y d0
    · exact y d0)).1
  have k9 := fun q (h1 : 9 ≤ q) (h2 : q ≤ 16) => rmE_keep X6 (rmI r) h1 h2
  have qX := M.2.2.2.2.2.2.2.2
  -- what holds at the end
  have RF : RIL (stpF r) → wN (stpF r) = wN r → ai (stpF r) 8 (wN r) = nI (nm + 1) → qN X6 ≤ qN (stpF r) → ENR r R → ENR (stpF r) R → wN R = wN r ∧ nm < nmN R ∧ VB (tp h) v u p R (rmI r) ∧ ai R 13 (rmI r) = ai X6 13 (rmI r) ∧ ai R 14 (rmI r) = nI k ∧ ai R 17 (rmI r) = ai (stpF r) 17 (rmI r) ∧ (∀ j, j < k → wd j = conv (al R 15 (4 * rmI r + j)) ∧ WV (al R 15 (4 * rmI r + j)) ∧ pc j = ai R 16 (4 * rmI r + j) ∧ plp (pc j) ∧ ffst (fun k => decide (wk k = wd j)) nk 0 = kN R (wN R) (nkN R) (al R 15 (4 * rmI r + j)) (ai R 16 (4 * rmI r + j))) ∧ mpW R nm = lif (decide (¬ ffst (fun m => decide (fJ h 21201 (fW m) = u 21201)) nm 0 = none)) (keyN (tn (v 1202)) 2 0) ++ flr (unkL pc (fun j => ffst (fun k => decide (wk k = wd j)) nk 0)) k 0 := fun A2 w2' n8 qq EN EN2 => by
    obtain ⟨m1, m2, m3, m4⟩ := fm_en EN2 A2
    obtain ⟨f1, -⟩ := fk_en EN2 A2
    obtain ⟨t1, t2, t3, ⟨t4, t4'⟩, t5, t6, t7, t8⟩ := TL EN
    have nm' : nmN (stpF r) = nm + 1 := by unfold nmN; rw [w2', n8, tn_nI (by omega)]
    have rmi2 : rmI (stpF r) = rmI r + 1 := by
      show wN (stpF r) * 12 + nmN (stpF r) = _
      rw [w2', nm', rmi]; omega
    have nk' : nkN (stpF r) = nk := by unfold nkN; rw [w2', keep 2 _ (by omega) (by omega), ek]; rfl
    have wR : wN R = wN r := f1.trans w2'
    have g : ∀ q, 9 ≤ q → q ≤ 14 → ai R q (rmI r) = ai X6 q (rmI r) ∧ al R q (rmI r) = al X6 q (rmI r) := fun q h1 h2 => by
      have := m3 q (rmI r) (by omega) (by omega)
      rw [this.1, this.2, st, (k9 q h1 (by omega)).1, (k9 q h1 (by omega)).2]
      exact ⟨rfl, rfl⟩
    have g15 : ∀ q j, q = 15 ∨ q = 16 → j < 4 → ai R q (4 * rmI r + j) = ai X6 q (4 * rmI r + j) ∧ al R q (4 * rmI r + j) = al X6 q (4 * rmI r + j) := fun q j hq hj => by
      have := m4 q (4 * rmI r + j) hq (by omega)
      rw [this.1, this.2, st, (k9 q (by omega) (by omega)).1, (k9 q (by omega) (by omega)).2]
      exact ⟨rfl, rfl⟩
    have cgk : ∀ y : Int64, WV y → ffst (fun k => decide (al R 3 (wN r * 16 + k) = y)) nk 0 = ffst (fun k => decide (wk k = conv y)) nk 0 := fun y hy => by
      refine ffst_cg _ _ (fun i _ hi => ?_)
      obtain ⟨b1, b2, -⟩ := t1 i (by omega)
      rw [b1]
      exact decide_eq_decide.mpr (conv_inj b2 hy).symm
    have DA : ∀ j, j < k → wd j = conv (al R 15 (4 * rmI r + j)) ∧ WV (al R 15 (4 * rmI r + j)) ∧ pc j = ai R 16 (4 * rmI r + j) ∧ plp (pc j) ∧ ffst (fun k => decide (wk k = wd j)) nk 0 = kN R (wN R) (nkN R) (al R 15 (4 * rmI r + j)) (ai R 16 (4 * rmI r + j)) := fun j hj => by
      obtain ⟨b1, b2, b3, p', b4, b5, b6, b7⟩ := da j hj
      rw [(g15 15 j (by omega) (by omega)).2, (g15 16 j (by omega) (by omega)).1]
      refine ⟨b1, b2, b3, ⟨p', b4, by omega, b6⟩, ?_⟩
      rw [wR, ← b3, b4, kl_here EN2 A2 w2'.symm nk'.symm (show p' < qN (stpF r) by omega) (fun i hi => ?_), cgk _ b2, b1]
      refine Int32.lt_trans (t1 i hi).2.2.1 ?_
      rw [A.q.1, nI_ltI (by have := A.q.2.1; omega) (by omega)]
      exact b5
    have VR : VB (tp h) v u p R (rmI r) := VX.cg (fun q h1 h2 => g q h1 (by omega))
    refine ⟨wR, by omega, VR, (g 13 (by omega) (by omega)).1, by rw [(g 14 (by omega) (by omega)).1]; exact c14, (m3 17 _ (Or.inr rfl) (by omega)).1, DA, ?_⟩
    unfold mpW
    rw [wR, ← rmi, (g 14 (by omega) (by omega)).1, c14, tn_nI (by omega)]
    obtain ⟨y1, y2, y3, y4, -⟩ := VR
    rw [← y1]
    have e1 : (¬ mN R (wN r) (nmN R) (al R 9 (rmI r)) = some nm) ↔ ¬ ffst (fun m => decide (fJ h 21201 (fW m) = u 21201)) nm 0 = none := by
      rw [mN_new (nm := nm) (by omega) (by rw [← rmi])]
      have : ffst (fun m => decide (al R 9 (wN r * 12 + m) = al R 9 (rmI r))) nm 0 = ffst (fun m => decide (fJ h 21201 (fW m) = u 21201)) nm 0 := by
        refine ffst_cg _ _ (fun i _ hi => ?_)
        obtain ⟨b1, -⟩ := t5 i (by omega)
        rw [b1.2.2.2.1.1, y3]
        exact decide_eq_decide.mpr (conv_inj b1.2.2.2.1.2 y4).symm
      rw [this]
    rw [decide_eq_decide.mpr e1]
    congr 1
    refine flr_cg k 0 (fun i _ hi => ?_)
    obtain ⟨b1, b2, b3, b4, b5⟩ := DA i (by omega)
    show (if kN R (wN r) (nkN R) (al R 15 (4 * rmI r + i)) (ai R 16 (4 * rmI r + i)) = none then [keyN (tn (ai R 16 (4 * rmI r + i))) 1 0] else []) = (if ffst (fun k => decide (wk k = wd i)) nk 0 = none then [keyN (tn (pc i)) 1 0] else [])
    rw [b5, b3, wR]
  -- what was there before
  have old : ∀ g z, a0 ≤ z → z < tp h → ENX T U e0 (tp h) g z → g = 90003 := fun g z h1 h2 w => by
    rcases w with w | w | w
    · rcases w with w | w
      · have := w.1; omega
      · omega
    · rcases w with w | w
      · omega
      · exact w.1
    · omega
  have XT : FX (EPT T U e0) hB hc := XB.tr (w1.mono (fun g z w => by
    rcases w with w | w | w
    · exact Or.inl (EPW_a w)
    · exact Or.inl (Or.inr (Or.inl w))
    · exact Or.inr (Or.inr (Or.inr ⟨by omega, w.2⟩))))
  have s59 := tk_sign (te.sy.rt M.1.1) (c := 59) (by decide)
  rw [show sgT 59 = 24 from rfl, ← te.2.2.2.1] at s59
  rw [bk_X5_tellWay_80, show vi 24 = vi (nI 24) from rfl]
  refine ⟨c9, p_skip (d := d + 3) E (by omega) (fun _ t24 h8 E8 w8 => ?_) (fun n24 => ?_)⟩
  · -- no block
    simp only [psh]
    rw [bk_X5_tellWay_83]
    refine ⟨fun _ => ?_, fun z => absurd (by decide) z⟩
    rw [bk_X5_tellWay_88]
    have y59 := s59.mp t24
    have st2 : stpF r = advF (rmU X6) := by rw [st]; unfold rmE; rw [if_pos y59]
    have yU : gi (rmU X6) 1451 = 59 := y59
    have M' := MU.adv (by rw [yU]; decide)
    rw [← st2] at M'
    have w' : wN (stpF r) = wN r := M'.w
    have n8 : ai (stpF r) 8 (wN r) = nI (nm + 1) := by rw [st2, ai_adv]; exact u8
    have e8 : gi (advF a6) 1452 = -1 := by rw [gi_adv]; exact r6
    have E8' := E8.te (TEW.of (show TE (advF a6) (stpF r) by rw [st2]; exact teU.adv) (by rw [M'.2.1]; exact e8.symm))
    have W' := W.pw w8 tT
    obtain ⟨x1, x2, x3, x4, x5, x6⟩ := W'
    have qU : qN (rmU X6) = qN X6 := (TE_tI (by decide)).q
    have qq := (MU.1.adv_q).2 (by rw [yU]; decide)
    rw [← st2, qU] at qq
    have ns' : nsC (stpF r) = nsC r := by unfold nsC; rw [w', keep 18 _ (by omega) (by omega)]
    have rs' : rsN (stpF r) = rsN r := M'.2.2.2.2.2.2.2.1
    have nb' : nbN (stpF r) = nbN r := M'.nb
    have nbC' : nbC (stpF r) = nbC r := by
      have e1 : nbN r = wN r * 1024 + nbC r := rfl
      have e2 : nbN (stpF r) = wN r * 1024 + nbC (stpF r) := by rw [← w']; rfl
      omega
    refine H1 h8 (stpF r) (nm + 1) (up1 fW nm (tp h)) ns fS ks6 (b + 1) G 0 rfl ⟨⟨M'.1, M'.2.1, M'.2.2.2.2.2.1⟩, E8'.m0, x2, x5, ⟨?_, ?_, by rw [ns']; exact en⟩, ⟨by omega, by rw [M'.2.2.2.1]; exact hB0⟩, ⟨ha0, by omega⟩, XT.tr w8.tp, fun EN2 => ?_⟩
    · unfold nkN; rw [w', keep 2 _ (by omega) (by omega), ek]; rfl
    · unfold nmN; rw [w', n8, tn_nI (by omega)]
    · have EN := EN2.back hr (RIL_pre A)
      obtain ⟨t1, t2, t3, ⟨t4, t4'⟩, t5, t6, t7, t8⟩ := TL EN
      obtain ⟨wR, nmR, VR, v13R, c14R, c17R, DA, mp⟩ := RF M'.1 w' n8 (by omega) EN EN2
      have z17 : ai R 17 (rmI r) = -1 := by
        rw [c17R, st2, ai_adv]
        unfold rmU
        rw [ai_ne (by decide)]; exact c17
      refine ⟨fun k' hk' => ?_, fun k' hk' => ?_, ?_, ⟨?_, fun b' hb' => ?_⟩, fun m hm => ?_, fun a => ?_, ?_, t8⟩
      · rw [w']
        obtain ⟨b1, b2, b3, b4, b5⟩ := t1 k' hk'
        refine ⟨b1, b2, Int32.lt_trans b3 ?_, b4, b5⟩
        rw [A.q.1, M'.1.q.1, nI_ltI (by have := A.q.2.1; omega) (by have := M'.1.q.2.1; omega)]
        omega
      · rw [w']; exact t2 k' (by omega)
      · rw [w', rs', nb']
        exact AD.wide (t3.fx x1 (fun g y h1 h2 w => old g y h1 h2 w)) (Nat.le_refl _) x1.1 (Nat.le_refl _)
      · rw [w', rs', bods_succ, ← rmi, z17, oN_m1]
        show CI G _ (_ ++ []) _
        rw [List.append_nil]; exact t4
      · rw [w', bods_succ, ← rmi, z17, oN_m1] at hb'
        rw [w', nb']
        refine t4' b' ?_
        have : b' ∈ bods R (wN r) nm ++ [] := hb'
        rw [List.append_nil] at this
        exact this
      · rw [w']
        by_cases y : m = nm
        · rw [y, ← rmi, show up1 fW nm (tp h) nm = tp h from if_pos rfl]
          refine ⟨wyf_mk (p := p) hU x3 x4 (fun _ _ => rfl) (N.fx w8.1 (fun q _ => EPW_no (by omega)) (EPW_no (by omega)) (EPW_no (by omega)) (EPW_no (by omega))) VR c14R k4 DA (by rw [v13R]; exact v13) (by rw [v13R]; exact b13) ?_, ha1, by omega⟩
          rw [z17, oN_m1]; exact VR.2.2.2.2.2.2.2.2
        · obtain ⟨b1, b2, b3⟩ := t5 m (by omega)
          rw [show up1 fW nm (tp h) m = fW m from if_neg y]
          exact ⟨b1.fx x1 b3 (fun g z h1 h2 h3 w => by have := old g z (by omega) (by omega) w; omega), b2, by have := x1.1; omega⟩
      · rw [ns', w', flr_add, show flr (mpW R) 1 (0 + nm) = mpW R nm ++ [] by rw [Nat.zero_add]; rfl, List.append_nil, mp]
        have c1 := t6 a
        have c2 := ct a
        simp only [List.count_append, List.count_nil] at c1 c2 ⊢
        omega
      · rw [ns', w', nbC']; omega
  · sorry
