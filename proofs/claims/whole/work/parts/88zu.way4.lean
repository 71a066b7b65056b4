/-! A method is told: behind its head -/
theorem rmE_keep (X : RV) (m : Nat) {q : Nat} (h1 : 9 ≤ q) (h2 : q ≤ 16) : ai (rmE X m) q = ai X q ∧ al (rmE X m) q = al X q := by
  have e1 : ai (rmU X) q = ai X q := by unfold rmU; exact ai_ne (by omega)
  have e2 : al (rmU X) q = al X q := by unfold rmU; rw [al_tI]
  unfold rmE
  split
  · exact ⟨by rw [ai_adv]; exact e1, by rw [al_adv]; exact e2⟩
  · exact ⟨by rw [ai_ne (by omega), ai_op (by omega)]; exact e1, by rw [al_tI, op_al]; exact e2⟩
theorem lvl_keep {k : Nat} : ∀ {n : Nat} {r r' : RV}, RIL r → goL k n r r' → gi r' 1452 = -1 → k < dN r → k < dN r' ∧ ai r' 46 k = ai r 46 k := by
  intro n
  induction n with
  | zero => intro r r' A a _ hk; rw [show r' = r from a]; exact ⟨hk, rfl⟩
  | succ n ih =>
    intro r r' A a ok hk
    have ok1 := goK_ok (goL_K a.2.2.2.2) ok
    obtain ⟨A1, O⟩ := turn A a.1 ok1
    have hc := a.2.2.2.1
    have top : k < dN (stpF r) ∧ ai (stpF r) 46 k = ai r 46 k := by
      obtain ⟨o1, o2, o3, ⟨o4, o4'⟩, kk, hkk, o5⟩ := O
      have kd : k < kk := by
        rcases hkk with ⟨z, -⟩ | ⟨z, z2⟩
        · omega
        · have := hc z2; omega
      rcases o5 with ⟨e, e2, -⟩ | ⟨e, e2, -⟩
      · exact ⟨by omega, by rw [e2]⟩
      · exact ⟨by omega, e2 k kd⟩
    obtain ⟨i1, i2⟩ := ih A1 a.2.2.2.2 ok top.1
    exact ⟨i1, i2.trans top.2⟩
theorem WYF.cg {h : AH} {U x a : Nat} {R : RV} {G G' : Nat → Nat → Nat} (w : WYF h U R G x a) (e : ∀ b, oN (ai R 17 x) = some b → G' 1 b = G 1 b) : WYF h U R G' x a := by
  obtain ⟨a1, b, c, d, e1, g, i, j, k, l, m⟩ := w
  refine ⟨a1, b, c, d, e1, g, i, j, k, ?_, m⟩
  rw [l]
  exact om_cg (fun t ht => (e t ht).symm)
theorem bods_mem {R : RV} {w nm m b : Nat} (hm : m < nm) (e : oN (ai R 17 (w * 12 + m)) = some b) : b ∈ bods R w nm := by
  unfold bods
  rw [List.mem_flatMap]
  exact ⟨m, List.mem_range.mpr hm, by rw [e]; simp⟩
theorem w_80 {d : Nat} (HB : BLC 0) {hB h hc : AH} {Q : Option V → AH → Prop} {T U e0 : Nat} {r R X6 a6 : RV} {a0 B0 nk : Nat} {par : Nat → Nat} {wk : Nat → Int64} {pk : Nat → Int32} {nm : Nat} {fW : Nat → Nat} {ns : Nat} {fS : Nat → Nat} {ks ks6 : List Nat} {B b c k : Nat} {G : Nat → Nat → Nat} {v : Nat → Int32} {u : Nat → Int64} {p : Nat → Option Nat} {wd : Nat → Int64} {pc : Nat → Int32} (hd : 180 ≤ d + 9) (S : TOS hB T U e0 R a0 B0 h r nk par wk pk nm fW ns fS ks B G) (hk : gl r 21450 = 7823737) (n12 : nm < 12) (W : WYP h hc T U e0 nk par wk pk (nm + 1) (up1 fW nm (tp h)) ns fS ks6 (b + 1) v u p) (E : ES hc T U e0 1 a6 0 0 false none) (r6 : gi a6 1452 = -1) (te : TE a6 X6) (M : MD r 0 c (rsN r) X6) (hc2 : 2 ≤ c) (st : stpF r = rmE X6 (rmI r)) (N : ND hc (tp h + 1) k wd pc (fun j => ffst (fun k => decide (wk k = wd j)) nk 0)) (VX : VB (tp h) v u p X6 (rmI r)) (v13 : v 11207 = ai X6 13 (rmI r)) (b13 : ai X6 13 (rmI r) = 0 ∨ ai X6 13 (rmI r) = 1) (c14 : ai X6 14 (rmI r) = nI k) (k4 : k ≤ 4) (da : ∀ j, j < k → wd j = conv (al X6 15 (4 * rmI r + j)) ∧ WV (al X6 15 (4 * rmI r + j)) ∧ pc j = ai X6 16 (4 * rmI r + j) ∧ ∃ p', pc j = nI p' ∧ qN r < p' ∧ p' ≤ 2000 ∧ p' < qN X6) (c17 : ai X6 17 (rmI r) = -1) (c8 : KE8 r X6) (ct : CTK ks6 (lif (decide (¬ ffst (fun m => decide (fJ h 21201 (fW m) = u 21201)) nm 0 = none)) (keyN (tn (v 1202)) 2 0) ++ flr (unkL pc (fun j => ffst (fun k => decide (wk k = wd j)) nk 0)) k 0) ks) (cr : B0 ≤ b + 2 + 3 * qN X6)
    (H1 : ∀ h' r' nm' fW' ns' fS' ks' B' G' n, goN n (stpF r) r' → TOS hB T U e0 R a0 B0 h' r' nk par wk pk nm' fW' ns' fS' ks' B' G' → Q none h')
    (H2 : ∀ h' r' nm' fW' ns' fS' ks' B' n, goN n (stpF r) r' → ¬ gi r' 1452 = -1 → ES h' T U e0 0 r' 0 0 false none → LST h' U e0 nm' fW' ns' fS' ks' B' → B0 ≤ B' + 3 * tn (gi r 1448) + 20 → FX (EPT T U e0) hB h' → Q none h') : wp (d + 10) K_X5_tellWay 80 [] [(0, vr (some (U + 9))), (1, vr (some (tp h)))] hc Q := by
  obtain ⟨⟨A, er, dr⟩, E0, K, L, ⟨ek, em, en⟩, ⟨cr0, hB0⟩, ⟨ha0, ha1⟩, XB, TL⟩ := S
  obtain ⟨w1, w2, w3, w4, w5, w6⟩ := id W
  have d0 : gi r 1455 = 0 := by rw [A.d.1, dr]; rfl
  have nend : ¬ gi r 1451 = -1 := ne_end A.1 (by rw [hk]; decide)
  have hr : rng r := ⟨er, Or.inr nend⟩
  have tT : T < U := by have := E.1.2.1; omega
  have he := w5.e0
  have hU : U + 10 ≤ tp h := by omega
  have c9 := E.1.2.2.2.2.2.2.2.2.1
  have sm := small A
  have wX : wN X6 = wN r := M.w
  have c12 := A.2.2.2.2.2.1
  have emt : nm = tn (ai r 8 (wN r)) := em
  have a8 : ai X6 8 (wN X6) = nI nm := by rw [wX, c8.2, c12.1, ← emt]
  have n12' : ¬ ai X6 8 (wN X6) = 12 := fun z => by
    rw [a8] at z
    have := congrArg tn z
    rw [tn_nI (by omega)] at this
    have : nm = 12 := this
    omega
  obtain ⟨MU, u8⟩ := MD_rmU M n12'
  rw [a8, tn_nI (by omega), wX] at u8
  have rmi : rmI r = wN r * 12 + nm := by rw [em]; rfl
  have teU : TE a6 (rmU X6) := te.tr (TE_tI (by decide))
  have lenX : gi X6 1448 = gi r 1448 := M.2.2.2.1
  have len := rt_len M.1.1
  rw [lenX] at len
  have W8 := ow_turn (RIL_pre A)
  have keep : ∀ q i, ¬ (8 ≤ q ∧ q ≤ 17) → q < 39 → ai (stpF r) q i = ai r q i := fun q i hq hq2 => (W8 q i (fun y => by
    have kw : ¬ (7823737 : Int64) = 1802071652 := by decide
    unfold AT at y
    rcases y with y | y | y | ⟨-, y⟩ | ⟨y, -⟩ | ⟨y, -⟩
    · omega
    · omega
    · omega
    · unfold ATo at y
      rcases y with ⟨y, -⟩ | ⟨-, y⟩
      · rw [hk] at y; exact kw y
      · omega
    · exact y d0
    · exact y d0)).1
  have k9 := fun q (h1 : 9 ≤ q) (h2 : q ≤ 16) => rmE_keep X6 (rmI r) h1 h2
  have qX := M.2.2.2.2.2.2.2.2
  -- what holds at the end
  have RF : RIL (stpF r) → wN (stpF r) = wN r → ai (stpF r) 8 (wN r) = nI (nm + 1) → qN X6 ≤ qN (stpF r) → ENR r R → ENR (stpF r) R → wN R = wN r ∧ nm < nmN R ∧ VB (tp h) v u p R (rmI r) ∧ ai R 13 (rmI r) = ai X6 13 (rmI r) ∧ ai R 14 (rmI r) = nI k ∧ ai R 17 (rmI r) = ai (stpF r) 17 (rmI r) ∧ (∀ j, j < k → wd j = conv (al R 15 (4 * rmI r + j)) ∧ WV (al R 15 (4 * rmI r + j)) ∧ pc j = ai R 16 (4 * rmI r + j) ∧ plp (pc j) ∧ ffst (fun k => decide (wk k = wd j)) nk 0 = kN R (wN R) (nkN R) (al R 15 (4 * rmI r + j)) (ai R 16 (4 * rmI r + j))) ∧ mpW R nm = lif (decide (¬ ffst (fun m => decide (fJ h 21201 (fW m) = u 21201)) nm 0 = none)) (keyN (tn (v 1202)) 2 0) ++ flr (unkL pc (fun j => ffst (fun k => decide (wk k = wd j)) nk 0)) k 0 := fun A2 w2' n8 qq EN EN2 => by
    obtain ⟨m1, m2, m3, m4⟩ := fm_en EN2 A2
    obtain ⟨f1, -⟩ := fk_en EN2 A2
    obtain ⟨t1, t2, t3, ⟨t4, t4'⟩, t5, t6, t7, t8⟩ := TL EN
    have nm' : nmN (stpF r) = nm + 1 := by unfold nmN; rw [w2', n8, tn_nI (by omega)]
    have rmi2 : rmI (stpF r) = rmI r + 1 := by
      show wN (stpF r) * 12 + nmN (stpF r) = _
      rw [w2', nm', rmi]; omega
    have nk' : nkN (stpF r) = nk := by unfold nkN; rw [w2', keep 2 _ (by omega) (by omega), ek]; rfl
    have wR : wN R = wN r := f1.trans w2'
    have g : ∀ q, 9 ≤ q → q ≤ 14 → ai R q (rmI r) = ai X6 q (rmI r) ∧ al R q (rmI r) = al X6 q (rmI r) := fun q h1 h2 => by
      have := m3 q (rmI r) (by omega) (by omega)
      rw [this.1, this.2, st, (k9 q h1 (by omega)).1, (k9 q h1 (by omega)).2]
      exact ⟨rfl, rfl⟩
    have g15 : ∀ q j, q = 15 ∨ q = 16 → j < 4 → ai R q (4 * rmI r + j) = ai X6 q (4 * rmI r + j) ∧ al R q (4 * rmI r + j) = al X6 q (4 * rmI r + j) := fun q j hq hj => by
      have := m4 q (4 * rmI r + j) hq (by omega)
      rw [this.1, this.2, st, (k9 q (by omega) (by omega)).1, (k9 q (by omega) (by omega)).2]
      exact ⟨rfl, rfl⟩
    have cgk : ∀ y : Int64, WV y → ffst (fun k => decide (al R 3 (wN r * 16 + k) = y)) nk 0 = ffst (fun k => decide (wk k = conv y)) nk 0 := fun y hy => by
      refine ffst_cg _ _ (fun i _ hi => ?_)
      obtain ⟨b1, b2, -⟩ := t1 i (by omega)
      rw [b1]
      exact decide_eq_decide.mpr (conv_inj b2 hy).symm
    have DA : ∀ j, j < k → wd j = conv (al R 15 (4 * rmI r + j)) ∧ WV (al R 15 (4 * rmI r + j)) ∧ pc j = ai R 16 (4 * rmI r + j) ∧ plp (pc j) ∧ ffst (fun k => decide (wk k = wd j)) nk 0 = kN R (wN R) (nkN R) (al R 15 (4 * rmI r + j)) (ai R 16 (4 * rmI r + j)) := fun j hj => by
      obtain ⟨b1, b2, b3, p', b4, b5, b6, b7⟩ := da j hj
      rw [(g15 15 j (by omega) (by omega)).2, (g15 16 j (by omega) (by omega)).1]
      refine ⟨b1, b2, b3, ⟨p', b4, by omega, b6⟩, ?_⟩
      rw [wR, ← b3, b4, kl_here EN2 A2 w2'.symm nk'.symm (show p' < qN (stpF r) by omega) (fun i hi => ?_), cgk _ b2, b1]
      refine Int32.lt_trans (t1 i hi).2.2.1 ?_
      rw [A.q.1, nI_ltI (by have := A.q.2.1; omega) (by omega)]
      exact b5
    have VR : VB (tp h) v u p R (rmI r) := VX.cg (fun q h1 h2 => g q h1 (by omega))
    refine ⟨wR, by omega, VR, (g 13 (by omega) (by omega)).1, by rw [(g 14 (by omega) (by omega)).1]; exact c14, (m3 17 _ (Or.inr rfl) (by omega)).1, DA, ?_⟩
    unfold mpW
    rw [wR, ← rmi, (g 14 (by omega) (by omega)).1, c14, tn_nI (by omega)]
    obtain ⟨y1, y2, y3, y4, -⟩ := VR
    rw [← y1]
    have e1 : (¬ mN R (wN r) (nmN R) (al R 9 (rmI r)) = some nm) ↔ ¬ ffst (fun m => decide (fJ h 21201 (fW m) = u 21201)) nm 0 = none := by
      rw [mN_new (nm := nm) (by omega) (by rw [← rmi])]
      have : ffst (fun m => decide (al R 9 (wN r * 12 + m) = al R 9 (rmI r))) nm 0 = ffst (fun m => decide (fJ h 21201 (fW m) = u 21201)) nm 0 := by
        refine ffst_cg _ _ (fun i _ hi => ?_)
        obtain ⟨b1, -⟩ := t5 i (by omega)
        rw [b1.2.2.2.1.1, y3]
        exact decide_eq_decide.mpr (conv_inj b1.2.2.2.1.2 y4).symm
      rw [this]
    rw [decide_eq_decide.mpr e1]
    congr 1
    refine flr_cg k 0 (fun i _ hi => ?_)
    obtain ⟨b1, b2, b3, b4, b5⟩ := DA i (by omega)
    show (if kN R (wN r) (nkN R) (al R 15 (4 * rmI r + i)) (ai R 16 (4 * rmI r + i)) = none then [keyN (tn (ai R 16 (4 * rmI r + i))) 1 0] else []) = (if ffst (fun k => decide (wk k = wd i)) nk 0 = none then [keyN (tn (pc i)) 1 0] else [])
    rw [b5, b3, wR]
  -- what was there before
  have old : ∀ g z, a0 ≤ z → z < tp h → ENX T U e0 (tp h) g z → g = 90003 := fun g z h1 h2 w => by
    rcases w with w | w | w
    · rcases w with w | w
      · have := w.1; omega
      · omega
    · rcases w with w | w
      · omega
      · exact w.1
    · omega
  have XT : FX (EPT T U e0) hB hc := XB.tr (w1.mono (fun g z w => by
    rcases w with w | w | w
    · exact Or.inl (EPW_a w)
    · exact Or.inl (Or.inr (Or.inl w))
    · exact Or.inr (Or.inr (Or.inr ⟨by omega, w.2⟩))))
  have s59 := tk_sign (te.sy.rt M.1.1) (c := 59) (by decide)
  rw [show sgT 59 = 24 from rfl, ← te.2.2.2.1] at s59
  rw [bk_X5_tellWay_80, show vi 24 = vi (nI 24) from rfl]
  refine ⟨c9, p_skip (d := d + 3) E (by omega) (fun _ t24 h8 E8 w8 => ?_) (fun n24 => ?_)⟩
  · -- no block
    simp only [psh]
    rw [bk_X5_tellWay_83]
    refine ⟨fun _ => ?_, fun z => absurd (by decide) z⟩
    rw [bk_X5_tellWay_88]
    have y59 := s59.mp t24
    have st2 : stpF r = advF (rmU X6) := by rw [st]; unfold rmE; rw [if_pos y59]
    have yU : gi (rmU X6) 1451 = 59 := y59
    have M' := MU.adv (by rw [yU]; decide)
    rw [← st2] at M'
    have w' : wN (stpF r) = wN r := M'.w
    have n8 : ai (stpF r) 8 (wN r) = nI (nm + 1) := by rw [st2, ai_adv]; exact u8
    have e8 : gi (advF a6) 1452 = -1 := by rw [gi_adv]; exact r6
    have E8' := E8.te (TEW.of (show TE (advF a6) (stpF r) by rw [st2]; exact teU.adv) (by rw [M'.2.1]; exact e8.symm))
    have W' := W.pw w8 tT
    obtain ⟨x1, x2, x3, x4, x5, x6⟩ := W'
    have qU : qN (rmU X6) = qN X6 := (TE_tI (by decide)).q
    have qq := (MU.1.adv_q).2 (by rw [yU]; decide)
    rw [← st2, qU] at qq
    have ns' : nsC (stpF r) = nsC r := by unfold nsC; rw [w', keep 18 _ (by omega) (by omega)]
    have rs' : rsN (stpF r) = rsN r := M'.2.2.2.2.2.2.2.1
    have nb' : nbN (stpF r) = nbN r := M'.nb
    have nbC' : nbC (stpF r) = nbC r := by
      have e1 : nbN r = wN r * 1024 + nbC r := rfl
      have e2 : nbN (stpF r) = wN r * 1024 + nbC (stpF r) := by rw [← w']; rfl
      omega
    refine H1 h8 (stpF r) (nm + 1) (up1 fW nm (tp h)) ns fS ks6 (b + 1) G 0 rfl ⟨⟨M'.1, M'.2.1, M'.2.2.2.2.2.1⟩, E8'.m0, x2, x5, ⟨?_, ?_, by rw [ns']; exact en⟩, ⟨by omega, by rw [M'.2.2.2.1]; exact hB0⟩, ⟨ha0, by omega⟩, XT.tr w8.tp, fun EN2 => ?_⟩
    · unfold nkN; rw [w', keep 2 _ (by omega) (by omega), ek]; rfl
    · unfold nmN; rw [w', n8, tn_nI (by omega)]
    · have EN := EN2.back hr (RIL_pre A)
      obtain ⟨t1, t2, t3, ⟨t4, t4'⟩, t5, t6, t7, t8⟩ := TL EN
      obtain ⟨wR, nmR, VR, v13R, c14R, c17R, DA, mp⟩ := RF M'.1 w' n8 (by omega) EN EN2
      have z17 : ai R 17 (rmI r) = -1 := by
        rw [c17R, st2, ai_adv]
        unfold rmU
        rw [ai_ne (by decide)]; exact c17
      refine ⟨fun k' hk' => ?_, fun k' hk' => ?_, ?_, ⟨?_, fun b' hb' => ?_⟩, fun m hm => ?_, fun a => ?_, ?_, t8⟩
      · rw [w']
        obtain ⟨b1, b2, b3, b4, b5⟩ := t1 k' hk'
        refine ⟨b1, b2, Int32.lt_trans b3 ?_, b4, b5⟩
        rw [A.q.1, M'.1.q.1, nI_ltI (by have := A.q.2.1; omega) (by have := M'.1.q.2.1; omega)]
        omega
      · rw [w']; exact t2 k' (by omega)
      · rw [w', rs', nb']
        exact AD.wide (t3.fx x1 (fun g y h1 h2 w => old g y h1 h2 w)) (Nat.le_refl _) x1.1 (Nat.le_refl _)
      · rw [w', rs', bods_succ, ← rmi, z17, oN_m1]
        show CI G _ (_ ++ []) _
        rw [List.append_nil]; exact t4
      · rw [w', bods_succ, ← rmi, z17, oN_m1] at hb'
        rw [w', nb']
        refine t4' b' ?_
        have : b' ∈ bods R (wN r) nm ++ [] := hb'
        rw [List.append_nil] at this
        exact this
      · rw [w']
        by_cases y : m = nm
        · rw [y, ← rmi, show up1 fW nm (tp h) nm = tp h from if_pos rfl]
          refine ⟨wyf_mk (p := p) hU x3 x4 (fun _ _ => rfl) (N.fx w8.1 (fun q _ => EPW_no (by omega)) (EPW_no (by omega)) (EPW_no (by omega)) (EPW_no (by omega))) VR c14R k4 DA (by rw [v13R]; exact v13) (by rw [v13R]; exact b13) ?_, ⟨ha1, fun m' hm' => by rw [show up1 fW nm (tp h) m' = fW m' from if_neg (by omega)]; have := (t5 m' (by omega)).2.2; omega⟩, by omega⟩
          rw [z17, oN_m1]; exact VR.2.2.2.2.2.2.2.2
        · obtain ⟨b1, b2, b3⟩ := t5 m (by omega)
          rw [show up1 fW nm (tp h) m = fW m from if_neg y]
          exact ⟨b1.fx x1 b3 (fun g z h1 h2 h3 w => by have := old g z (by omega) (by omega) w; omega), ⟨b2.1, fun m' hm' => by rw [show up1 fW nm (tp h) m' = fW m' from if_neg (by omega)]; exact b2.2 m' hm'⟩, by have := x1.1; omega⟩
      · rw [ns', w', flr_add, show flr (mpW R) 1 (0 + nm) = mpW R nm ++ [] by rw [Nat.zero_add]; rfl, List.append_nil, mp]
        have c1 := t6 a
        have c2 := ct a
        simp only [List.count_append, List.count_nil] at c1 c2 ⊢
        omega
      · rw [ns', w', nbC']; omega
  · -- a block
    simp only [psh]
    rw [bk_X5_tellWay_83]
    refine ⟨fun z => absurd rfl z, fun _ => ?_⟩
    have n59 : ¬ gi X6 1451 = 59 := fun z => n24 r6 (s59.mpr z)
    have st2 : stpF r = tI (opF (rmU X6) 0 (-1) (nI nm)) 17 (rmI r) (opV (rmU X6)) := by
      rw [st]; unfold rmE
      rw [if_neg n59, a8, show nI nm + 1 - 1 = nI nm by rw [lt1, nI_add, pk_sub (by omega), show nm + 1 - 1 = nm by omega]]
    obtain ⟨op, oq⟩ := opq (q := 17) (i := rmI r) (what := 0) (own := -1) (num := nI nm) (v := opV (rmU X6)) MU (Or.inl ⟨dr.symm, Or.inl d0⟩) ⟨Nat.le_refl _, by omega⟩ (Or.inl ⟨rfl, rfl, MU.2.2.2.2.2.1⟩) (Or.inl rfl) (by decide) (by decide) (fun z => absurd z (by decide))
    rw [← st2] at op oq
    have EU := E.te (TEW.of teU (by rw [MU.2.1]; exact r6.symm))
    have qU : qN (rmU X6) = qN X6 := (TE_tI (by decide)).q
    have lenU : gi (rmU X6) 1448 = gi r 1448 := MU.2.2.2.1
    -- how it is opened
    have OP : okO (rmU X6) = true → RIL (stpF r) ∧ gi (stpF r) 1452 = -1 ∧ dN (stpF r) = 1 ∧ rsB (stpF r) = nbN r ∧ nbN (stpF r) = nbN r + 1 ∧ wN (stpF r) = wN r ∧ rsN (stpF r) = rsN r ∧ nsC (stpF r) = nsC r ∧ ai (stpF r) 8 (wN r) = nI (nm + 1) ∧ qN X6 + 1 ≤ qN (stpF r) ∧ ai (stpF r) 40 (nbN r) = 0 ∧ ai (stpF r) 41 (nbN r) = -1 ∧ ai (stpF r) 17 (rmI r) = nI (nbN r) ∧ gi (stpF r) 1448 = gi r 1448 := fun z => by
      obtain ⟨q1, q2, q3, q4, q5⟩ := oq z
      obtain ⟨op1, -, op3⟩ := op
      obtain ⟨-, -, y⟩ := op3 MU.2.1
      obtain ⟨y1, y2, y3, y4, y5, y6, y7, y8, y9⟩ := y z
      have w' : wN (stpF r) = wN r := by unfold wN; rw [q2.1]
      have ns' : nsC (stpF r) = nsC r := by unfold nsC; rw [w', keep 18 _ (by omega) (by omega)]
      have qq := (MU.1.adv_q).2 (by rw [okO_123 z]; decide)
      rw [← y3.q] at qq
      refine ⟨y1, y2, y4, y5, y6, w', ?_, ns', ?_, by omega, q3, q4, ?_, op1.trans lenU⟩
      · have e1 : rsN r = wN r * 120 + nsC r := rfl
        have e2 : rsN (stpF r) = wN r * 120 + nsC (stpF r) := by rw [← w']; rfl
        omega
      · rw [st2, ai_ne (by decide), ai_op (by omega)]; exact u8
      · rw [st2, ai_tI, if_pos ⟨rfl, rfl⟩]; unfold opV; rw [if_pos z, MU.nb]
    rw [bk_X5_tellWay_84]
    refine ⟨c9, HB (d + 9) hc _ T U e0 0 false none [] (rmU X6) (stpF r) R (nbN r) nk par wk pk (nm + 1) (up1 fW nm (tp h)) ns fS ks6 b B0 G (by omega) (by omega) EU rfl w2 w5 op (fun _ => by omega) (fun z => absurd MU.2.1 z) (by rw [lenU]; exact hB0) (fun _ z => ?_) (fun _ z EN2 => ?_) ?_ ?_⟩
    · obtain ⟨o1, o2, o3, o4, o5, o6, o7, o8, -⟩ := OP z
      rw [o8]; exact en
    · obtain ⟨o1, o2, o3, o4, o5, o6, o7, o8, o9, o10, o11, o12, o13, o14⟩ := OP z
      have EN := EN2.back hr (RIL_pre A)
      obtain ⟨t1, t2, t3, ⟨t4, t4'⟩, t5, t6, t7, t8⟩ := TL EN
      have F2 := FZ_en EN2 o1
      have e40 : ai R 40 (nbN r) = 0 := by rw [F2.2.2.1 40 _ (by omega) (by omega) (by omega)]; exact o11
      have e41 : ai R 41 (nbN r) = -1 := by rw [F2.2.2.1 41 _ (by omega) (by omega) (by omega)]; exact o12
      have cc : cch R (nbN r) = [] := by rw [cc_top (upB_none e41), e40, if_neg (by decide)]
      refine ⟨⟨?_, fun k' hk' => ?_⟩, ?_, fun k' hk' => ?_, ?_, fun c' m => ?_, ?_, ?_, t8⟩
      · unfold nkN; rw [o6, keep 2 _ (by omega) (by omega), ek]; rfl
      · rw [o6]
        obtain ⟨b1, b2, b3, b4, b5⟩ := t1 k' hk'
        refine ⟨b1, b2, Int32.lt_trans b3 ?_⟩
        rw [A.q.1, o1.q.1, nI_ltI (by have := A.q.2.1; omega) (by have := o1.q.2.1; omega)]
        omega
      · unfold nmN; rw [o6, o9, tn_nI (by omega)]
      · rw [o6]; exact t2 k' (by omega)
      · rw [cc]; rfl
      · rw [cc] at m; cases m
      · rw [lm_top (upB_none e41), e40, if_neg (by decide)]
      · unfold inL
        rw [show tgF R 2048 (nbN r) = none by rw [tgF, if_pos (Or.inl e40)]]
        simp
    · intro h' rc x ks' B' ns' fS' n _ z g Ac ec c125 dc Ec Xc Lc ens fk crc tx dd'
      obtain ⟨o1, o2, o3, o4, o5, o6, o7, o8, o9, o10, o11, o12, o13, o14⟩ := OP z
      obtain ⟨a1, a2, a3, a4, a5, a6', a7, a8', a9, a10, a11⟩ := cla_v Ac ec c125 dc
      obtain ⟨-, F1, -⟩ := frk o1 (goL_K g) ec (by omega)
      have bb : rsB rc = nbN r := by
        have := (lvl_keep o1 g ec (by omega)).2
        show tn (ai rc 46 (dN rc - 1)) = _
        rw [dc, this, ← o4]
        show _ = tn (ai (stpF r) 46 (dN (stpF r) - 1))
        rw [o3]
      have cl : stpF rc = clA rc := by
        rw [close_is c125 (by omega), bb, F1.2.2.1 40 _ (by omega) (by omega) (by omega), o11]
        rfl
      have gn : goN (n + 1) (stpF r) (clA rc) := by
        rw [← cl]
        exact goK_N (goK_tr (m := 1) (goL_K g) ⟨rng_in ec (by omega), RIL_pre Ac, by omega, rfl⟩)
      have wc : wN (clA rc) = wN r := a5.trans (F1.1.1.trans o6)
      have lo : ∀ q i, q ≤ 17 → ai (clA rc) q i = ai (stpF r) q i := fun q i hq => by rw [a3]; exact (goK_lo (goL_K g) q i hq).1
      have htp' : tp hc ≤ tp h' := Xc.1
      have t13 : tg h' (tp h) = 13 := by rw [Xc.tg (by omega)]; exact w3
      have e2 := Ec.fp (f := 31208) (x := tp h) (some x) hU (by decide)
      have l2 := LST.fp Lc (f := 31208) (x := tp h) (some x) hU (by decide)
      have f2 := (w4.fx Xc (by omega) (fun f hf => EPa_no (by omega))).sP 31208 (some x)
      have xs : FX (fun g y => g = 31208 ∧ y = tp h) h' (setFP h' 31208 (tp h) (some x)) := FX.FP ⟨rfl, rfl⟩
      have t2' : tg (setFP h' 31208 (tp h) (some x)) (tp h) = 13 := t13
      have tpz : tp (setFP h' 31208 (tp h) (some x)) = tp h' := rfl
      have k2 : KD (setFP h' 31208 (tp h) (some x)) (U + 1) nk par wk pk := (w2.ep Xc tT he (fun a m => by cases m)).fx xs (fun g z => by omega) (fun z => by omega) (fun z => by omega) (fun z => by omega) (fun z => by omega)
      simp only [psh, bk_X5_tellWay_87, nn_some]
      refine ⟨t13, ?_⟩
      rw [bk_X5_tellWay_88]
      generalize setFP h' 31208 (tp h) (some x) = hz at *
      obtain ⟨G', hG⟩ : ∃ G', ENR (stpF r) R → ENR rc R ∧ BPO hc h' U R G G' (stpF r) rc (nbN r) x ks6 ks' fS' := by
        by_cases EN2 : ENR (stpF r) R
        · obtain ⟨y1, G', y2⟩ := dd' EN2
          exact ⟨G', fun _ => ⟨y1, y2⟩⟩
        · exact ⟨G, fun y => absurd y EN2⟩
      have XZ : FX (EPT T U e0) hB hz := (XT.tr (Xc.mono (fun _ _ y => Or.inl y))).tr (xs.mono (fun g y w => Or.inr (Or.inr (Or.inr ⟨by omega, by omega⟩))))
      refine H1 hz (clA rc) (nm + 1) (up1 fW nm (tp h)) ns' fS' ks' B' G' (n + 1) gn ⟨⟨a1, a2, a9⟩, e2.m0, k2, l2, ⟨?_, ?_, by rw [a6']; exact ens⟩, ⟨crc, ?_⟩, ⟨ha0, by omega⟩, XZ, fun EN' => ?_⟩
      · unfold nkN; rw [wc, lo 2 _ (by omega), keep 2 _ (by omega) (by omega), ek]; rfl
      · unfold nmN; rw [wc, lo 8 _ (by omega), o9, tn_nI (by omega)]
      · rw [a11.2.1, gi_adv, F1.1.2.2.2.2.1, o14]; exact hB0
      · have EN2 := enr_bk gn EN'
        have EN := EN2.back hr (RIL_pre A)
        obtain ⟨t1, t2, t3, ⟨t4, t4'⟩, t5, t6, t7, t8⟩ := TL EN
        obtain ⟨wR, nmR, VR, v13R, c14R, c17R, DA, mp⟩ := RF o1 o6 o9 (by omega) EN EN2
        have e41 : ai R 41 (nbN r) = -1 := by rw [(FZ_en EN2 o1).2.2.1 41 _ (by omega) (by omega) (by omega)]; exact o12
        obtain ⟨ENc, b1, b2, b3, ⟨b4, b5, b6⟩, b7, b8, b9⟩ := hG EN2
        rw [o7] at b1 b3 b5 b8 b9
        rw [o6] at b2
        rw [o5] at b9
        have z17 : oN (ai R 17 (rmI r)) = some (nbN r) := by rw [c17R, o13, oN_nI sm.2]
        have l1 : rsN r ≤ rsN rc := by have := F1.1.2.1; omega
        have l2' : nbN r + 1 ≤ nbN rc := by have := F1.1.2.2.1; omega
        have e1 : rsN r = wN r * 120 + nsC r := rfl
        have e2' : rsN rc = wN r * 120 + nsC rc := by
          have : wN rc = wN r := F1.1.1.trans o6
          rw [← this]; rfl
        have e3 : nbN r = wN r * 1024 + nbC r := rfl
        have e4 : nbN rc = wN r * 1024 + nbC rc := by
          have : wN rc = wN r := F1.1.1.trans o6
          rw [← this]; rfl
        have nbc : nbC (clA rc) = nbC rc := by unfold nbC; rw [a5, a3]
        have nsc : nsC rc - nsC r + nsC r = nsC rc := by omega
        -- from the state before to the end
        have X1 : FX (fun g y => ENX T U e0 (tp h) g y ∨ EPa T U e0 [] g y ∨ (g = 31208 ∧ y = tp h)) h hz := ((w1.mono (fun _ _ y => Or.inl y)).tr (Xc.mono (fun _ _ y => Or.inr (Or.inl y)))).tr (xs.mono (fun _ _ y => Or.inr (Or.inr y)))
        have old2 : ∀ g y, a0 ≤ y → y < tp h → (ENX T U e0 (tp h) g y ∨ EPa T U e0 [] g y ∨ (g = 31208 ∧ y = tp h)) → g = 90003 := fun g y h1 h2 w => by
          rcases w with w | w | w
          · exact old g y h1 h2 w
          · rcases EPa_is w with w | w | w | ⟨w, -⟩ | w
            · omega
            · omega
            · exact w.1
            · cases w
            · omega
          · omega
        have AD1 : AD hz U a0 (tp hc) R G' (fun _ => False) (wN r * 120) (rsN r) (wN r * 1024) (nbN r) := AD.ga (AD.wide (t3.fx X1 old2) (Nat.le_refl _) (by omega) (by omega)) b1
        have AD2 : AD hz U (tp hc) (tp h') R G' (fun _ => False) (rsN r) (rsN rc) (nbN r) (nbN rc) := b3.fx xs (fun g y h1 h2 w => by omega)
        refine ⟨fun k' hk' => ?_, fun k' hk' => ?_, ?_, ⟨?_, fun b' hb' => ?_⟩, fun m hm => ?_, fun a => ?_, ?_, t8⟩
        · rw [wc]
          obtain ⟨d1, d2, d3, d4, d5⟩ := t1 k' hk'
          refine ⟨d1, d2, Int32.lt_trans d3 ?_, d4, d5⟩
          have := F1.1.2.2.2.1
          rw [A.q.1, a1.q.1, nI_ltI (by have := A.q.2.1; omega) (by have := a1.q.2.1; omega)]
          omega
        · rw [wc]; exact b2 k' (by omega)
        · rw [wc, a8', a7, tpz]
          exact AD.app AD1 AD2 (by omega) htp' l1 (by omega) (by omega) (by omega)
        · rw [wc, a8', bods_succ, ← rmi, z17]
          refine CI.app (CI.cg t4 (fun b' m => (b1.2.1 b' (t4' b' m).2).2)) ⟨b5, by rw [b6]; exact l1, b6⟩
        · rw [wc, bods_succ, ← rmi, z17, List.mem_append] at hb'
          rw [wc, a7]
          rcases hb' with hb' | hb'
          · have := t4' b' hb'; exact ⟨this.1, by omega⟩
          · have := List.mem_singleton.mp hb'
            exact ⟨⟨by rw [this]; exact e41, by omega⟩, by omega⟩
        · rw [wc]
          by_cases y : m = nm
          · rw [y, ← rmi, show up1 fW nm (tp h) nm = tp h from if_pos rfl]
            refine ⟨wyf_mk (p := p) hU t2' f2 (fun f hf => if_neg hf) ((N.ep Xc).fx xs (fun q _ w => by omega) (fun w => by omega) (fun w => by omega) (fun w => by omega)) VR c14R k4 DA (by rw [v13R]; exact v13) (by rw [v13R]; exact b13) ?_, ⟨ha1, fun m' hm' => by rw [show up1 fW nm (tp h) m' = fW m' from if_neg (by omega)]; have := (t5 m' (by omega)).2.2; omega⟩, by omega⟩
            rw [z17, show up1 p 31208 (some x) 31208 = some x from if_pos rfl, ← b4]; rfl
          · obtain ⟨d1, d2, d3⟩ := t5 m (by omega)
            rw [show up1 fW nm (tp h) m = fW m from if_neg y]
            exact ⟨(d1.fx X1 d3 (fun g z h1 h2 h3 w => by have := old2 g z (by omega) (by omega) w; omega)).cg (fun b' hb' => (b1.2.1 b' (t4' b' (bods_mem (by omega) hb')).2).1), ⟨d2.1, fun m' hm' => by rw [show up1 fW nm (tp h) m' = fW m' from if_neg (by omega)]; exact d2.2 m' hm'⟩, by have := X1.1; omega⟩
        · rw [a6', wc, flr_add (mpW R), show flr (mpW R) 1 (0 + nm) = mpW R nm ++ [] by rw [Nat.zero_add]; rfl, List.append_nil, mp, show nsC rc = nsC r + (rsN rc - rsN r) by omega, flr_add (mpS R), show wN r * 120 + nsC r = rsN r by omega]
          have c1 := t6 a
          have c2 := ct a
          have c3 := b8 a
          simp only [List.count_append, List.count_nil] at c1 c2 ⊢
          omega
        · rw [a6', wc, nbc, show nsC rc = nsC r + (rsN rc - rsN r) by omega, sumN_add, show wN r * 120 + nsC r = rsN r by omega]
          omega
    · intro h' rw x ks' B' ns' fS' hh bad Ew Xw Lw fk crw tx
      have t13 : tg h' (tp h) = 13 := by rw [Xw.tg (by omega)]; exact w3
      have htp' : tp hc ≤ tp h' := Xw.1
      simp only [psh, bk_X5_tellWay_87, nn_some]
      refine ⟨t13, ?_⟩
      rw [bk_X5_tellWay_88]
      rcases hh with ⟨y, -⟩ | ⟨-, n, g⟩
      · exact absurd MU.2.1 y
      · refine H2 _ rw (nm + 1) (up1 fW nm (tp h)) ns' fS' ks' B' n (goK_N (goL_K g)) bad (Ew.fp (some x) hU (by decide)).m0 (LST.fp Lw (some x) hU (by decide)) ?_ ((XT.tr (Xw.mono (fun _ _ y => Or.inl y))).toFP _ (Or.inr (Or.inr (Or.inr ⟨hU, by decide⟩))))
        rw [lenU] at crw
        omega
