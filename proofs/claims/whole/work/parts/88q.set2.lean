theorem sc_3 {D : Nat} : SC D 3 := by
  intro d h h3 Q T U e0 l il so sc r R nk par wk pk nm fW fS ks B B0 G hd A hr hD D0 d1 hl CH hsc K hs hn E3 L3 hU X3 t9 ⟨htp, ntg⟩ F3 cr hB0 DP H
  obtain ⟨d, rfl⟩ : ∃ j, d = j + 10 := ⟨d - 10, by omega⟩
  have c9 := E3.1.2.2.2.2.2.2.2.2.1
  obtain ⟨tk, k10⟩ := srt_kw hs (by omega)
  obtain ⟨p, g1, g2, g3⟩ := E3.pl
  have pq : gi r 1449 = nI p := by rw [← (E3.2.2.2.2 hr.1).1.2.1]; exact g1
  have cg := cr_ge A cr hB0
  obtain ⟨B, rfl⟩ : ∃ b, B = b + 2 := ⟨B - 2, by omega⟩
  rw [if_neg (by omega), bk_X5_takeStatement_47]
  refine ⟨c9, p_take E3 (by omega) (fun h4 E4 w4 => ?_)⟩
  rw [decide_eq_true tk, gT_t hr.1] at E4
  simp only [psh]
  refine st_sw (by omega) ?_
  have e : (if (3 : Nat) = 0 then 80 else swAt [68, 68, 68, 52, 57, 57, 72, 80, 63, 76] (3 - 1) 80) = 68 := rfl
  rw [e]
  have er : gi (advF r) 1452 = -1 := by rw [gi_adv]; exact hr.1
  have L4 := L3.pw w4
  have t94 : tg h4 (tp h) = 9 := by rw [w4.1.tg htp]; exact t9
  have htp4 : tp h < tp h4 := by rw [w4.2.1]; exact htp
  have F4 := F3.fx w4.1 htp (fun f hf => EPW_no (by omega))
  have X4 : FX (ENX T U e0 (tp h)) h h4 := (X3.mono (fun _ _ z => Or.inr z)).tr (w4.1.mono (fun _ _ z => Or.inl z))
  have CH4 : CHN h4 U sc so := CHN.ep CH (w4.ep (e0 := e0) (sc := sc))
  have c94 := E4.1.2.2.2.2.2.2.2.2.1
  rw [bk_X5_takeStatement_68]
  refine ⟨c94, nm_set (d := d) E4 CH4 L4 hU htp4 (fun a m z => by have := hsc a m; omega) t94 F4 rfl (fun h5 y pn ks5 v' E5 L5 X5 F5 hv v6 pp p0 pl val hno hso => ?_)⟩
  simp only [psh]
  have t95 : tg h5 (tp h) = 9 := by rw [X5.tg htp4]; exact t94
  have htp5 : tp h < tp h5 := by have := X5.1; omega
  have hpn : gi (advF r) 1449 = nI pn := by rw [← (E4.2.2.2.2 er).1.2.1]; exact pp
  refine sc_ntail (h3 := h3) (nk := nk) (wk := wk) (R := R) (G := G) (ks := ks) (k := 3) (by omega) (by omega) A hr hD D0 d1 hs hn (stp_nam A (by omega) d1 (by omega) hs hn) E5 L5 hU ((ENX_en X4).tr (ENM_en (Nat.le_refl _) (fun a z => List.mem_of_find?_eq_some z) X5)) t95 htp5 F5 (fun f h1 _ => hv f h1) v6 p0 pl hpn val ⟨p, pq, by omega, by omega⟩ (by omega) DP (fun EN nmd EN' A' qq nkk v19 v24 v25 v21 lbn nbR ew => ?_) hsc H
  have P := DP EN
  obtain ⟨p1', p2', p3, p4, p5, p6, p7, p8⟩ := P
  obtain ⟨y1, y2⟩ := val er nmd
  have sm := small A
  have S4 : ∀ c, c ∈ cch R (rsB r) → SCF h4 R G c := fun c m => by
    refine (p5 c m).1.pw w4 ?_
    have hm : G 2 c ∈ sc := by rw [p4]; exact List.mem_map.mpr ⟨c, m, rfl⟩
    have h1 := (hsc _ hm).1
    have h2 := X3.1
    omega
  have fnd : sc.find? (fun a => decide (fJ h4 20303 a = y)) = (prS R (rsN r)).map (G 2) := by
    rw [prS_find v21 (by omega), v24, y1, p4]
    exact par_is S4 y2
  have i3 : ai R 19 (rsN r) = 3 := v19
  have m5 : mpS R (rsN r) = jsS R (rsN r) (prS R (rsN r)) (psS R (rsN r)) := by rw [mpS_n v19 (by omega), if_neg (by decide), if_pos rfl]
  have nd := CH4.nd
  rw [p4] at nd
  have D8 := A.d.2
  refine ⟨?_, by rw [if_pos (Or.inr i3)]; exact fnd, ?_, fun c m => ?_⟩
  · rw [if_neg (fun w => absurd (i3.symm.trans w.1) (by decide)), hv 807 (by decide)]; rfl
  · rw [m5]
    cases z : prS R (rsN r) with
    | none =>
      show CTK ks5 [keyN (tn (ai R 25 (rsN r))) 1 0] ks
      rw [v25, tn_nI (by omega)]
      exact hno (by rw [fnd, z]; rfl)
    | some c =>
      show CTK ks5 (lif (decide (1 < tn (ai R 36 c))) (keyN (tn (ai R 25 (rsN r))) 6 0) ++ lif (psS R (rsN r)) (keyN (tn (ai R 25 (rsN r))) 12 0)) ks
      have mc : c ∈ cch R (rsB r) := by
        rw [prS_find v21 (by omega)] at z
        exact List.mem_of_find?_eq_some z
      obtain ⟨s1, s2, s3, s4, s5, s6⟩ := S4 c mc
      have Y := (hso (G 2 c) (by rw [fnd, z]; rfl)).2
      have eps : prF R (al R 24 (rsN r)) 2048 (some (rsB r)) false = (some c, psS R (rsN r)) := by
        unfold prS at z
        unfold psS
        rw [v21, oN_nI (by omega)] at z ⊢
        exact Prod.ext z rfl
      have lo : wN R * 1024 ≤ rsB r := by
        rw [ew]
        exact (A.o (j := dN r - 1) (by omega)).2.1
      obtain ⟨qb, b1, b2, b3, b4, b5, b6⟩ := pr_pass p8 _ 2048 (rsB r) false c _ lo (by omega) (p8.b2 (by omega)) eps
      have lc := lm_catch p8 b1 (by omega) b3 b4
      rw [v25, tn_nI (by omega)]
      have k6 : decide (¬ fI h4 603 (G 2 c + 1) < 2) = decide (1 < tn (ai R 36 c)) := by
        apply decide_eq_decide.mpr
        rw [s4, show (2 : Int32) = nI 2 from rfl, nI_ltI (by omega) (by omega)]
        omega
      have v803 : vS0 (nI 3) (gi r 1449) (nI nm - 1) (nI l) 803 = nI l := rfl
      have k12 : decide (¬ vS0 (nI 3) (gi r 1449) (nI nm - 1) (nI l) 803 ≤ fI h4 302 (G 2 c)) = psS R (rsN r) := by
        rw [v803, s3]
        have le := nI_leI (a := l) (b := lmB R (tn (ai R 21 (c / 4)))) (by omega) (by omega)
        cases w : psS R (rsN r) with
        | true =>
          have := b6.mp w
          apply decide_eq_true
          rcases this with v | v
          · cases v
          · rw [le]; omega
        | false =>
          apply decide_eq_false
          rw [le]
          intro u
          have := b6.mpr (Or.inr (by omega))
          rw [w] at this
          cases this
      rw [← k6, ← k12]
      exact Y
  · have hm : G 2 c ∈ sc := by rw [p4]; exact List.mem_map.mpr ⟨c, m, rfl⟩
    have hm2 := hsc _ hm
    rw [stR_one, decide_eq_true i3, Bool.true_and]
    by_cases w : prS R (rsN r) = some c
    · rw [decide_eq_true w, if_pos rfl]
      exact (hso (G 2 c) (by rw [fnd, w]; rfl)).1
    · rw [decide_eq_false w, if_neg (by decide)]
      rw [X5.fI (by omega) (ENM_set (fun v => ?_))]
      · exact X4.fI (by omega) (ENX_set (by omega))
      · rw [fnd] at v
        cases z : prS R (rsN r) with
        | none => rw [z] at v; cases v
        | some c' =>
          rw [z] at v
          have v : G 2 c' = G 2 c := Option.some.inj v
          have mc : c' ∈ cch R (rsB r) := by
            rw [prS_find v21 (by omega)] at z
            exact List.mem_of_find?_eq_some z
          have := map_inj nd c' c mc m v
          rw [this] at z
          exact w z
