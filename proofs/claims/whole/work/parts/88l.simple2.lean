/-! do, return, break: the contracts -/
theorem v19_simple {r R : RV} (A : RIL r) (hr : rng r) (d0 : 0 < dN r) (d1 : ¬ gi r 1451 = 125) {k : Nat} (hk : k = 0 ∨ k = 7 ∨ k = 8) (hs : srt r = some k) (hn : nsC r < 120) (E : ENR r R) : ai R 19 (rsN r) = nI k := by
  obtain ⟨st, ne, n120⟩ := stp_kw A d0 d1 hs (by omega) hn
  rw [rsK_simple _ _ hk] at st
  obtain ⟨v20, v21, v22, ew, lb, FR, rl⟩ := st_vals A hr d0 d1 E
  rw [(FR.2.1 19 _ (by omega) rl).1, st, ai_tak, ai_tI, if_pos ⟨rfl, rfl⟩]
theorem nI_lit {k j : Nat} (hk : k < 2 ^ 31) (hj : j < 2 ^ 31) (h : ¬ k = j) : ¬ nI k = nI j := by rw [nI_eq hk hj]; exact h
/-- the mistakes noted, by sorts -/
theorem mpS_n {R : RV} {s k : Nat} (h : ai R 19 s = nI k) (hk : k ≤ 11) : mpS R s = if k = 2 then (match prS R s with
    | none => lif (decide (kN R (wN R) (nkN R) (al R 24 s) (ai R 25 s) = none)) (keyN (tn (ai R 25 s)) 1 0)
    | some _ => [])
  else if k = 3 then jsS R s (prS R s) (psS R s)
  else if k = 7 then lif (decide (tgS R s = none)) (keyN (tn (ai R 20 s)) 8 0)
  else if k = 9 then flr (mpC R s) (tn (ai R 32 s)) 0
  else if k = 10 then flr (unkL (fun i => ai R 31 (4 * s + i)) (fun i => kN R (wN R) (nkN R) (al R 30 (4 * s + i)) (ai R 31 (4 * s + i)))) (tn (ai R 29 s)) 0
  else [] := by
  have e : ∀ j, j < 20 → (nI k = nI j ↔ k = j) := fun j hj => by
    constructor
    · intro z
      have := congrArg tn z
      rwa [tn_nI (by omega), tn_nI (by omega)] at this
    · intro z; rw [z]
  have e2 : nI k = 2 ↔ k = 2 := e 2 (by omega)
  have e3 : nI k = 3 ↔ k = 3 := e 3 (by omega)
  have e7 : nI k = 7 ↔ k = 7 := e 7 (by omega)
  have e9 : nI k = 9 ↔ k = 9 := e 9 (by omega)
  have e10 : nI k = 10 ↔ k = 10 := e 10 (by omega)
  unfold mpS
  rw [h]
  by_cases z2 : k = 2
  · rw [if_pos (e2.mpr z2), if_pos z2]
    cases prS R s <;> rfl
  rw [if_neg (fun y => z2 (e2.mp y)), if_neg z2]
  by_cases z3 : k = 3
  · rw [if_pos (e3.mpr z3), if_pos z3]
  rw [if_neg (fun y => z3 (e3.mp y)), if_neg z3]
  by_cases z7 : k = 7
  · rw [if_pos (e7.mpr z7), if_pos z7]
  rw [if_neg (fun y => z7 (e7.mp y)), if_neg z7]
  by_cases z9 : k = 9
  · rw [if_pos (e9.mpr z9), if_pos z9]
  rw [if_neg (fun y => z9 (e9.mp y)), if_neg z9]
  by_cases z10 : k = 10
  · rw [if_pos (e10.mpr z10), if_pos z10]
  rw [if_neg (fun y => z10 (e10.mp y)), if_neg z10]
theorem vS0_be (k p w l : Int32) : up1 (vS0 k p w l) 10813 (b2i false) = vS0 k p w l := by
  funext f
  unfold up1
  by_cases z : f = 10813
  · rw [if_pos z, z]; rfl
  · rw [if_neg z]
theorem sc_08 {D k : Nat} (hk : k = 0 ∨ k = 8) : SC D k := by
  intro d h h3 Q T U e0 l il so sc r R nk par wk pk nm fW fS ks B B0 G hd A hr hD D0 d1 hl CH hsc K hs hn E3 L3 hU X3 t9 ⟨htp, ntg⟩ F3 cr hB0 DP H
  obtain ⟨d, rfl⟩ : ∃ j, d = j + 10 := ⟨d - 10, by omega⟩
  have c9 := E3.1.2.2.2.2.2.2.2.2.1
  obtain ⟨tk, k10⟩ := srt_kw hs (by omega)
  rw [if_neg (by omega), bk_X5_takeStatement_47]
  refine ⟨c9, p_take E3 (by omega) (fun h4 E4 w4 => ?_)⟩
  rw [decide_eq_true tk, gT_t hr.1] at E4
  simp only [psh]
  refine st_sw (by omega) ?_
  have e : (if k = 0 then 80 else swAt [68, 68, 68, 52, 57, 57, 72, 80, 63, 76] (k - 1) 80) = 80 := by
    rcases hk with hk | hk <;> subst hk <;> rfl
  rw [e]
  refine sc_tail (h3 := h3) (nk := nk) (wk := wk) (R := R) (G := G) (ks := ks) (by omega) (by omega) A hr hD D0 d1 hs hn hsc E4 (L3.pw w4) hU ((X3.mono (fun _ _ z => Or.inr z)).tr (w4.1.mono (fun _ _ z => Or.inl z))) (by rw [w4.1.tg htp]; exact t9) (by rw [w4.2.1]; exact htp) false (by rw [vS0_be]; exact F3.fx w4.1 htp (fun f hf => EPW_no (by omega))) (by omega) (fun EN => ?_) H
  have v19 := v19_simple A hr (by omega) d1 (by omega) hs hn EN
  refine ⟨DP EN, ?_, ?_, ?_⟩
  · rw [decide_eq_false (by omega)]; rfl
  · have : mpS R (rsN r) = [] := by
      rw [mpS_n v19 (by omega), if_neg (by omega), if_neg (by omega), if_neg (by omega), if_neg (by omega), if_neg (by omega)]
    rw [this]; exact CTK.rf
  · obtain ⟨p, q1, q2, q3⟩ := E3.pl
    exact ⟨p, by rw [← (E3.2.2.2.2 hr.1).1.2.1]; exact q1, by omega, by omega⟩
theorem sc_7 {D : Nat} : SC D 7 := by
  intro d h h3 Q T U e0 l il so sc r R nk par wk pk nm fW fS ks B B0 G hd A hr hD D0 d1 hl CH hsc K hs hn E3 L3 hU X3 t9 ⟨htp, ntg⟩ F3 cr hB0 DP H
  obtain ⟨d, rfl⟩ : ∃ j, d = j + 10 := ⟨d - 10, by omega⟩
  have c9 := E3.1.2.2.2.2.2.2.2.2.1
  obtain ⟨tk, k10⟩ := srt_kw hs (by omega)
  obtain ⟨p, q1, q2, q3⟩ := E3.pl
  have pq : gi r 1449 = nI p := by rw [← (E3.2.2.2.2 hr.1).1.2.1]; exact q1
  rw [if_neg (by omega), bk_X5_takeStatement_47]
  refine ⟨c9, p_take E3 (by omega) (fun h4 E4 w4 => ?_)⟩
  rw [decide_eq_true tk, gT_t hr.1] at E4
  simp only [psh]
  refine st_sw (by omega) ?_
  have e : (if (7 : Nat) = 0 then 80 else swAt [68, 68, 68, 52, 57, 57, 72, 80, 63, 76] (7 - 1) 80) = 72 := rfl
  rw [e]
  have L4 := L3.pw w4
  have t94 : tg h4 (tp h) = 9 := by rw [w4.1.tg htp]; exact t9
  have htp4 : tp h < tp h4 := by rw [w4.2.1]; exact htp
  have F4 := F3.fx w4.1 htp (fun f hf => EPW_no (by omega))
  have X4 : FX (ENX T U e0 (tp h)) h h4 := (X3.mono (fun _ _ z => Or.inr z)).tr (w4.1.mono (fun _ _ z => Or.inl z))
  have c94 := E4.1.2.2.2.2.2.2.2.2.1
  have il4 := E4.2.2.1.2.2.2.1
  rw [bk_X5_takeStatement_72]
  refine ⟨c94, ?_⟩
  rw [bk_X5_tieBreak_0, nn_some, il4]
  have fs : fI (setFI h4 10813 (tp h) (b2i il)) 10705 (U + 9) = b2i il := by rw [fI_setFI, if_neg (by omega)]; exact il4
  rw [fs]
  have E5 := E4.fi (f := 10813) (x := tp h) (b2i il) hU (by decide)
  have L5 := LST.fi L4 (f := 10813) (x := tp h) (b2i il) hU (by decide)
  have F5 := F4.sI 10813 (b2i il)
  have X5 : FX (ENX T U e0 (tp h)) h (setFI h4 10813 (tp h) (b2i il)) := X4.toFI _ (Or.inr (Or.inr ⟨Nat.le_refl _, by decide⟩))
  have t95 : tg (setFI h4 10813 (tp h) (b2i il)) (tp h) = 9 := t94
  have htp5 : tp h < tp (setFI h4 10813 (tp h) (b2i il)) := htp4
  have c95 : tg (setFI h4 10813 (tp h) (b2i il)) (U + 9) = 8 := c94
  generalize setFI h4 10813 (tp h) (b2i il) = h5 at *
  refine ⟨c94, t94, by rw [b2i_ok]; trivial, c95, fun z => ?_, fun z => ?_⟩
  · rw [b2i_0] at z
    have z := bf z
    rw [bk_X5_tieBreak_14]
    simp only [psh, bk_X5_takeStatement_75]
    refine sc_tail (h3 := h3) (nk := nk) (wk := wk) (R := R) (G := G) (ks := ks) (k := 7) (by omega) (by omega) A hr hD D0 d1 hs hn hsc E5 L5 hU X5 t95 htp5 il F5 (by omega) (fun EN => ?_) H
    have v19 := v19_simple A hr (by omega) d1 (by omega) hs hn EN
    obtain ⟨v20, v21, v22, ew, lb, FR, rl⟩ := st_vals A hr (by omega) d1 EN
    have P := DP EN
    have il2 : il = inL R (rsB r) := P.2.2.2.2.2.2.1
    refine ⟨P, ?_, ?_, ⟨p, pq, by omega, by omega⟩⟩
    · rw [← il2]; simp
    · have : mpS R (rsN r) = [] := by
        rw [mpS_n v19 (by omega), if_neg (by decide), if_neg (by decide), if_pos rfl]
        have : decide (tgS R (rsN r) = none) = false := by
          rw [il2] at z
          unfold inL at z
          unfold tgS
          rw [v21, tn_nI lb]
          have := of_decide_eq_true z
          exact decide_eq_false this
        rw [this]; rfl
      rw [this]; exact CTK.rf
  · have z : il = false := by
      rw [b2i_0] at z
      exact Classical.not_not.mp z
    have c115 := E5.1.2.2.2.2.2.2.2.2.2.2
    have c45 := E5.1.2.2.2.1
    have bB : 1 ≤ B := by
      have := A.1.1
      obtain ⟨⟨pp, nn, hp, hn', l1, l2⟩, ⟨q, e, l, -⟩, -⟩ := A.1
      rw [hp, tn_nI (by omega)] at l
      have : qN r = q := by unfold qN; rw [e, tn_nI (by omega)]
      rw [hn', tn_nI (by omega)] at hB0
      omega
    obtain ⟨B, rfl⟩ : ∃ b, B = b + 1 := ⟨B - 1, by omega⟩
    have p801 : fI h5 801 (tp h) = nI p := by
      rw [(F5 801 (by decide)).1]
      show gi r 1449 = nI p
      exact pq
    rw [bk_X5_tieBreak_7, nn_some, c115, nn_some, p801, ← kI_0, show (8 : Int32) = nI 8 from rfl]
    refine ⟨c95, t95, c45, p_note E5.1 L5 (by omega) (by omega) (by omega) (by omega) (fun h6 ks6 L6 pm6 x6 t6 => ?_)⟩
    simp only [psh, bk_X5_tieBreak_14, bk_X5_takeStatement_75]
    have F6 := F5.fx x6 htp5 (fun f hf z => by
      rcases z with ⟨z1, z2⟩ | ⟨z1, z2⟩ <;> omega)
    refine sc_tail (h3 := h3) (nk := nk) (wk := wk) (R := R) (G := G) (ks := ks) (k := 7) (by omega) (by omega) A hr hD D0 d1 hs hn hsc (E5.ls x6) L6 hU (X5.tr (x6.mono (fun _ _ z => Or.inr (Or.inl z)))) (by rw [x6.tg htp5]; exact t95) (by have := x6.1; omega) il F6 (by omega) (fun EN => ?_) H
    have v19 := v19_simple A hr (by omega) d1 (by omega) hs hn EN
    obtain ⟨v20, v21, v22, ew, lb, FR, rl⟩ := st_vals A hr (by omega) d1 EN
    have P := DP EN
    have il2 : il = inL R (rsB r) := P.2.2.2.2.2.2.1
    refine ⟨P, ?_, ?_, ⟨p, pq, by omega, by omega⟩⟩
    · rw [← il2]; simp
    · have : mpS R (rsN r) = [keyN p 8 0] := by
        rw [mpS_n v19 (by omega), if_neg (by decide), if_neg (by decide), if_pos rfl]
        have : decide (tgS R (rsN r) = none) = true := by
          rw [il2] at z
          unfold inL at z
          unfold tgS
          rw [v21, tn_nI lb]
          have := of_decide_eq_false z
          exact decide_eq_true (Classical.not_not.mp this)
        rw [this, v20, pq, tn_nI (by omega)]; rfl
      rw [this]; exact CTK.pm pm6
