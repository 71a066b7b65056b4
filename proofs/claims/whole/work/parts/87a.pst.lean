/-! The class's reading: its state, its smallest pieces -/
/-- the text of the signs is an old one -/
def SGV (h : AH) (U : Nat) : Prop := ∃ s v, fP h 39800 5 = some s ∧ s < tp h ∧ fP h 36900 s = some v ∧ v < U
/-- the objects: tape T, unit U (kinds U+1, lists U+6, U+7, U+8), reader U+9 -/
def CXT (h : AH) (T U e0 : Nat) : Prop := (STK h e0 ∧ SGV h U) ∧ T + 2 < U ∧ U + 9 < tp h ∧ tg h U = 11 ∧ fP h 31000 U = some (U + 1) ∧ fP h 31001 U = some (U + 6) ∧ fP h 31002 U = some (U + 7) ∧ fP h 31003 U = some (U + 8) ∧ tg h (U + 9) = 8 ∧ fP h 30700 (U + 9) = some T ∧ fP h 30701 (U + 9) = some U
/-- the reader's numbers: where it is wrong, open braces, lambdas, in a loop, the innermost catch -/
def PST (h : AH) (U : Nat) (wr : Int32) (D l : Nat) (il : Bool) (so : Option Nat) : Prop := fI h 702 (U + 9) = wr ∧ fI h 703 (U + 9) = nI D ∧ fI h 704 (U + 9) = nI l ∧ fI h 10705 (U + 9) = b2i il ∧ fP h 30706 (U + 9) = so
/-- the state, right or wrong -/
def ES (h : AH) (T U e0 m : Nat) (r : RV) (D l : Nat) (il : Bool) (so : Option Nat) : Prop := CXT h T U e0 ∧ TS h T (ai r 1) (tn (gi r 1448)) ∧ PST h U (gi r 1452) D l il so ∧ (∃ p, fI h 905 T = nI p ∧ m ≤ p ∧ p ≤ 2000) ∧ (gi r 1452 = -1 → TK h T r ∧ RT r)
/-- only the token and where it is wrong have changed -/
def EPW (T U g x : Nat) : Prop := ET T g x ∨ (x = U + 9 ∧ g = 702)
def PW (T U : Nat) (h h' : AH) : Prop := FX (EPW T U) h h' ∧ tp h' = tp h ∧ rc h' = rc h ∧ rs h' = rs h
theorem PW.rf {T U : Nat} {h : AH} : PW T U h h := ⟨FX.rf, rfl, rfl, rfl⟩
theorem PW.tr {T U : Nat} {h h' h'' : AH} (a : PW T U h h') (b : PW T U h' h'') : PW T U h h'' := ⟨a.1.tr b.1, b.2.1.trans a.2.1, b.2.2.1.trans a.2.2.1, b.2.2.2.trans a.2.2.2⟩
theorem TW.pw {T U : Nat} {h h' : AH} (a : TW T h h') : PW T U h h' := ⟨a.1.mono (fun _ _ z => Or.inl z), a.2.1, a.2.2.1, a.2.2.2⟩
/-- fields that the objects need -/
theorem CXT.fx {E : Nat → Nat → Prop} {h h' : AH} {T U e0 : Nat} (c : CXT h T U e0) (x : FX E h h') (n1 : ∀ y, ¬ E 39900 y ∧ ¬ E 9900 y ∧ ¬ E 9901 y ∧ ¬ E 39800 y ∧ ¬ E 36900 y) (n2 : ¬ E 31000 U ∧ ¬ E 31001 U ∧ ¬ E 31002 U ∧ ¬ E 31003 U) (n3 : ¬ E 30700 (U + 9) ∧ ¬ E 30701 (U + 9)) : CXT h' T U e0 := by
  obtain ⟨⟨c1, s, v, v1, v2, v3, v4⟩, c2, c3, c4, c5, c6, c7, c8, c9, c10, c11⟩ := c
  have u0 : U < tp h := by omega
  refine ⟨⟨c1.fx x (fun y => (n1 y).1) (fun y => (n1 y).2.1) (fun y => (n1 y).2.2.1), s, v, by rw [(x.2.2.1 39800 5 (Or.inr (by decide)) (n1 _).2.2.2.1).2.2]; exact v1, Nat.lt_of_lt_of_le v2 x.1, by rw [x.fP v2 (n1 _).2.2.2.2]; exact v3, v4⟩, c2, Nat.lt_of_lt_of_le c3 x.1, ?_, ?_, ?_, ?_, ?_, ?_, ?_, ?_⟩
  · rw [x.tg u0]; exact c4
  · rw [x.fP u0 n2.1]; exact c5
  · rw [x.fP u0 n2.2.1]; exact c6
  · rw [x.fP u0 n2.2.2.1]; exact c7
  · rw [x.fP u0 n2.2.2.2]; exact c8
  · rw [x.tg c3]; exact c9
  · rw [x.fP c3 n3.1]; exact c10
  · rw [x.fP c3 n3.2]; exact c11
theorem EPW_no {T U g x : Nat} (h : ¬ (g = 903 ∨ g = 904 ∨ g = 905 ∨ g = 20906 ∨ g = 702)) : ¬ EPW T U g x := fun z => by
  rcases z with ⟨-, z⟩ | ⟨-, z⟩ <;> omega
theorem CXT.pw {h h' : AH} {T U e0 : Nat} (c : CXT h T U e0) (x : PW T U h h') : CXT h' T U e0 :=
  c.fx x.1 (fun y => ⟨EPW_no (by omega), EPW_no (by omega), EPW_no (by omega), EPW_no (by omega), EPW_no (by omega)⟩) ⟨EPW_no (by omega), EPW_no (by omega), EPW_no (by omega), EPW_no (by omega)⟩ ⟨EPW_no (by omega), EPW_no (by omega)⟩
theorem TS.pw {h h' : AH} {T U n : Nat} {t : Nat → Int32} (a : TS h T t n) (x : PW T U h h') : TS h' T t n :=
  a.fx x.1 (EPW_no (by omega)) (EPW_no (by omega)) (EPW_no (by omega)) (EPW_no (by omega)) (EPW_no (by omega)) (fun y => EPW_no (by omega)) (fun y => EPW_no (by omega)) (fun y => EPW_no (by omega)) (fun y => EPW_no (by omega)) (fun y z => absurd z (EPW_no (by omega))) (fun y _ _ => EPW_no (by omega)) (fun y => EPW_no (by omega))
theorem b2i_and (p q : Prop) [Decidable p] [Decidable q] : (decide p && decide q) = decide (p ∧ q) := by simp
section
variable {d : Nat} {h : AH} {Q : Option V → AH → Prop} {T U e0 m : Nat} {r : RV} {D l : Nat} {il : Bool} {so : Option Nat}
theorem ES.te {r' : RV} (E : ES h T U e0 m r D l il so) (t : TEW r r') : ES h T U e0 m r' D l il so := by
  obtain ⟨e1, e2, e3, e4, e5⟩ := E
  refine ⟨e1, by rw [t.2.2.1, t.2.2.2]; exact e2, by rw [t.1]; exact e3, e4, fun z => ?_⟩
  have z' := t.1.symm.trans z
  have a := t.2.1 z'
  exact ⟨a.tk (e5 z').1, a.rt (e5 z').2⟩
theorem tkn_le (r : RV) : tkn r < 30 := by
  unfold tkn
  split
  · have := kwI_le (gl r 21450); omega
  · rcases sgT_cs (gi r 1451) with ⟨e, f⟩ | ⟨e, f⟩ | ⟨e, f⟩ | ⟨e, f⟩ | ⟨e, f⟩ | ⟨e, f⟩ | ⟨e, f⟩ | ⟨e, f⟩ | f <;> rw [f] <;> omega
theorem p_at (E : ES h T U e0 m r D l il so) {t : Nat} (ht : t < 2 ^ 20) : wp d K_X5_at 0 [] [(0, vr (some (U + 9))), (1, vi (nI t))] h Q = Q (some (vi (b2i (decide (gi r 1452 = -1) && decide (tkn r = t))))) h := by
  obtain ⟨⟨c1, c2, c3, c4, c5, c6, c7, c8, c9, c10, c11⟩, e2, ⟨p1, -⟩, e4, e5⟩ := E
  have tT : tg h T = 10 := e2.1
  simp only [bk_X5_at_0, bk_X5_at_11, bk_X5_at_4, bk_X5_at_12, bk_X5_at_9, c9, p1, c10, nn_some, tT]
  by_cases z : gi r 1452 = -1
  · have k := (e5 z).1.2.2.1
    rw [k, nI_eq (by have := tkn_le r; omega) (by omega)]
    by_cases y : tkn r = t
    · simp [z, y, b2i]
    · simp [z, y, b2i]
  · simp [z, b2i]
theorem p_refuse (E : ES h T U e0 m r D l il so) (H : ∀ h', ES h' T U e0 m (gT false r) D l il so → PW T U h h' → Q none h') : wp d K_X5_refuse 0 [] [(0, vr (some (U + 9)))] h Q := by
  have E0 := E
  obtain ⟨c, e2, ⟨p1, p2, p3, p4, p5⟩, e4, e5⟩ := E
  have c9 := c.2.2.2.2.2.2.2.2.1
  have c10 := c.2.2.2.2.2.2.2.2.2.1
  have tT : tg h T = 10 := e2.1
  rw [bk_X5_refuse_0, p1]
  refine ⟨c9, fun z => ?_, fun z => ?_⟩
  · rw [bk_X5_refuse_9]
    refine H h ?_ PW.rf
    rw [gT_w z]; exact E0
  · have z := Classical.not_not.mp z
    rw [bk_X5_refuse_4, c10, nn_some]
    refine ⟨c9, tT, c9, ?_⟩
    rw [bk_X5_refuse_9]
    have w : PW T U h (setFI h 702 (U + 9) (fI h 905 T)) := ⟨FX.FI (Or.inr ⟨rfl, rfl⟩), rfl, rfl, rfl⟩
    have k := e5 z
    obtain ⟨wf, we⟩ := fai_w k.2 z
    refine H _ ?_ w
    rw [gT_f z]
    refine ⟨c.pw w, TS.pw (T := T) (by rw [show ai (faiF r) = ai r from rfl, TE_fai.2.1]; exact e2) w, ⟨?_, ?_, ?_, ?_, ?_⟩, ?_, fun y => absurd y wf⟩
    · rw [fFI_same, k.1.2.1, we]
    · rw [fI_setFI, if_neg (by omega)]; exact p2
    · rw [fI_setFI, if_neg (by omega)]; exact p3
    · rw [fI_setFI, if_neg (by omega)]; exact p4
    · exact p5
    · obtain ⟨p, q1, q2⟩ := e4
      exact ⟨p, by rw [fI_setFI, if_neg (by omega)]; exact q1, q2⟩
/-- the reader's tape goes on -/
theorem p_adv (E : ES h T U e0 m r D l il so) (hr : gi r 1452 = -1) (hs : ¬ gi r 1451 = -1) (H : ∀ h', ES h' T U e0 m (advF r) D l il so → PW T U h h' → Q none h') : wp (d + 5) K_X7_advance 0 [] [(0, vr (some T))] h Q := by
  obtain ⟨c, e2, ⟨p1, p2, p3, p4, p5⟩, ⟨p, q1, q2, q3⟩, e5⟩ := E
  obtain ⟨K, R⟩ := e5 hr
  refine p_advance e2 R.1 (K.2.2.2.1 hs) (fun h' w K' => ?_)
  have w' : PW T U h h' := w.pw
  have c3 := c.2.2.1
  have ct := c.2.1
  have no : ∀ g, g = 702 ∨ g = 703 ∨ g = 704 ∨ g = 10705 ∨ g = 30706 → ¬ ET T g (U + 9) := fun g hg z => by
    have := z.1; omega
  refine H h' ⟨c.pw w', K'.1, ⟨?_, ?_, ?_, ?_, ?_⟩, ?_, fun _ => ⟨K', RT_adv R.1⟩⟩ w'
  · rw [w.1.fI c3 (no _ (by omega)), gi_adv]; exact p1
  · rw [w.1.fI c3 (no _ (by omega))]; exact p2
  · rw [w.1.fI c3 (no _ (by omega))]; exact p3
  · rw [w.1.fI c3 (no _ (by omega))]; exact p4
  · rw [w.1.fP c3 (no _ (by omega))]; exact p5
  · have RA := RT_adv R.1
    obtain ⟨⟨pp, nn, hp, hn, l1, l2⟩, ⟨q, e, l, -⟩, -⟩ := RA
    rw [hp, tn_nI (by omega)] at l
    have aq := adv_q R.1
    have eq : qN (advF r) = q := by unfold qN; rw [e, tn_nI (by omega)]
    obtain ⟨-, ⟨q0, e0', l0, -⟩, -⟩ := R
    have k1 := K.2.1
    rw [q1, e0'] at k1
    obtain ⟨⟨p', n', hp', hn', l1', l2'⟩, -⟩ := (e5 hr).2
    rw [hp', tn_nI (by omega)] at l0 aq
    have := congrArg tn k1
    rw [tn_nI (by omega), tn_nI (by omega)] at this
    exact ⟨q, K'.2.1.trans e, by omega, by omega⟩
theorem p_take (E : ES h T U e0 m r D l il so) {t : Nat} (ht : t < 28) (H : ∀ h', ES h' T U e0 m (gT (decide (tkn r = t)) r) D l il so → PW T U h h' → Q none h') : wp (d + 6) K_X5_take 0 [] [(0, vr (some (U + 9))), (1, vi (nI t))] h Q := by
  have c9 := E.1.2.2.2.2.2.2.2.2.1
  have c10 := E.1.2.2.2.2.2.2.2.2.2.1
  have tT : tg h T = 10 := E.2.1.1
  rw [bk_X5_take_0, p_at E (by omega)]
  refine ⟨c9, ?_⟩
  simp only [psh, bk_X5_take_3, b2i_0]
  refine ⟨fun z => ?_, fun z => ?_⟩
  · rw [bk_X5_take_8]
    refine ⟨c9, p_refuse E (fun h' E' w => ?_)⟩
    simp only [psh, bk_X5_take_10]
    refine H h' ?_ w
    by_cases y : gi r 1452 = -1
    · have : decide (tkn r = t) = false := by simpa [y] using z
      rw [this]; exact E'
    · rw [gT_w y] at E' ⊢; exact E'
  · have z := bf z
    rw [Bool.and_eq_true, decide_eq_true_eq, decide_eq_true_eq] at z
    rw [bk_X5_take_4, c10, nn_some]
    refine ⟨c9, tT, p_adv E z.1 (fun y => ?_) (fun h' E' w => ?_)⟩
    · have := (tk_sign (E.2.2.2.2 z.1).2 (c := -1) (by decide)).mpr y
      rw [z.2, show sgT (-1) = 28 from rfl] at this
      omega
    · simp only [psh, bk_X5_take_7, bk_X5_take_10]
      refine H h' ?_ w
      rw [decide_eq_true z.2, gT_t z.1]; exact E'
theorem p_skip (E : ES h T U e0 m r D l il so) {t : Nat} (ht : t < 28) (H1 : gi r 1452 = -1 → tkn r = t → ∀ h', ES h' T U e0 m (advF r) D l il so → PW T U h h' → Q (some (vi 1)) h') (H2 : (gi r 1452 = -1 → ¬ tkn r = t) → Q (some (vi 0)) h) : wp (d + 6) K_X5_skip 0 [] [(0, vr (some (U + 9))), (1, vi (nI t))] h Q := by
  have c9 := E.1.2.2.2.2.2.2.2.2.1
  have c10 := E.1.2.2.2.2.2.2.2.2.2.1
  have tT : tg h T = 10 := E.2.1.1
  rw [bk_X5_skip_0, p_at E (by omega)]
  refine ⟨c9, ?_⟩
  simp only [psh, bk_X5_skip_3, b2i_0]
  refine ⟨fun z => ?_, fun z => ?_⟩
  · have z := bf z
    rw [Bool.and_eq_true, decide_eq_true_eq, decide_eq_true_eq] at z
    rw [bk_X5_skip_6, c10, nn_some]
    refine ⟨c9, tT, p_adv E z.1 (fun y => ?_) (fun h' E' w => ?_)⟩
    · have := (tk_sign (E.2.2.2.2 z.1).2 (c := -1) (by decide)).mpr y
      rw [z.2, show sgT (-1) = 28 from rfl] at this
      omega
    · simp only [psh, bk_X5_skip_9]
      exact ⟨Or.inr trivial, H1 z.1 z.2 h' E' w⟩
  · rw [bk_X5_skip_4]
    refine ⟨Or.inl rfl, H2 (fun y1 y2 => z ?_)⟩
    simp [y1, y2]
theorem p_takeName (E : ES h T U e0 m r D l il so) (H : ∀ h' x, ES h' T U e0 m (gT (decide (tkn r = 27)) r) D l il so → PW T U h h' → (gi r 1452 = -1 → tkn r = 27 → x = conv (gl r 21450) ∧ WV (gl r 21450)) → Q (some (vl x)) h') : wp (d + 6) K_X5_takeName 0 [] [(0, vr (some (U + 9)))] h Q := by
  have c9 := E.1.2.2.2.2.2.2.2.2.1
  have c10 := E.1.2.2.2.2.2.2.2.2.2.1
  have tT : tg h T = 10 := E.2.1.1
  have val : gi r 1452 = -1 → tkn r = 27 → fJ h 20906 T = conv (gl r 21450) ∧ WV (gl r 21450) := fun y1 y2 => by
    obtain ⟨K, R⟩ := E.2.2.2.2 y1
    have z : gi r 1451 = 0 := by
      by_cases z : gi r 1451 = 0
      · exact z
      · unfold tkn at y2
        rw [if_neg z] at y2
        rcases sgT_cs (gi r 1451) with ⟨e, f⟩ | ⟨e, f⟩ | ⟨e, f⟩ | ⟨e, f⟩ | ⟨e, f⟩ | ⟨e, f⟩ | ⟨e, f⟩ | ⟨e, f⟩ | f <;> omega
    exact ⟨K.2.2.2.2 z, (R.2.2.1 z).1⟩
  rw [bk_X5_takeName_0, c10, nn_some, show vi 27 = vi (nI 27) from rfl, p_at E (by omega)]
  refine ⟨c9, tT, c9, ?_⟩
  simp only [psh, bk_X5_takeName_7, b2i_0]
  refine ⟨fun z => ?_, fun z => ?_⟩
  · rw [bk_X5_takeName_12]
    refine ⟨c9, p_refuse E (fun h' E' w => ?_)⟩
    simp only [psh, bk_X5_takeName_14]
    refine H h' _ ?_ w val
    by_cases y : gi r 1452 = -1
    · have : decide (tkn r = 27) = false := by simpa [y] using z
      rw [this]; exact E'
    · rw [gT_w y] at E' ⊢; exact E'
  · have z := bf z
    rw [Bool.and_eq_true, decide_eq_true_eq, decide_eq_true_eq] at z
    rw [bk_X5_takeName_8, c10, nn_some]
    refine ⟨c9, tT, p_adv E z.1 (fun y => ?_) (fun h' E' w => ?_)⟩
    · have := (tk_sign (E.2.2.2.2 z.1).2 (c := -1) (by decide)).mpr y
      rw [z.2, show sgT (-1) = 28 from rfl] at this
      omega
    · simp only [psh, bk_X5_takeName_11, bk_X5_takeName_14]
      refine H h' _ ?_ w val
      rw [decide_eq_true z.2, gT_t z.1]; exact E'
end
theorem TS.fy {E : Nat → Nat → Prop} {h h' : AH} {T n U : Nat} {t : Nat → Int32} (a : TS h T t n) (V : SGV h U) (x : FX E h h') (n1 : ¬ E 30900 T) (n2 : ¬ E 30901 T) (n3 : ¬ E 902 T) (n4 : ¬ E 90001 (T + 1)) (n5 : ¬ E 90001 (T + 2)) (m1 : ∀ y, ¬ E 39800 y ∧ ¬ E 36900 y ∧ ¬ E 46901 y ∧ ¬ E 9901 y ∧ ¬ E 9900 y) (m2 : ∀ y, y < U → ¬ E 90001 y) : TS h' T t n := by
  obtain ⟨a1, a2, a3, a4, a5, a6, a7, a8, a9, a10, a11, a12, s, v, a13⟩ := a
  obtain ⟨s', v', w1, -, w3, w4⟩ := V
  have es : s' = s := by have := w1.symm.trans a13.1; cases this; rfl
  rw [es] at w3
  have ev : v' = v := by have := w3.symm.trans a13.2.2.1; cases this; rfl
  rw [ev] at w4
  have l0 : T < tp h := by omega
  have l1 : T + 1 < tp h := by omega
  refine ⟨by rw [x.tg l0]; exact a1, Nat.lt_of_lt_of_le a2 x.1, by rw [x.fP l0 n1]; exact a3, by rw [x.tg l1]; exact a4, by rw [x.ln l1]; exact a5, by rw [x.fP l0 n2]; exact a6, by rw [x.tg a2]; exact a7, by rw [x.ln a2]; exact a8, by rw [x.fI l0 n3]; exact a9, a10, fun i hi => by rw [x.aI l1 n4]; exact a11 i hi, fun k hk => by rw [x.aJ a2 n5]; exact a12 k hk, s, v, a13.fx x (fun y => (m1 y).1) (fun y => (m1 y).2.1) (fun y => (m1 y).2.2.1) (fun y => (m1 y).2.2.2.1) (m2 v w4) (fun y => (m1 y).2.2.2.2)⟩
/-- only new things have changed -/
def NWE (U : Nat) (E : Nat → Nat → Prop) : Prop := ∀ g x, E g x → U + 10 ≤ x ∧ (g / 100 % 100 = 2 ∨ g / 100 % 100 = 3 ∨ g / 100 % 100 = 6 ∨ g / 100 % 100 = 8 ∨ g / 100 % 100 = 12 ∨ g = 90001)
theorem CXT.nw {E : Nat → Nat → Prop} {h h' : AH} {T U e0 : Nat} (c : CXT h T U e0) (x : FX E h h') (N : NWE U E) : CXT h' T U e0 :=
  c.fx x (fun y => ⟨fun z => by have := N _ _ z; omega, fun z => by have := N _ _ z; omega, fun z => by have := N _ _ z; omega, fun z => by have := N _ _ z; omega, fun z => by have := N _ _ z; omega⟩) ⟨fun z => by have := N _ _ z; omega, fun z => by have := N _ _ z; omega, fun z => by have := N _ _ z; omega, fun z => by have := N _ _ z; omega⟩ ⟨fun z => by have := N _ _ z; omega, fun z => by have := N _ _ z; omega⟩
/-- the state stays, whatever happens to new things and to the lists -/
theorem ES.fz {E : Nat → Nat → Prop} {h h' : AH} {T U e0 m : Nat} {r : RV} {D l : Nat} {il : Bool} {so : Option Nat} (s : ES h T U e0 m r D l il so) (x : FX E h h') (N : ∀ g y, E g y → U + 6 ≤ y ∧ ¬ y = U + 9 ∧ g / 100 % 100 < 20 ∨ g = 90003) : ES h' T U e0 m r D l il so := by
  obtain ⟨c, e2, ⟨p1, p2, p3, p4, p5⟩, ⟨p, q1, q2⟩, e5⟩ := s
  have c3 := c.2.2.1
  have ct := c.2.1
  have lT : T < tp h := by omega
  have nT : ∀ g, ¬ g = 90003 → ¬ E g T := fun g hg z => by have := N _ _ z; omega
  have n9 : ∀ g, ¬ g = 90003 → ¬ E g (U + 9) := fun g hg z => by have := N _ _ z; omega
  have nS : ∀ y, ¬ E 39800 y ∧ ¬ E 36900 y ∧ ¬ E 46901 y ∧ ¬ E 9901 y ∧ ¬ E 9900 y := fun y => ⟨fun z => by have := N _ _ z; omega, fun z => by have := N _ _ z; omega, fun z => by have := N _ _ z; omega, fun z => by have := N _ _ z; omega, fun z => by have := N _ _ z; omega⟩
  have ts : ∀ (t : Nat → Int32) n, TS h T t n → TS h' T t n := fun t n a => a.fy c.1.2 x (nT _ (by omega)) (nT _ (by omega)) (nT _ (by omega)) (fun z => by have := N _ _ z; omega) (fun z => by have := N _ _ z; omega) nS (fun y hy z => by have := N _ _ z; omega)
  refine ⟨c.fx x (fun y => ⟨fun z => by have := N _ _ z; omega, (nS y).2.2.2.2, (nS y).2.2.2.1, (nS y).1, (nS y).2.1⟩) ⟨fun z => by have := N _ _ z; omega, fun z => by have := N _ _ z; omega, fun z => by have := N _ _ z; omega, fun z => by have := N _ _ z; omega⟩ ⟨n9 _ (by omega), n9 _ (by omega)⟩, ts _ _ e2, ⟨?_, ?_, ?_, ?_, ?_⟩, ⟨p, by rw [x.fI lT (nT _ (by omega))]; exact q1, q2⟩, fun z => ?_⟩
  · rw [x.fI c3 (n9 _ (by omega))]; exact p1
  · rw [x.fI c3 (n9 _ (by omega))]; exact p2
  · rw [x.fI c3 (n9 _ (by omega))]; exact p3
  · rw [x.fI c3 (n9 _ (by omega))]; exact p4
  · rw [x.fP c3 (n9 _ (by omega))]; exact p5
  · obtain ⟨⟨k1, k2, k3, k4, k5⟩, R⟩ := e5 z
    refine ⟨⟨ts _ _ k1, ?_, ?_, fun y => ?_, fun y => ?_⟩, R⟩
    · rw [x.fI lT (nT _ (by omega))]; exact k2
    · rw [x.fI lT (nT _ (by omega))]; exact k3
    · rw [x.fI lT (nT _ (by omega))]; exact k4 y
    · rw [x.fJ lT (nT _ (by omega))]; exact k5 y
theorem ES.nw {E : Nat → Nat → Prop} {h h' : AH} {T U e0 m : Nat} {r : RV} {D l : Nat} {il : Bool} {so : Option Nat} (s : ES h T U e0 m r D l il so) (x : FX E h h') (N : NWE U E) : ES h' T U e0 m r D l il so :=
  s.fz x (fun g y z => by have := N _ _ z; omega)
