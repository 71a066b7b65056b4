/-! Walking: what both hold -/
def EWK (W U g y : Nat) : Prop := (y = W ∧ (g = 1102 ∨ g = 21101)) ∨ (g = 309 ∧ U + 10 ≤ y)
def KPW (r r' : RV) : Prop := (∀ q, q < 52 → ai r' q = ai r q) ∧ al r' = al r ∧ ∀ f, f = 1401 ∨ f = 1402 ∨ f = 1460 → gi r' f = gi r f
section
variable {r r1 r2 : RV}
theorem KPW.rf : KPW r r := ⟨fun _ _ => rfl, rfl, fun _ _ => rfl⟩
theorem KPW.tr (a : KPW r r1) (b : KPW r1 r2) : KPW r r2 := ⟨fun q h => (b.1 q h).trans (a.1 q h), b.2.1.trans a.2.1, fun f h => (b.2.2 f h).trans (a.2.2 f h)⟩
theorem KPW.s (a : KPW r r1) {f : Nat} (v : Int32) (h : ¬ (f = 1401 ∨ f = 1402 ∨ f = 1460)) : KPW r (sI r1 f v) := ⟨a.1, a.2.1, fun g hg => by rw [gi_sI, if_neg (by omega)]; exact a.2.2 g hg⟩
theorem KPW.l (a : KPW r r1) {f : Nat} (v : Int64) : KPW r (sL r1 f v) := a
theorem KPW.t (a : KPW r r1) {q i : Nat} (v : Int32) (h : 52 ≤ q) : KPW r (tI r1 q i v) := ⟨fun p hp => by rw [ai_ne (by omega)]; exact a.1 p hp, a.2.1, a.2.2⟩
theorem KPW.pus (a : KPW r r1) (b : Nat) : KPW r (pusF r1 b) := KPW.s (KPW.t (KPW.t a _ (by decide)) _ (by decide)) _ (by decide)
theorem KPW.thr (a : KPW r r1) (k : Int32) : KPW r (thrW r1 k) := KPW.s (KPW.s a _ (by decide)) _ (by decide)
theorem KPW.drw (a : KPW r r1) : KPW r (drwF r1) := a
theorem KPW.stp (a : KPW r r1) : KPW r (stpW r1) := by
  unfold stpW; split <;> exact KPW.s (KPW.s a _ (by decide)) _ (by decide)
theorem KPW.kN (a : KPW r r1) (w nk : Nat) (x : Int64) (v : Int32) : kN r1 w nk x v = kN r w nk x v := by
  unfold Jvm.Pilot.CThrowRulesLaw_law_r5179_b2991a.kN; rw [a.2.1, a.1 5 (by omega)]
theorem KPW.par (a : KPW r r1) (w nk k : Nat) : parN r1 w nk k = parN r w nk k := by
  unfold parN; rw [a.2.1, a.1 7 (by omega), a.kN]
theorem KPW.bv {w nk nm ns nb : Nat} (a : KPW r r1) (B : BV r w nk nm ns nb) : BV r1 w nk nm ns nb := by
  obtain ⟨⟨k1, k2, k3, k4, k5, k6⟩, T, Lv⟩ := B
  refine ⟨⟨by rw [a.2.2 1402 (by omega)]; exact k1, k2, by rw [a.1 2 (by omega)]; exact k3, k4, k5, fun k h1 h2 => by rw [a.par]; exact k6 k h1 h2⟩, ?_, ?_⟩
  · unfold TV at T ⊢
    rw [a.1 8 (by omega), a.1 18 (by omega), a.1 14 (by omega), a.1 29 (by omega), a.1 32 (by omega), a.1 36 (by omega), a.1 33 (by omega), a.1 23 (by omega), a.1 26 (by omega), a.1 27 (by omega), a.1 28 (by omega)]
    exact T
  · unfold LV at Lv ⊢
    rw [a.1 26 (by omega), a.1 27 (by omega), a.1 28 (by omega), a.1 32 (by omega), a.1 33 (by omega), a.1 21 (by omega), a.1 23 (by omega), a.1 44 (by omega), a.1 45 (by omega), a.1 41 (by omega), a.1 40 (by omega), a.1 42 (by omega), a.1 17 (by omega)]
    exact Lv
theorem KPW.blk {w ns : Nat} (a : KPW r r1) (B : BLK r w ns) : BLK r1 w ns := by
  unfold BLK at B ⊢
  rw [a.1 19 (by omega), a.1 26 (by omega), a.1 32 (by omega), a.1 33 (by omega)]
  exact B
theorem KPW.hah {w : Nat} {X : RV} (a : KPW r r1) (B : HAH w r X) : HAH w r1 X := fun q i h => by
  rw [a.1 q (by have := h.2; omega), a.2.1]; exact B q i h
end
/-- the reference's state fits the text that was read -/
def WCX (R : RV) (C L : Nat → Int32) (r : RV) : Prop := HAH (wN R) r (pcl R C L) ∧ BV r (wN R) (nkN R) (nmN R) (nsC R) (nbC R) ∧ BLK r (wN R) (nsC R)
theorem WCX.kp {R : RV} {C L : Nat → Int32} {r r1 : RV} (x : WCX R C L r) (a : KPW r r1) : WCX R C L r1 := ⟨a.hah x.1, a.bv x.2.1, a.blk x.2.2⟩
def CRG (R : RV) (c : Nat) : Prop := ∃ s i, c = 4 * s + i ∧ SRG R s ∧ i < tn (ai R 32 s) ∧ i < 4
/-- a value of each parameter in D -/
def PRM (R : RV) (G : Nat → Nat → Nat) (D : Nat → Prop) (h : AH) (r : RV) : Prop := ∀ c, D c → CRG R c ∧ fI h 309 (G 2 c) = ai r 56 c ∧ ∃ k, k < nkN R ∧ ai r 56 c = nI k
/-- both while walking -/
def WKS (h0 : AH) (W U : Nat) (R : RV) (G : Nat → Nat → Nat) (rB : RV) (D : Nat → Prop) (h : AH) (r : RV) : Prop := (FX (EWK W U) h0 h ∧ tp h = tp h0 ∧ rc h = rc h0 ∧ rs h = rs h0) ∧ KPW rB r ∧ (fJ h 21101 W = gl r 21464 ∧ fI h 1102 W = gi r 1465 ∧ ∃ k, gi r 1465 = nI k ∧ k ≤ 300) ∧ PRM R G D h r
/-- what stays while walking -/
def WEN (h0 : AH) (U V' e0 W : Nat) (R : RV) (C L : Nat → Int32) (G : Nat → Nat → Nat) (fW : Nat → Nat) (par : Nat → Nat) (wk : Nat → Int64) (pk : Nat → Int32) (fS : Nat → Nat) (ks : List Nat) (rB : RV) (dp : Nat → Nat) : Prop :=
  UNF h0 U V' e0 R C L G (nmN R) fW (nkN R) par wk pk (nsC R) fS ks ∧ (tg h0 W = 12 ∧ W < tp h0 ∧ fP h0 31100 W = some U ∧ (W < U ∨ V' ≤ W)) ∧ WCX R C L rB ∧ (∀ b, wN R * 1024 ≤ b → b < nbN R → dp b < 8 ∧ ∀ j, upB R b = some j → dp j < dp b)
def GW (R : RV) (r r' : RV) : Prop := ∃ n, gwN (wN R) (nkN R) (nmN R) (nsC R) (nbC R) n r r'
theorem GW.rf {R r : RV} : GW R r r := ⟨0, rfl⟩
theorem GW.tr {R r r1 r2 : RV} (a : GW R r r1) (b : GW R r1 r2) : GW R r r2 := by
  obtain ⟨n, a⟩ := a
  obtain ⟨m, b⟩ := b
  exact ⟨n + m, gwN_tr a b⟩
theorem GW.one {R r : RV} (h1 : wrn r) (h2 : WPR r (wN R) (nkN R) (nmN R) (nsC R) (nbC R)) : GW R r (wsF r (wN R) (nkN R) (nmN R)) := ⟨1, h1, h2, rfl⟩
section
variable {d : Nat} {h0 h : AH} {Q : Option V → AH → Prop} {U V' e0 W : Nat} {R rB r : RV} {C L : Nat → Int32} {G : Nat → Nat → Nat} {fW par : Nat → Nat} {wk : Nat → Int64} {pk : Nat → Int32} {fS : Nat → Nat} {ks : List Nat} {dp : Nat → Nat} {D : Nat → Prop}
theorem WEN.unf (N : WEN h0 U V' e0 W R C L G fW par wk pk fS ks rB dp) (S : WKS h0 W U R G rB D h r) : UNF h U V' e0 R C L G (nmN R) fW (nkN R) par wk pk (nsC R) fS ks := N.1.fx S.1.1 (fun g y h1 h2 z => by
  have := N.2.1.2.2.2
  unfold EWK at z
  omega) (fun y z => by unfold EWK at z; omega)
theorem WEN.w (N : WEN h0 U V' e0 W R C L G fW par wk pk fS ks rB dp) (S : WKS h0 W U R G rB D h r) : tg h W = 12 ∧ W < tp h ∧ fP h 31100 W = some U := by
  obtain ⟨-, ⟨w1, w2, w3, -⟩, -⟩ := N
  exact ⟨by rw [S.1.1.tg w2]; exact w1, by rw [S.1.2.1]; exact w2, by rw [S.1.1.fP w2 (fun z => by unfold EWK at z; omega)]; exact w3⟩
theorem WEN.x (N : WEN h0 U V' e0 W R C L G fW par wk pk fS ks rB dp) (S : WKS h0 W U R G rB D h r) : WCX R C L r := N.2.2.1.kp S.2.1
/-- only the reference goes on -/
theorem WKS.cg {r' : RV} (S : WKS h0 W U R G rB D h r) (k : KPW r r') (e1 : gl r' 21464 = gl r 21464) (e2 : gi r' 1465 = gi r 1465) (e3 : ∀ c, D c → ai r' 56 c = ai r 56 c) : WKS h0 W U R G rB D h r' := by
  obtain ⟨s1, s2, ⟨s3, s4, s5⟩, s6⟩ := S
  refine ⟨s1, s2.tr k, ⟨by rw [e1]; exact s3, by rw [e2]; exact s4, by rw [e2]; exact s5⟩, fun c hc => ?_⟩
  rw [e3 c hc]; exact s6 c hc
theorem wk_draw (N : WEN h0 U V' e0 W R C L G fW par wk pk fS ks rB dp) (S : WKS h0 W U R G rB D h r) {n : Int32} (h1 : 0 < n) (h2 : ¬ Int32.toInt64 n = 0) (H : ∀ h', WKS h0 W U R G rB D h' (drwF r) → Q (some (vi (drwV r n))) h') : wp d K_X9_draw 0 [] [(0, vr (some W)), (1, vi n)] h Q := by
  obtain ⟨w1, w2, w3⟩ := N.w S
  obtain ⟨⟨x, t1, t2, t3⟩, k, ⟨s3, s4, s5⟩, s6⟩ := S
  rw [bk_X9_draw_0, s3]
  refine ⟨w1, w1, fun _ => ?_, fun z => absurd h1 z⟩
  rw [bk_X9_draw_12]
  refine ⟨w1, h2, ?_⟩
  rw [bk_X9_draw_20, show fJ (setFJ h 21101 W (gl r 21464 * 6364136223846793005 + 1442695040888963407)) 21101 W = gl r 21464 * 6364136223846793005 + 1442695040888963407 by rw [fJ_setFJ, if_pos ⟨rfl, rfl⟩]]
  refine H _ ⟨⟨x.tr (FX.FJ (Or.inl ⟨rfl, Or.inr rfl⟩)), t1, t2, t3⟩, k, ⟨?_, s4, s5⟩, s6⟩
  rw [fJ_setFJ, if_pos ⟨rfl, rfl⟩]
  unfold drwF
  rw [gl_sL, if_pos rfl]
theorem wk_beg (N : WEN h0 U V' e0 W R C L G fW par wk pk fS ks rB dp) (S : WKS h0 W U R G rB D h r) (H1 : okW r = true → ∀ h', WKS h0 W U R G rB D h' (stpW r) → gi (stpW r) 11468 = 0 → Q (some (vi 1)) h') (H0 : okW r = false → WKS h0 W U R G rB D h (stpW r) → ¬ gi (stpW r) 11468 = 0 → Q (some (vi 0)) h) : wp d K_X9_begin 0 [] [(0, vr (some W))] h Q := by
  obtain ⟨w1, w2, w3⟩ := N.w S
  have S0 := S
  obtain ⟨⟨x, t1, t2, t3⟩, k, ⟨s3, s4, n, e, l⟩, s6⟩ := S
  rw [bk_X9_begin_0, s4, e]
  have e300 : (300 : Int32) = nI 300 := rfl
  refine ⟨w1, fun z => ?_, fun z => ?_⟩
  · rw [e300, nI_ltI (by omega) (by omega)] at z
    have ne : ¬ gi r 1465 = 300 := by
      rw [e, e300]; intro y
      have := congrArg tn y
      rw [tn_nI (by omega), tn_nI (by omega)] at this
      omega
    have ok : okW r = true := by unfold okW; rw [decide_eq_true ne]
    rw [bk_X9_begin_6, s4, e]
    refine ⟨w1, w1, Or.inr rfl, ?_⟩
    have es : stpW r = sI (sI r 11468 0) 1465 (gi r 1465 + 1) := by unfold stpW; rw [if_neg ne]
    have ek : gi (stpW r) 1465 = nI (n + 1) := by rw [es, gi_sI, if_pos rfl, e, lt1, nI_add]
    refine H1 ok _ ⟨⟨x.tr (FX.FI (Or.inl ⟨rfl, Or.inl rfl⟩)), t1, t2, t3⟩, k.stp, ⟨by rw [es]; exact s3, ?_, n + 1, ek, by omega⟩, fun c hc => ?_⟩ (by rw [es, gi_sI, if_neg (by decide), gi_sI, if_pos rfl])
    · rw [fI_setFI, if_pos ⟨rfl, rfl⟩, ek, lt1, nI_add]
    · have ea : ai (stpW r) 56 = ai r 56 := by rw [es]; rfl
      rw [ea, fI_setFI, if_neg (by omega)]
      exact s6 c hc
  · rw [e300, nI_ltI (by omega) (by omega)] at z
    have n3 : n = 300 := by omega
    have ok : okW r = false := by
      unfold okW
      rw [e, n3]; rfl
    have es : stpW r = sI (sI r 11468 1) 1465 (gi r 1465 + 0) := by unfold stpW; rw [if_pos (by rw [e, n3]; rfl)]
    rw [bk_X9_begin_4]
    refine ⟨Or.inl rfl, H0 ok (S0.cg (KPW.rf.stp) ?_ ?_ ?_) ?_⟩
    · rw [es]; rfl
    · rw [es, gi_sI, if_pos rfl, e, n3]; rfl
    · intro c _; rw [es]; rfl
    · rw [es, gi_sI, if_neg (by decide), gi_sI, if_pos rfl]; decide
end
