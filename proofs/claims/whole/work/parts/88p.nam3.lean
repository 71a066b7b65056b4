/-! throw, set: the contracts -/
theorem ffst_cg {p q : Nat → Bool} : ∀ m k, (∀ i, k ≤ i → i < k + m → p i = q i) → ffst p m k = ffst q m k := by
  intro m k H
  cases e : ffst q m k with
  | some j =>
    obtain ⟨g1, g2, g3, g4⟩ := ffst_some e
    exact ffst_is g1 g2 ((H j g1 g2).trans g3) (fun i h1 h2 => (H i h1 (by omega)).trans (g4 i h1 h2))
  | none => exact ffst_isn (fun i h1 h2 => (H i h1 h2).trans (ffst_none e i h1 h2))
theorem CHN.det {h : AH} {U : Nat} : ∀ {l l' o}, CHN h U l o → CHN h U l' o → l = l' := by
  intro l
  induction l with
  | nil =>
    intro l' o a b
    cases l' with
    | nil => rfl
    | cons x l' => rw [show o = none from a] at b; exact absurd b.1 (by intro z; cases z)
  | cons y l ih =>
    intro l' o a b
    cases l' with
    | nil => rw [show o = none from b] at a; exact absurd a.1 (by intro z; cases z)
    | cons x l' =>
      have e : y = x := Option.some.inj (a.1.symm.trans b.1)
      subst e
      rw [ih a.2.2.2.2.2.2 b.2.2.2.2.2.2]
theorem CHN.suf {h : AH} {U : Nat} : ∀ {l o}, CHN h U l o → ∀ a, a ∈ l → ∃ t, CHN h U (a :: t) (some a) ∧ t.length < l.length := by
  intro l
  induction l with
  | nil => intro o _ a m; cases m
  | cons b l ih =>
    intro o c a m
    rcases List.mem_cons.mp m with z | z
    · subst z
      exact ⟨l, ⟨rfl, c.2⟩, by simp⟩
    · obtain ⟨t, t1, t2⟩ := ih c.2.2.2.2.2.2 a z
      exact ⟨t, t1, by rw [List.length_cons]; omega⟩
theorem CHN.nd {h : AH} {U : Nat} : ∀ {l o}, CHN h U l o → l.Nodup := by
  intro l
  induction l with
  | nil => intro o _; exact List.nodup_nil
  | cons a l ih =>
    intro o c
    refine List.nodup_cons.mpr ⟨fun m => ?_, ih c.2.2.2.2.2.2⟩
    obtain ⟨t, t1, t2⟩ := CHN.suf c.2.2.2.2.2.2 a m
    have e := CHN.det t1 (l' := a :: l) ⟨rfl, c.2⟩
    have : t = l := (List.cons.inj e).2
    subst this
    omega
theorem map_inj {f : Nat → Nat} : ∀ {l : List Nat}, (l.map f).Nodup → ∀ a b, a ∈ l → b ∈ l → f a = f b → a = b := by
  intro l
  induction l with
  | nil => intro _ a b m; cases m
  | cons x l ih =>
    intro n a b ma mb e
    rw [List.map_cons] at n
    obtain ⟨n1, n2⟩ := List.nodup_cons.mp n
    rcases List.mem_cons.mp ma with za | za <;> rcases List.mem_cons.mp mb with zb | zb
    · rw [za, zb]
    · exact absurd (List.mem_map.mpr ⟨b, zb, by rw [← e, za]⟩) n1
    · exact absurd (List.mem_map.mpr ⟨a, za, by rw [e, zb]⟩) n1
    · exact ih n2 a b za zb e
theorem ENM_en {T U e0 b x : Nat} {sa : Option Nat} {sc : List Nat} {h h' : AH} (hb : b ≤ x) (hs : ∀ a, sa = some a → a ∈ sc) (X : FX (ENM T U e0 x sa) h h') : FX (EPn T U e0 b sc) h h' := X.mono (fun g y z => by
  rcases z with z | z | z | ⟨z1, z2⟩
  · exact Or.inl (EPW_a z)
  · exact Or.inl (Or.inr (Or.inl z))
  · exact Or.inr ⟨by omega, by omega⟩
  · exact Or.inl (Or.inr (Or.inr (Or.inl ⟨hs y z2, z1⟩))))
theorem ENM_set {T U e0 x y : Nat} {sa : Option Nat} (h : ¬ sa = some y) : ¬ ENM T U e0 x sa 10304 y := fun z => by
  rcases z with z | z | z | ⟨-, z⟩
  · exact EPW_no (by omega) z
  · exact ELs_no (by omega) z
  · omega
  · exact h z
theorem SCF.pw {T U : Nat} {h h' : AH} {R : RV} {G : Nat → Nat → Nat} {c : Nat} (S : SCF h R G c) (x : PW T U h h') (hl : G 2 c + 1 < tp h) : SCF h' R G c := by
  obtain ⟨s1, s2, s3, s4, s5⟩ := S
  refine ⟨?_, s2, ?_, ?_, s5⟩
  · rw [x.1.fJ (by omega) (EPW_no (by omega))]; exact s1
  · rw [x.1.fI (by omega) (EPW_no (by omega))]; exact s3
  · rw [x.1.fI (by omega) (EPW_no (by omega))]; exact s4
/-- there is credit -/
theorem cr_ge {r : RV} {B B0 : Nat} (A : RIL r) (cr : B0 ≤ B + 1 + 3 * qN r) (h : 3 * tn (gi r 1448) + 100 ≤ B0) : 90 ≤ B := by
  obtain ⟨⟨pp, nn, hp, hn', l1, l2⟩, ⟨q, e, l, -⟩, -⟩ := A.1
  rw [hp, tn_nI (by omega)] at l
  have : qN r = q := by unfold qN; rw [e, tn_nI (by omega)]
  rw [hn', tn_nI (by omega)] at h
  omega
/-- which kind a name means, for the class and for the reference -/
theorem meant_is {h3 : AH} {R r r' : RV} {G : Nat → Nat → Nat} {b : Nat} {sc : List Nat} {l : Nat} {il : Bool} {nk : Nat} {wk : Nat → Int64} {nm ns : Nat} {fS : Nat → Nat} (A : RIL r) (P : DPR h3 R G r b sc l il nk wk nm ns fS) (E : ENR r' R) (A' : RIL r') (ew : wN R = wN r) (enk : nkN r' = nkN r) {pn : Nat} (h1 : qN r < pn) (h2 : pn < qN r') {x : Int64} (hx : WV x) : ffst (fun k => decide (wk k = conv x)) nk 0 = kN R (wN R) (nkN R) x (nI pn) := by
  obtain ⟨⟨p1, p2⟩, -⟩ := P
  have w' : wN R = wN r' := (fk_en E A').1
  have q' := A'.q
  have q := A.q
  rw [ew, kl_here E A' (w := wN r) (nk := nk) (by omega) (by omega) h2 (fun k hk => ?_)]
  · refine ffst_cg _ _ (fun i _ hi => ?_)
    obtain ⟨w1, w2, -⟩ := p2 i (by omega)
    rw [w1]
    exact decide_eq_decide.mpr (conv_inj w2 hx)
  · have := (p2 k hk).2.2
    refine Int32.lt_trans this ?_
    rw [q.1, nI_ltI (by omega) (by omega)]
    exact h1
theorem sc_2 {D : Nat} : SC D 2 := by
  intro d h h3 Q T U e0 l il so sc r R nk par wk pk nm fW fS ks B B0 G hd A hr hD D0 d1 hl CH hsc K hs hn E3 L3 hU X3 t9 ⟨htp, ntg⟩ F3 cr hB0 DP H
  obtain ⟨d, rfl⟩ : ∃ j, d = j + 10 := ⟨d - 10, by omega⟩
  have c9 := E3.1.2.2.2.2.2.2.2.2.1
  obtain ⟨tk, k10⟩ := srt_kw hs (by omega)
  obtain ⟨p, g1, g2, g3⟩ := E3.pl
  have pq : gi r 1449 = nI p := by rw [← (E3.2.2.2.2 hr.1).1.2.1]; exact g1
  have cg := cr_ge A cr hB0
  obtain ⟨B, rfl⟩ : ∃ b, B = b + 1 := ⟨B - 1, by omega⟩
  rw [if_neg (by omega), bk_X5_takeStatement_47]
  refine ⟨c9, p_take E3 (by omega) (fun h4 E4 w4 => ?_)⟩
  rw [decide_eq_true tk, gT_t hr.1] at E4
  simp only [psh]
  refine st_sw (by omega) ?_
  have e : (if (2 : Nat) = 0 then 80 else swAt [68, 68, 68, 52, 57, 57, 72, 80, 63, 76] (2 - 1) 80) = 68 := rfl
  rw [e]
  have er : gi (advF r) 1452 = -1 := by rw [gi_adv]; exact hr.1
  have L4 := L3.pw w4
  have t94 : tg h4 (tp h) = 9 := by rw [w4.1.tg htp]; exact t9
  have htp4 : tp h < tp h4 := by rw [w4.2.1]; exact htp
  have F4 := F3.fx w4.1 htp (fun f hf => EPW_no (by omega))
  have X4 : FX (ENX T U e0 (tp h)) h h4 := (X3.mono (fun _ _ z => Or.inr z)).tr (w4.1.mono (fun _ _ z => Or.inl z))
  have CH4 : CHN h4 U sc so := CHN.ep CH (w4.ep (e0 := e0) (sc := sc))
  have K4 : KD h4 (U + 1) nk par wk pk := K.ep (w4.ep (e0 := e0) (sc := sc)) (by have := E3.1.2.1; omega) L3.e0 (fun a m => (hsc a m).2)
  have c94 := E4.1.2.2.2.2.2.2.2.2.1
  rw [bk_X5_takeStatement_68]
  refine ⟨c94, nm_throw (d := d + 1) E4 CH4 K4 L4 hU htp4 t94 F4 rfl rfl (fun h5 y pn ks5 v' E5 L5 X5 F5 hv v6 pp p0 pl val hno hso => ?_)⟩
  simp only [psh]
  have t95 : tg h5 (tp h) = 9 := by rw [X5.tg htp4]; exact t94
  have htp5 : tp h < tp h5 := by have := X5.1; omega
  have hpn : gi (advF r) 1449 = nI pn := by rw [← (E4.2.2.2.2 er).1.2.1]; exact pp
  refine sc_ntail (h3 := h3) (nk := nk) (wk := wk) (R := R) (G := G) (ks := ks) (k := 2) (by omega) (by omega) A hr hD D0 d1 hs hn (stp_nam A (by omega) d1 (by omega) hs hn) E5 L5 hU ((ENX_en X4).tr (ENM_en (Nat.le_refl _) (fun a z => by cases z) X5)) t95 htp5 F5 hv v6 p0 pl hpn val ⟨p, pq, by omega, by omega⟩ (by omega) DP (fun EN nmd EN' A' qq nkk v19 v24 v25 v21 lbn nbR ew => ?_) hsc H
  have P := DP EN
  have P0 := P
  obtain ⟨p1', p2', p3, p4, p5, p6, p7, p8⟩ := P
  obtain ⟨y1, y2⟩ := val er nmd
  have sm := small A
  have fnd : sc.find? (fun a => decide (fJ h4 20303 a = y)) = (prS R (rsN r)).map (G 2) := by
    rw [prS_find v21 (by omega), v24, y1, p4]
    refine par_is (fun c m => (p5 c m).1.pw w4 ?_) y2
    have hm : G 2 c ∈ sc := by rw [p4]; exact List.mem_map.mpr ⟨c, m, rfl⟩
    have h1 := (hsc _ hm).1
    have h2 := X3.1
    omega
  have i2 : ai R 19 (rsN r) = 2 := v19
  have q1 : qN r < pn := by
    have n := (A.adv_q).2 (ne_end A.1 (by
      rw [kwx A.1 (by omega) tk]
      decide +kernel))
    have : qN (advF r) = pn := by unfold qN; rw [hpn, tn_nI (by omega)]
    omega
  have mt := meant_is A P0 EN' A' ew nkk q1 qq y2
  rw [← y1] at mt
  have m5 : mpS R (rsN r) = (match prS R (rsN r) with
    | none => lif (decide (kN R (wN R) (nkN R) (al R 24 (rsN r)) (ai R 25 (rsN r)) = none)) (keyN (tn (ai R 25 (rsN r))) 1 0)
    | some _ => []) := by rw [mpS_n v19 (by omega), if_pos rfl]; cases prS R (rsN r) <;> rfl
  refine ⟨?_, by rw [if_pos (Or.inl i2)]; exact fnd, ?_, fun c m => ?_⟩
  · cases z : prS R (rsN r) with
    | none =>
      rw [if_pos ⟨i2, rfl⟩, v24, v25, ← mt]
      exact (hno (by rw [fnd, z]; rfl)).1
    | some c =>
      rw [if_neg (fun w => by cases w.2)]
      exact (hso (by rw [fnd, z]; intro w; cases w)).1
  · rw [m5]
    cases z : prS R (rsN r) with
    | none =>
      simp only
      rw [v24, v25, ← mt, tn_nI (by omega)]
      exact (hno (by rw [fnd, z]; rfl)).2
    | some c =>
      simp only
      rw [(hso (by rw [fnd, z]; intro w; cases w)).2]
      exact CTK.rf
  · rw [stR_one, show decide (ai R 19 (rsN r) = 3) = false from decide_eq_false (by rw [i2]; decide), Bool.false_and, if_neg (by decide)]
    have hm : G 2 c ∈ sc := by rw [p4]; exact List.mem_map.mpr ⟨c, m, rfl⟩
    have hm2 := hsc _ hm
    rw [X5.fI (by omega) (ENM_set (by intro w; cases w))]
    exact X4.fI (by omega) (ENX_set (by omega))
