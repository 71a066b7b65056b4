/-! The turn that opens a catch -/
theorem nl_al {qc qw qa i : Nat} {sep : Int32} : ∀ f r q, ¬ q = qw → al (nlF qc qw qa i sep f r).1 q = al r q := by
  intro f
  induction f with
  | zero => intro r q _; rfl
  | succ f ih =>
    intro r q hq
    rw [nlF]
    have aq : al (nlS qc qw qa i (namF (advF r))) q = al r q := by
      funext j
      unfold nlS
      rw [al_tI, al_tI, al_tL, if_neg (fun z => hq z.1), al_nam, al_adv]
    split
    · rw [al_fai, al_adv]
    · split
      · rw [al_fai, al_adv]
      · split
        · rw [ih _ q hq, aq]
        · exact aq
theorem rc_0 {rc : RV} {D s n : Nat} (A : RIL rc) (ec : gi rc 1452 = -1) (g : gi rc 1451 = 125) (dc : dN rc = D + 1) (c32 : ai rc 32 s = nI n) (hn : n < 4) (cl : stpF rc = rcF (clA rc) s) (t18 : gl (clA rc) 21450 = 426836779880) : stpF rc = rcB (tI (advF (clA rc)) 36 (4 * s + n) 0) s (4 * s + n) ∧ MD rc D (1 + 1) (rsN rc) (tI (advF (clA rc)) 36 (4 * s + n) 0) ∧ ai (tI (advF (clA rc)) 36 (4 * s + n) 0) 36 (4 * s + n) = nI 0 ∧ (∀ q, ¬ q = 36 → ai (tI (advF (clA rc)) 36 (4 * s + n) 0) q = ai rc q) ∧ al (tI (advF (clA rc)) 36 (4 * s + n) 0) = al rc := by
  obtain ⟨a1, a2, a3, a4, -⟩ := cla_v A ec g dc
  have M := (md_cl A ec g dc).adv (ne_end a1.1 (by rw [t18]; decide))
  have e : ai (clA rc) 32 s = nI n := by rw [a3]; exact c32
  refine ⟨?_, MDtI M _ _ (by decide), by rw [ai_tI, if_pos ⟨rfl, rfl⟩]; rfl, fun q hq => by rw [ai_ne hq, ai_adv, a3], by rw [al_tI, al_adv, a4]⟩
  rw [cl]
  unfold rcF
  rw [e, if_neg, tn_nI (by omega)]
  intro z
  have := congrArg tn z
  rw [tn_nI (by omega)] at this
  have : n = 4 := this
  omega
theorem rc_3 {rc Y : RV} {D s n k : Nat} (M : MD rc D (1 + 1) (rsN rc) Y) (st : stpF rc = rcB Y s (4 * s + n)) (h36 : ai Y 36 (4 * s + n) = nI 0) (yq : ∀ q, ¬ q = 36 → ai Y q = ai rc q) (yl : al Y = al rc) (c32 : ai rc 32 s = nI n) (hn : n < 4) (y40 : gi Y 1451 = 40) (ok : (nlF 36 37 38 (4 * s + n) 124 5 Y).2 = true) (ck : ai (nlF 36 37 38 (4 * s + n) 124 5 Y).1 36 (4 * s + n) = nI k) (hk : k ≤ 4) (on : okN (nlF 36 37 38 (4 * s + n) 124 5 Y).1 = true) (y41 : gi (namF (nlF 36 37 38 (4 * s + n) 124 5 Y).1) 1451 = 41) :
    ∃ X, stpF rc = tI (opF X 6 (nI s) (nI n)) 33 (4 * s + n) (opV X) ∧ MD rc D (2 * k + 4) (rsN rc) X ∧ TE (advF (namF (nlF 36 37 38 (4 * s + n) 124 5 Y).1)) X ∧ ai X 32 s = nI (n + 1) ∧ (∀ q, ¬ q = 32 → ¬ q = 35 → ¬ q = 36 → ¬ q = 38 → ai X q = ai rc q) ∧ ai X 36 = ai (nlF 36 37 38 (4 * s + n) 124 5 Y).1 36 ∧ ai X 38 = ai (nlF 36 37 38 (4 * s + n) 124 5 Y).1 38 ∧ al X 37 = al (nlF 36 37 38 (4 * s + n) 124 5 Y).1 37 ∧ al X 34 (4 * s + n) = gl (nlF 36 37 38 (4 * s + n) 124 5 Y).1 21450 ∧ ai X 35 (4 * s + n) = gi (nlF 36 37 38 (4 * s + n) 124 5 Y).1 1449 ∧ al X 30 = al rc 30 ∧ al X 31 = al rc 31 := by
  obtain ⟨-, i2⟩ := MD_nlf (qc := 36) (qw := 37) (qa := 38) (i := 4 * s + n) (sep := 124) (by decide) (by decide) (by decide) (by decide) M (by rw [y40]; decide) h36
  obtain ⟨N3, -, -, -⟩ := i2 ok
  rw [ck, tn_nI (by omega)] at N3
  obtain ⟨-, kp, -⟩ := nl_keep (qc := 36) (qw := 37) (qa := 38) (i := 4 * s + n) (sep := 124) (by decide) (by decide) 5 Y
  have kl := nl_al (qc := 36) (qw := 37) (qa := 38) (i := 4 * s + n) (sep := 124) 5 Y
  have e0 : stpF rc = rcC (nlF 36 37 38 (4 * s + n) 124 5 Y).1 s (4 * s + n) := by
    rw [st]
    unfold rcB
    rw [if_pos y40, if_neg (by rw [ok]; decide)]
  generalize (nlF 36 37 38 (4 * s + n) 124 5 Y).1 = Z at *
  have N4 := N3.nam on
  have N5 : MD rc D (1 + 1 + 2 * k + 1) (rsN rc) (rcP (namF Z) (4 * s + n)) := MDtI (MDtL N4 _ _ _) _ _ (by decide)
  have gP : gi (rcP (namF Z) (4 * s + n)) 1451 = gi (namF Z) 1451 := by unfold rcP; rw [gi_tI, gi_tL]
  have N6 := N5.adv (by rw [gP, y41]; decide)
  have z32 : ai Z 32 s = nI n := by rw [kp 32 (by decide) (by decide), yq 32 (by decide)]; exact c32
  have p32 : ai (advF (rcP (namF Z) (4 * s + n))) 32 s = nI n := by
    rw [ai_adv]; unfold rcP; rw [ai_ne (by decide), ai_tL, ai_nam]; exact z32
  have pq : ∀ q, ¬ q = 35 → ai (advF (rcP (namF Z) (4 * s + n))) q = ai Z q := fun q hq => by
    rw [ai_adv]; unfold rcP; rw [ai_ne hq, ai_tL, ai_nam]
  have pl : ∀ q, ¬ q = 34 → al (advF (rcP (namF Z) (4 * s + n))) q = al Z q := fun q hq => by
    rw [al_adv]; unfold rcP; rw [al_tI]; funext j; rw [al_tL, if_neg (fun z => hq z.1), al_nam]
  have p34 : al (advF (rcP (namF Z) (4 * s + n))) 34 (4 * s + n) = gl Z 21450 := by
    rw [al_adv]; unfold rcP; rw [al_tI, al_tL, if_pos ⟨rfl, rfl⟩, nam_w]
  have n54 : gi (namF Z) 1454 = gi Z 1449 := by unfold namF; rw [gi_adv]; rfl
  have p35 : ai (advF (rcP (namF Z) (4 * s + n))) 35 (4 * s + n) = gi Z 1449 := by
    rw [ai_adv]; unfold rcP; rw [ai_tI, if_pos ⟨rfl, rfl⟩, n54]
  have teP : TE (advF (namF Z)) (advF (rcP (namF Z) (4 * s + n))) := TE.adv (TE_tL.tr (TE_tI (by decide)))
  have e1 : stpF rc = rcE (advF (rcP (namF Z) (4 * s + n))) s (4 * s + n) := by
    rw [e0]
    unfold rcC
    rw [if_neg (by rw [on]; decide)]
    unfold rcD
    rw [if_pos y41]
  generalize advF (rcP (namF Z) (4 * s + n)) = P at *
  have v1 : ai P 32 s + 1 = nI (n + 1) := by rw [p32, lt1, nI_add]
  have cv : cnt (ai P 32 s + 1) 4 := by
    rw [v1]
    exact ⟨by rw [tn_nI (by omega)], by rw [tn_nI (by omega)]; omega⟩
  refine ⟨rcU P s, ?_, (MD_t32 N6 cv).le (by omega), teP.tr (TE_tI (by decide)), ?_, fun q h1 h2 h3 h4 => ?_, ?_, ?_, ?_, ?_, ?_, ?_, ?_⟩
  · rw [e1]
    unfold rcE
    rw [v1, show nI (n + 1) - 1 = nI n by rw [lt1, pk_sub (by omega), show n + 1 - 1 = n by omega]]
  · unfold rcU; rw [ai_tI, if_pos ⟨rfl, rfl⟩]; exact v1
  · unfold rcU; rw [ai_ne h1, pq q h2, kp q h3 h4, yq q h3]
  · unfold rcU; rw [ai_ne (by decide), pq 36 (by decide)]
  · unfold rcU; rw [ai_ne (by decide), pq 38 (by decide)]
  · unfold rcU; rw [al_tI, pl 37 (by decide)]
  · unfold rcU; rw [al_tI]; exact p34
  · unfold rcU; rw [ai_ne (by decide)]; exact p35
  · unfold rcU; rw [al_tI, pl 30 (by decide), kl 30 (by decide), yl]
  · unfold rcU; rw [al_tI, pl 31 (by decide), kl 31 (by decide), yl]
/-- what may change while a catch's head is read -/
def ECT (T U e0 y g z : Nat) : Prop := EPW T U g z ∨ ELs U e0 g z ∨ (y + 1 ≤ z ∧ z ≤ y + 4 ∧ (g = 603 ∨ g = 90001))
def CIP (h1 h : AH) (T U e0 : Nat) (sc : List Nat) (so : Option Nat) (nk : Nat) (par : Nat → Nat) (wk : Nat → Int64) (pk : Nat → Int32) (y : Nat) (v : Nat → Int32) (u : Nat → Int64) (p : Nat → Option Nat) : Prop := FX (ENX T U e0 y) h1 h ∧ CHN h U sc so ∧ CO h U y so ∧ KD h (U + 1) nk par wk pk ∧ FO h 3 y v u p
theorem CIP.fx {h1 h h' : AH} {T U e0 : Nat} {sc : List Nat} {so : Option Nat} {nk : Nat} {par : Nat → Nat} {wk : Nat → Int64} {pk : Nat → Int32} {y : Nat} {v : Nat → Int32} {u : Nat → Int64} {p : Nat → Option Nat} (c : CIP h1 h T U e0 sc so nk par wk pk y v u p) (x : FX (ECT T U e0 y) h h') (hT : T < U) (he : e0 < U) : CIP h1 h' T U e0 sc so nk par wk pk y v u p := by
  obtain ⟨c1, c2, c3, c4, c5⟩ := c
  have cy := c3.1
  have no : ∀ g z, g / 100 % 100 = 3 → z ≤ y ∨ ¬ g = 603 → ¬ ECT T U e0 y g z := fun g z hg hz w => by
    rcases w with w | w | w
    · exact EPW_no (by omega) w
    · exact ELs_no (by omega) w
    · omega
  have nk : ∀ z, z ≤ U + 5 → ¬ ECT T U e0 y 90001 z := fun z hz w => by
    rcases w with w | w | w
    · exact EPW_no (by omega) w
    · exact ELs_no (by omega) w
    · omega
  refine ⟨c1.tr (x.mono (fun g z w => ?_)), CHN.fx x (fun a => ⟨no _ _ (by omega) (by omega), no _ _ (by omega) (by omega)⟩) c2, c3.fx x ⟨no _ _ (by omega) (by omega), no _ _ (by omega) (by omega)⟩, c4.fx x (fun g w => ?_) (nk _ (by omega)) (nk _ (by omega)) (nk _ (by omega)) (nk _ (by omega)), c5.fx x (by have := c3.2.1; omega) (fun f hf => no _ _ hf (by omega))⟩
  · rcases w with w | w | w
    · exact Or.inl w
    · exact Or.inr (Or.inl w)
    · exact Or.inr (Or.inr ⟨by omega, by omega⟩)
  · rcases w with w | w | w
    · rcases w with w | w
      · have := w.1; omega
      · omega
    · rcases w with w | w <;> omega
    · omega
theorem PW.ct {T U e0 y : Nat} {h h' : AH} (a : PW T U h h') : FX (ECT T U e0 y) h h' := a.1.mono (fun _ _ z => Or.inl z)
theorem NW.ct {T U e0 y : Nat} {h h' : AH} (a : NW T U (y + 1) h h') : FX (ECT T U e0 y) h h' := a.1.mono (fun g z w => by
  rcases w with w | w
  · exact Or.inl w
  · unfold Jvm.Pilot.CThrowRulesLaw_law_r5179_b2991a.EN at w
    exact Or.inr (Or.inr (by omega)))
theorem CHN.hd {h : AH} {U : Nat} : ∀ {l o}, CHN h U l o → o = l.head? := by
  intro l o c
  cases l with
  | nil => exact c
  | cons a l => exact c.1
theorem LST.nn {h h' : AH} {T U e0 N nm ns B : Nat} {fW fS : Nat → Nat} {ks : List Nat} (l : LST h U e0 nm fW ns fS ks B) (w : NW T U N h h') : LST h' U e0 nm fW ns fS ks B := by
  have nn : ∀ g y, ENN T U N g y → ¬ g = 30101 ∧ ¬ g = 102 ∧ ¬ g = 90003 ∧ ¬ g = 0 := fun g y z => by
    rcases z with z | z
    · refine ⟨fun q => ?_, fun q => ?_, fun q => ?_, fun q => ?_⟩ <;> subst q <;> exact EPW_no (by omega) z
    · unfold Jvm.Pilot.CThrowRulesLaw_law_r5179_b2991a.EN at z
      omega
  exact LST.fx 0 l w.1 (fun L hL => ⟨fun z => (nn _ _ z).1 rfl, fun z => (nn _ _ z).2.1 rfl⟩) (fun e z => (nn _ _ z).2.2.1 rfl) (fun y z => (nn _ _ z).2.2.2 rfl) (by have := w.2.2.1; omega) (by have := w.2.2.2; omega)
