/-! A text is read by the class, right or wrong, with the room it takes -/
def low (h : AH) (A B : Nat) : AH := (h.1, h.2.1, h.2.2.1, h.2.2.2.1, h.2.2.2.2.1, h.2.2.2.2.2.1, h.2.2.2.2.2.2.1, h.2.2.2.2.2.2.2.1, h.2.2.2.2.2.2.2.2.1, A, B)
theorem low_shf {h : AH} {A B x y : Nat} (h1 : rc h = A + x) (h2 : rs h = B + y) : shf (low h A B) x y = h := by
  show (h.1, h.2.1, h.2.2.1, h.2.2.2.1, h.2.2.2.2.1, h.2.2.2.2.2.1, h.2.2.2.2.2.2.1, h.2.2.2.2.2.2.2.1, h.2.2.2.2.2.2.2.2.1, A + x, B + y) = h
  rw [← h1, ← h2]
  rfl
theorem FX.low {h : AH} {E : Nat → Nat → Prop} (A B : Nat) : FX E h (low h A B) := ⟨Nat.le_refl _, fun _ _ => ⟨rfl, rfl⟩, fun _ _ _ _ => ⟨rfl, rfl, rfl⟩, fun _ _ _ _ => ⟨rfl, rfl⟩, fun _ _ _ _ => rfl⟩
theorem FX.shf {h : AH} {E : Nat → Nat → Prop} (A B : Nat) : FX E h (shf h A B) := ⟨Nat.le_refl _, fun _ _ => ⟨rfl, rfl⟩, fun _ _ _ _ => ⟨rfl, rfl, rfl⟩, fun _ _ _ _ => ⟨rfl, rfl⟩, fun _ _ _ _ => rfl⟩
theorem TS.no {h h' : AH} {T n : Nat} {t : Nat → Int32} (a : TS h T t n) (x : FX (fun _ _ => False) h h') : TS h' T t n := a.fx x (fun z => z) (fun z => z) (fun z => z) (fun z => z) (fun z => z) (fun _ z => z) (fun _ z => z) (fun _ z => z) (fun _ z => z) (fun _ z => z.elim) (fun _ _ _ z => z) (fun _ z => z)
theorem run_room {d k i : Nat} {st : List V} {ls : Ls} {h : AH} {Q : Option V → AH → Prop} (A B : Nat) {x y : Nat} (h1 : rc h = A + x) (h2 : rs h = B + y) (H : wp d k i st ls (low h A B) (fun v h0 => Q v (shf h0 x y))) : wp d k i st ls h Q := by
  have q := shf_run x y H
  rw [low_shf h1 h2] at q
  exact wp_mono _ _ _ _ _ _ _ _ (fun v h' ⟨h0, q1, q2⟩ => by rw [q2]; exact q1) q
theorem low_rc (h : AH) (A B : Nat) : rc (low h A B) = A ∧ rs (low h A B) = B ∧ tp (low h A B) = tp h := ⟨rfl, rfl, rfl⟩
theorem shf_rc (h : AH) (x y : Nat) : rc (shf h x y) = rc h + x ∧ rs (shf h x y) = rs h + y ∧ tp (shf h x y) = tp h := ⟨rfl, rfl, rfl⟩
/-- what reading may change of what was there -/
def ERE (T a U e0 g y : Nat) : Prop := ERD T a U e0 g y ∨ ET T g y
section
variable {d : Nat} {h : AH} {Q : Option V → AH → Prop} {a T W Uo e0 n w nR : Nat} {r R : RV} {C L : Nat → Int32}
theorem c_read (hd : 790 ≤ d) (O : COB h a T W Uo) (S : STK h e0) (ST : ∀ i, i < 4 → ∃ s v, STR h i (lenS.getD i 0) (bytS.getD i []) s v ∧ v < tp h) (TT : TS h T (ai r 1) n) (hn : gi r 1401 = nI n) (n2 : n ≤ 2000) (hw : w < 2) (gR : goN nR (rdI r w) R) (nr : ¬ rng R) (eqs : gi R 1452 = -1 → ∀ G, TRE R G (nmN R) → ∀ t, SRG R t → L t = b2i (lvS (pcl R C L) (wN R) (nsC R) t) ∧ C t = canS (pcl R C L) (wN R) (nkN R) (nmN R) (nsC R) t) (r1 : 136010 ≤ rc h) (r2 : 1160090 ≤ rs h)
    (HW : ¬ gi R 1452 = -1 → ∀ h', COB h' a T W Uo → TS h' T (ai r 1) 0 → FX (ERE T a (tp h) e0) h h' → rc h ≤ rc h' + 43 * n + 890 → rs h ≤ rs h' + 256 * n + 2700 → Q (some (vi (-10 - gi R 1452))) h')
    (HR : gi R 1452 = -1 → gi R 1455 = 0 → gi R 1451 = -1 → RIL R → ∀ h' G fW par wk pk fS ks', UNF h' (tp h) (tp h') e0 R C L G (nmN R) fW (nkN R) par wk pk (nsC R) fS ks' → COB h' a T W (tp h) → ks'.Perm (jL (pcl R C L) (wN R) (nkN R) (nmN R) (nsC R)) → TS h' T (ai R 1) 0 → FX (ERE T a (tp h) e0) h h' → rc h ≤ rc h' + 43 * n + 890 → rs h ≤ rs h' + 256 * n + 2700 → Q (some (vi (nI (nmN R)))) h') : wp (d + 12) K_X11_read 0 [] [(0, vr (some a))] h Q := by
  obtain ⟨A0, er0, dr0, wv, k4, m0, s0, b0, len, -⟩ := ril_0 (w := w) hn n2 hw
  have XL : FX (fun _ _ => False) h (low h 136010 1160090) := FX.low _ _
  have OL := O.fx XL (fun _ _ z => z)
  have TL := TT.no XL
  have SL := S.fx XL (fun _ z => z) (fun _ z => z) (fun _ z => z)
  have STL : ∀ i, i < 4 → ∃ s v, STR (low h 136010 1160090) i (lenS.getD i 0) (bytS.getD i []) s v ∧ v < tp (low h 136010 1160090) := fun i hi => by
    obtain ⟨s, v, q1, q2⟩ := ST i hi
    exact ⟨s, v, q1.fx XL (fun _ z => z) (fun _ z => z) (fun _ z => z) (fun _ z => z) (fun z => z) (fun _ z => z), q2⟩
  obtain ⟨rcL, rsL, tpL⟩ := low_rc h 136010 1160090
  obtain ⟨x, hx⟩ : ∃ x, rc h = 136010 + x := ⟨rc h - 136010, by omega⟩
  obtain ⟨y, hy⟩ : ∃ y, rs h = 1160090 + y := ⟨rs h - 1160090, by omega⟩
  refine run_room 136010 1160090 hx hy ?_
  generalize low h 136010 1160090 = hl at *
  have ha : a < tp hl := OL.2.1
  have hW : W < tp hl := OL.2.2.2.2.2.2
  have tT : T + 2 < tp hl := TL.2.1
  refine p_read0 (R := R) (B := 16000) OL.1 ha OL.2.2.1 SL STL TL hn n2 hw (by omega) (by omega) (by omega) (by omega) (by omega) (fun h' hb r' nk' par' wk' pk' nm' fW' ns' fS' ks' B' G' n' gn e51 S' X' => ?_) (fun h' r' nm' fW' ns' fS' ks' B' n' gn bad E' L' c' X' => ?_)
  · -- right
    have e55 : gi r' 1455 = 0 := by rw [S'.1.1.d.1, S'.1.2.2]; rfl
    have nr' : ¬ rng r' := fun z => by
      rcases z.2 with z | z
      · exact z e55
      · exact z e51
    obtain ⟨eR, -⟩ := run_det gR nr gn nr'
    subst eR
    have er : gi R 1452 = -1 := S'.1.2.1
    have AR := S'.1.1
    have L0 := S'.2.2.2.1
    have cr := S'.2.2.2.2.2.1.1
    obtain ⟨ek, em, en⟩ := S'.2.2.2.2.1
    have q2000 := AR.q.2.1
    have lam0 := L0.lam
    have nX : ∀ g, g = 31300 ∨ g = 31301 ∨ g = 31302 → ¬ (ET T g a ∨ (g = 90003 ∧ a = e0)) := fun g hg z => by
      rcases z with z | z
      · unfold ET at z; omega
      · omega
    have O1 := OL.fx X' nX
    rw [ek, em, en] at S'
    rw [em, en] at L0
    refine c_right (C := C) (L := L) hd O1.1 ha O1.2.2.1 O1.2.2.2.1 O1.2.2.2.2.2.1 hW S' e51 (fun G TR t ht => eqs er G TR t ht) (by omega) (fun h2 ks2 N2 O2 pm2 TT2 XX2 rc2 rs2 lam2 => ?_)
    have nsb := nsb_en ⟨n', gn, er, e55, e51⟩ A0 (by unfold NSB; rw [s0, b0]; omega)
    unfold NSB at nsb
    rw [S'.1.2.2, Nat.add_zero] at nsb
    have n12 : nmN R ≤ 12 := N2.2.2.2.2.2.2.1.2.2.1
    have KE := N2.2.2.2.2.2.1.1
    have TR := N2.2.2.2.2.2.2.1.1
    have tl := S'.2.2.2.2.2.2.2.2 ⟨0, rfl, er, e55, e51⟩
    have ws := tl.2.2.2.2.2.2.1
    have len2 := jL_len2 (C := C) (L := L) TR KE n12 (fun m hm => (N2.2.2.2.2.2.2.2.2.2.1 m hm).1.2.2.2.2.2.2.2.2.2.2) nsb ws
    rw [← pm2.length_eq] at len2
    have qn : qN R ≤ n := by
      have g48 := (goN_q A0 gn er).2
      obtain ⟨⟨p, nn, hp, hn', l1, l2⟩, -⟩ := AR.1
      have q1 := AR.q.2.2.1
      rw [hp, tn_nI (by omega)] at q1
      rw [← g48, hn', tn_nI (by omega)] at len
      omega
    have XF : FX (fun _ _ => False) h2 (shf h2 x y) := FX.shf _ _
    obtain ⟨rcF, rsF, tpF⟩ := shf_rc h2 x y
    generalize shf h2 x y = h3 at *
    have N3 := N2.fx XF (fun _ _ _ _ z => z.elim) (fun _ z => z)
    rw [← tpF, tpL] at N3
    rw [tpL] at O2 XX2
    refine HR er e55 e51 AR h3 G' fW' par' wk' pk' fS' ks2 N3 (O2.fx XF (fun _ _ z => z)) pm2 (TT2.no XF) ?_ (by omega) (by omega)
    refine (XL.mono (fun _ _ z => z.elim)).tr ((X'.mono (fun g y z => ?_)).tr ((XX2.mono (fun _ _ z => Or.inl z)).tr (XF.mono (fun _ _ z => z.elim))))
    rcases z with z | z
    · exact Or.inr z
    · exact Or.inl (Or.inr (Or.inr (Or.inr z)))
  · -- wrong
    have nr' : ¬ rng r' := fun z => bad z.1
    obtain ⟨eR, -⟩ := run_det gR nr gn nr'
    subst eR
    have nX : ∀ g, g = 31300 ∨ g = 31301 ∨ g = 31302 → ¬ (ET T g a ∨ (g = 90003 ∧ a = e0)) := fun g hg z => by
      rcases z with z | z
      · unfold ET at z; omega
      · omega
    have O1 := OL.fx X' nX
    have lam1 := L'.lam
    have room1 := L'.room
    have k16 : ks'.length + B' ≤ 16000 := by
      obtain ⟨eW, eS, eM, -, -, -, -, -, -, -, -, r3, -⟩ := id L'
      exact r3
    rw [bk_X11_read_11, O1.2.2.1, nn_some]
    refine ⟨O1.1, E'.2.1.1, fun z => absurd z bad, fun _ => ?_⟩
    rw [bk_X11_read_19]
    have TT1 : TS (setFI h' 902 T 0) T (ai R 1) 0 := E'.2.1.cut (Nat.zero_le _)
    have x1 : FX (fun g y => y = T ∧ g = 902) h' (setFI h' 902 T 0) := FX.FI ⟨rfl, rfl⟩
    have O2 := O1.fx x1 (fun g hg z => by omega)
    have rcE : rc (setFI h' 902 T 0) = rc h' := rfl
    have rsE : rs (setFI h' 902 T 0) = rs h' := rfl
    generalize setFI h' 902 T 0 = h2 at *
    have XF : FX (fun _ _ => False) h2 (shf h2 x y) := FX.shf _ _
    obtain ⟨rcF, rsF, tpF⟩ := shf_rc h2 x y
    generalize shf h2 x y = h3 at *
    refine HW bad h3 (O2.fx XF (fun _ _ z => z)) ((TT1.cg (fun i hi => absurd hi (Nat.not_lt_zero _))).no XF) ?_ (by omega) (by omega)
    refine (XL.mono (fun _ _ z => z.elim)).tr ((X'.mono (fun g y z => ?_)).tr ((x1.mono (fun _ _ z => Or.inl (Or.inr (Or.inl z)))).tr (XF.mono (fun _ _ z => z.elim))))
    rcases z with z | z
    · exact Or.inr z
    · exact Or.inl (Or.inr (Or.inr (Or.inr z)))
end
