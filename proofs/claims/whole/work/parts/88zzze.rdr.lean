/-! A text is read: the right end -/
theorem TS.cut {h : AH} {T n : Nat} {t : Nat → Int32} (a : TS h T t n) {j : Nat} (hj : j ≤ n) : TS (setFI h 902 T (nI j)) T t j := by
  obtain ⟨a1, a2, a3, a4, a5, a6, a7, a8, a9, a10, a11, a12, s, v, a13⟩ := a
  refine ⟨a1, a2, a3, a4, a5, a6, a7, a8, if_pos ⟨rfl, rfl⟩, by omega, fun i hi => a11 i (by omega), a12, s, v, ?_⟩
  exact a13.fx (FX.FI (E := fun g y => g = 902 ∧ y = T) ⟨rfl, rfl⟩) (fun y z => absurd z.1 (by decide)) (fun y z => absurd z.1 (by decide)) (fun y z => absurd z.1 (by decide)) (fun y z => absurd z.1 (by decide)) (fun z => absurd z.1 (by decide)) (fun y z => absurd z.1 (by decide))
/-- what reading a text may change of what was there -/
def ERD (T a U e0 g y : Nat) : Prop := (U ≤ y ∧ g / 100 % 100 < 69) ∨ (y = T ∧ g = 902) ∨ (y = a ∧ g = 31302) ∨ (g = 90003 ∧ y = e0)
section
variable {d : Nat} {hb h : AH} {Q : Option V → AH → Prop} {a T W U e0 a0 B0 B : Nat} {R : RV} {G : Nat → Nat → Nat} {nm : Nat} {fW : Nat → Nat} {nk : Nat} {par : Nat → Nat} {wk : Nat → Int64} {pk : Nat → Int32} {ns : Nat} {fS : Nat → Nat} {ks : List Nat} {C L : Nat → Int32}
theorem eja_rd {g y : Nat} {h0 : AH} {J : Nat} (Bs : JBS h0 U a0 J R G nm fW) (z : EJA U e0 R G g y) : (U ≤ y ∧ g / 100 % 100 < 69) ∨ (g = 90003 ∧ y = e0) := by
  rcases z with (⟨z1, z2⟩ | ⟨z1, z2⟩) | ⟨z1, z2⟩ | ⟨z1, t, t1, t2, t3⟩ | ⟨z1, t, t1, t2, t3⟩
  · exact Or.inl ⟨by omega, by omega⟩
  · rcases z2 with z2 | z2
    · exact Or.inl ⟨by omega, by omega⟩
    · exact Or.inr ⟨z1, z2⟩
  · exact Or.inl ⟨by omega, by omega⟩
  · have := (Bs.hi t1).1
    exact Or.inl ⟨by omega, by omega⟩
  · have := (Bs.hi t1).2.1 t2
    exact Or.inl ⟨by omega, by omega⟩
theorem c_right (hd : 790 ≤ d) (ta : tg h a = 14) (ha : a < U) (pT : fP h 31300 a = some T) (pW : fP h 31301 a = some W) (tW : tg h W = 12) (hW : W < U) (S : TOS hb T U e0 R a0 B0 h R nk par wk pk nm fW ns fS ks B G) (e51 : gi R 1451 = -1) (eqs : ∀ G, TRE R G nm → ∀ t, SRG R t → L t = b2i (lvS (pcl R C L) (wN R) (nsC R) t) ∧ C t = canS (pcl R C L) (wN R) nk nm (nsC R) t) (hB : 3902 ≤ B)
    (H : ∀ h' ks', UNF h' U (tp h') e0 R C L G nm fW nk par wk pk ns fS ks' → COB h' a T W U → ks'.Perm (jL (pcl R C L) (wN R) nk nm (nsC R)) → TS h' T (ai R 1) 0 → FX (ERD T a U e0) h h' → rc h + LAM h U ≤ rc h' + LAM h' U + ks'.length + 1 → rs h + 4 * LAM h U ≤ rs h' + 4 * LAM h' U + ks'.length + 2 → LAM h' U ≤ 2 * (nm + ns + ks'.length) + 30 → Q (some (vi (nI nm))) h') : wp (d + 12) K_X11_read 11 [vi (-1)] [(0, vr (some a)), (1, vr (some U))] h Q := by
  obtain ⟨⟨A, er, dr⟩, E, K, Ls, ⟨ek, em, en⟩, ⟨cr, hB0⟩, ⟨ha0, ha1⟩, XB, TL⟩ := S
  have e55 : gi R 1455 = 0 := by rw [A.d.1, dr]; rfl
  have tl := TL ⟨0, rfl, er, e55, e51⟩
  have TR := tre_of A tl
  obtain ⟨tk, tf, tAD, tcb, tw, tct, tsum, tup⟩ := id tl
  have n12 : nmN R ≤ 12 := A.2.2.2.2.2.1.2
  have n4 : 4 ≤ nkN R := A.2.2.2.2.1.2
  have n120 := A.s.2
  have q2000 := A.q.2.1
  have hp := K.2.2.2.2.2.2.2.2.2.2
  have KE : KEQ R nk par := ⟨ek, K.2.2.2.2.2.2.2.1, by omega, fun k hk => by rw [(tk k hk).2.2.2.1, ← ek], fun k h1 h2 => by
    have := hp k h1 h2
    rw [(tk k h2).2.2.2.1, ← ek] at this
    exact this⟩
  obtain ⟨c1, c2, c3, c4, c5, c6, c7, c8, c9, c10, c11⟩ := id E.1
  have TT := E.2.1
  have room := Ls.room
  have lam := Ls.lam
  have lenJ : (jdL R C L G nk nm).length ≤ 3900 := by
    have p := List.perm_iff_count.mpr (fun x => (jL_split (C := C) (L := L) (nk := nk) TR ek em x).trans (List.count_append (a := x) (l₁ := jdL R C L G nk nm) (l₂ := flr (jkL R (wN R) (nkN R)) (nk - 4) 4 ++ (flr (mpW R) nm 0 ++ flr (mpS R) (nsC R) (wN R * 120)))).symm)
    have q := p.length_eq
    rw [List.length_append] at q
    have := jL_len (C := C) (L := L) TR KE (by omega) (fun m hm => (tw m hm).1.2.2.2.2.2.2.2.2.2.2.2) n120 (by omega)
    omega
  rw [bk_X11_read_11, pT, nn_some]
  refine ⟨ta, TT.1, fun _ => ?_, fun z => absurd rfl z⟩
  have TT1 : TS (setFI h 902 T 0) T (ai R 1) 0 := TT.cut (Nat.zero_le _)
  have SV1 : SGV (setFI h 902 T 0) U := c1.2
  have x1 : FX (fun g y => (y = T ∧ g = 902) ∨ (tp h ≤ y ∧ g / 100 % 100 < 69)) h (setFI h 902 T 0) := FX.FI (Or.inl ⟨rfl, rfl⟩)
  have tp1 : tp (setFI h 902 T 0) = tp h := rfl
  have rc1 : rc (setFI h 902 T 0) = rc h := rfl
  have rs1 : rs (setFI h 902 T 0) = rs h := rfl
  generalize setFI h 902 T 0 = h1 at *
  rw [bk_X11_read_23]
  refine ⟨by omega, by omega, ?_⟩
  have tJ : tg (newO h1 4 2) (tp h) = 5 := by rw [tg_newO, if_pos tp1.symm]
  have x2 : FX (fun g y => tp h ≤ y ∧ g / 100 % 100 < 69) h1 (newO h1 4 2) := FX.O (by decide)
  have tp2 : tp (newO h1 4 2) = tp h + 1 := by rw [tp_newO, tp1]
  have rc2 := rc_newO h1 4 2
  have rs2 := rs_newO h1 4 2
  rw [tp1]
  generalize newO h1 4 2 = h2 at *
  have X2 : FX (fun g y => (y = T ∧ g = 902) ∨ (tp h ≤ y ∧ g / 100 % 100 < 69)) h h2 := x1.tr (x2.mono (fun _ _ z => Or.inr z))
  have noS : ∀ g y, y < tp h → ¬ (y = T ∧ g = 902) → ¬ ((y = T ∧ g = 902) ∨ (tp h ≤ y ∧ g / 100 % 100 < 69)) := fun g y h1 h2 z => z.elim h2 (fun z => by omega)
  have tU2 : tg h2 U = 11 := by rw [X2.tg (by omega)]; exact c4
  have pU2 : fP h2 31000 U = some (U + 1) := by rw [X2.fP (by omega) (noS _ _ (by omega) (by omega))]; exact c5
  rw [bk_X11_read_24, nn_some, bk_X2_init_0, nn_some]
  have eP : fP (setFP h2 30400 (tp h) (some U)) 31000 U = some (U + 1) := by rw [fP_setFP, if_neg (by omega)]; exact pU2
  rw [eP]
  refine ⟨tJ, tJ, tU2, tJ, ?_⟩
  have x3 : FX (fun g y => tp h ≤ y ∧ g / 100 % 100 < 69) h2 (setFP (setFP h2 30400 (tp h) (some U)) 30401 (tp h) (some (U + 1))) := (FX.FP (f := 30400) (a := tp h) (v := some U) ⟨Nat.le_refl _, by decide⟩).tr (FX.FP ⟨Nat.le_refl _, by decide⟩)
  have tJ3 : tg (setFP (setFP h2 30400 (tp h) (some U)) 30401 (tp h) (some (U + 1))) (tp h) = 5 := tJ
  have pJ3 : fP (setFP (setFP h2 30400 (tp h) (some U)) 30401 (tp h) (some (U + 1))) 30400 (tp h) = some U := by rw [fP_setFP, if_neg (by omega), fP_setFP, if_pos ⟨rfl, rfl⟩]
  have pK3 : fP (setFP (setFP h2 30400 (tp h) (some U)) 30401 (tp h) (some (U + 1))) 30401 (tp h) = some (U + 1) := if_pos ⟨rfl, rfl⟩
  have tp3 : tp (setFP (setFP h2 30400 (tp h) (some U)) 30401 (tp h) (some (U + 1))) = tp h + 1 := tp2
  have rc3 : rc (setFP (setFP h2 30400 (tp h) (some U)) 30401 (tp h) (some (U + 1))) = rc h2 := rfl
  have rs3 : rs (setFP (setFP h2 30400 (tp h) (some U)) 30401 (tp h) (some (U + 1))) = rs h2 := rfl
  simp only [psh]
  generalize setFP (setFP h2 30400 (tp h) (some U)) 30401 (tp h) (some (U + 1)) = h3 at *
  have X13 : FX (fun g y => tp h ≤ y ∧ g / 100 % 100 < 69) h1 h3 := x2.tr x3
  have X3 : FX (fun g y => (y = T ∧ g = 902) ∨ (tp h ≤ y ∧ g / 100 % 100 < 69)) h h3 := X2.tr (x3.mono (fun _ _ z => Or.inr z))
  have no9 : ∀ g y, 69 ≤ g / 100 % 100 → ¬ ((y = T ∧ g = 902) ∨ (tp h ≤ y ∧ g / 100 % 100 < 69)) := fun g y h1 z => by
    rcases z with ⟨-, z⟩ | ⟨-, z⟩
    · rw [z] at h1; omega
    · omega
  have noU : ∀ g y, U ≤ y → y < tp h → ¬ ((y = T ∧ g = 902) ∨ (tp h ≤ y ∧ g / 100 % 100 < 69)) := fun g y h1 h2 => noS g y h2 (by omega)
  have C3 : CXT h3 T U e0 := E.1.fx X3 (fun y => ⟨no9 _ _ (by decide), no9 _ _ (by decide), no9 _ _ (by decide), no9 _ _ (by decide), no9 _ _ (by decide)⟩) ⟨noU _ _ (by omega) (by omega), noU _ _ (by omega) (by omega), noU _ _ (by omega) (by omega), noU _ _ (by omega) (by omega)⟩ ⟨noU _ _ (by omega) (by omega), noU _ _ (by omega) (by omega)⟩
  have kt4 := K.2.1
  have K3 : KD h3 (U + 1) nk par wk pk := K.fx X3 (fun g => noU _ _ (by omega) (by omega)) (noU _ _ (by omega) (by omega)) (noU _ _ (by omega) (by omega)) (noU _ _ (by omega) (by omega)) (noU _ _ (by omega) (by omega))
  have n3 : ∀ g y, g = 90003 ∨ g = 0 → y < tp h → ¬ ((y = T ∧ g = 902) ∨ (tp h ≤ y ∧ g / 100 % 100 < 69)) := fun g y h1 h2 => noS g y h2 (by omega)
  have L3 : LST h3 U e0 nm fW ns fS ks (B - 1) ∧ LAM h3 U = LAM h U ∧ tn (fI h3 102 (U + 8)) = ks.length := by
    obtain ⟨eW, eS, eM, aW, aS, ⟨fM, aM, bM⟩, ⟨t1, t2⟩, s, j, r1, r2, r3, r4⟩ := id Ls
    have aW3 := aW.fx X3 (noU _ _ (by omega) (by omega)) (noU _ _ (by omega) (by omega)) (Or.inr (n3 _ _ (Or.inl rfl) aW.2.2.2.1))
    have aS3 := aS.fx X3 (noU _ _ (by omega) (by omega)) (noU _ _ (by omega) (by omega)) (Or.inr (n3 _ _ (Or.inl rfl) aS.2.2.2.1))
    have aM3 := aM.fx X3 (noU _ _ (by omega) (by omega)) (noU _ _ (by omega) (by omega)) (Or.inr (n3 _ _ (Or.inl rfl) aM.2.2.2.1))
    have lW := X3.ln aW.2.2.2.1
    have lS := X3.ln aS.2.2.2.1
    have lM := X3.ln aM.2.2.2.1
    refine ⟨⟨eW, eS, eM, aW3, aS3, ⟨fM, aM3, fun i hi => ?_⟩, ⟨fun i hi => ?_, fun i hi => ?_⟩, s, j, by rw [lW, lS, lM]; omega, by rw [lW, lS, lM]; omega, by omega, r4⟩, LAM.fx Ls X3 (fun Lx hL => noU _ _ (by omega) (by omega)), ?_⟩
    · have q := (aM.2.2.2.2.2.2.2.2 i hi).2.2
      rw [X3.tg q, X3.fI q (n3 _ _ (Or.inr rfl) q)]
      exact bM i hi
    · rw [X3.tg (aW.2.2.2.2.2.2.2.2 i hi).2.2]; exact t1 i hi
    · rw [X3.tg (aS.2.2.2.2.2.2.2.2 i hi).2.2]; exact t2 i hi
    · rw [aM3.2.2.2.2.1, tn_nI (by omega)]
  obtain ⟨L3, lam3, len3⟩ := L3
  have A3 := (tAD.fx X3 (fun g y h1 h2 z => absurd z (noU _ _ (by omega) h2))).wide (Nat.le_refl _) (show tp h ≤ tp h3 by omega) (Nat.le_refl _)
  have Bs : JBS h3 U a0 (tp h) R G nm fW := by
    refine ⟨TR, A3, ha0, fun m hm => ?_, ⟨tJ3, by omega, pJ3, pK3⟩, em, by omega, fun m m' h1 h2 e => ?_⟩
    · obtain ⟨w1, w2, w3⟩ := tw m hm
      exact ⟨w1.fx X3 w3 (fun g z h1 h2 _ => noU _ _ (by have := w1.1.1; omega) (by omega)), by omega⟩
    · rcases Nat.lt_trichotomy m m' with z | z | z
      · have := (tw m' h2).2.1.2 m z; omega
      · exact z
      · have := (tw m h1).2.1.2 m' z; omega
  have J3 : JST h3 T U e0 R G nm fW nk par wk pk ns fS h3 ks ((B - 1 - (jdL R C L G nk nm).length) + (jdL R C L G nk nm).length) := by
    rw [show (B - 1 - (jdL R C L G nk nm).length) + (jdL R C L G nk nm).length = B - 1 by omega]
    exact ⟨C3, K3, ⟨L3, by unfold JAC; rw [len3]; exact ⟨Nat.le_refl _, Nat.le_refl _⟩⟩, FX.rf⟩
  rw [bk_X11_read_27, nn_some]
  refine ⟨tJ3, ?_⟩
  rw [show d + 11 = (d - 790) + 801 by omega]
  refine jn_judge (C := C) (L := L) Bs KE (eqs G TR) J3 (fun h4 ks4 S4 ct4 w4 => ?_)
  simp only [psh]
  -- behind the judging
  obtain ⟨C4, K4, ⟨L4, ac4⟩, F4⟩ := id S4
  have ta4 : tg h4 a = 14 := by rw [F4.tg (by omega), X3.tg (by omega)]; exact ta
  have perm4 : ks4.Perm (jL (pcl R C L) (wN R) nk nm (nsC R)) := by
    refine List.perm_iff_count.mpr (fun x => ?_)
    rw [jL_split (C := C) (L := L) (nk := nk) TR ek em x, ct4 x]
    have := tct x
    rw [List.count_nil, Nat.add_zero] at this
    rw [this]; rfl
  have len4 : ks4.length ≤ 3900 := by
    rw [perm4.length_eq]
    exact jL_len (C := C) (L := L) TR KE (by omega) (fun m hm => (tw m hm).1.2.2.2.2.2.2.2.2.2.2.2) n120 (by omega)
  have lam4 := L4.lam
  have a2 := A3.2.1
  have a3 := A3.2.2.1
  have tp34 := F4.1
  have jds : ∀ s, SRG R s → JDS R C L G nm h4 s := fun s hs => by
    obtain ⟨b, m1, m2, m3⟩ := TR.1.1.at hs.1 hs.2
    obtain ⟨m, hm, eb⟩ := bod_of m1
    exact ((w4 m hm).1 b eb).1 s m2 m3
  have N4 : UNF h4 U (tp h4) e0 R C L G nm fW nk par wk pk ns fS ks4 := by
    obtain ⟨eW, eS, eM, aW, aS, ⟨fM, aM, bM⟩, ⟨t1, t2⟩, s, ⟨j1, j2, j3, j4⟩, r1, r2, r3, r4⟩ := id L4
    have st := C4.1.1
    refine ⟨⟨C4.2.2.2.1, C4.2.2.2.2.1, C4.2.2.2.2.2.1, C4.2.2.2.2.2.2.1, C4.2.2.2.2.2.2.2.1, by have := C4.2.2.1; omega, Nat.le_refl _⟩, K4, ⟨eW, eS, eM, aW, aS, ⟨fM, aM, bM⟩, ?_, ?_, ?_⟩, ⟨t1, t2⟩, ⟨s.1, s.2, by omega⟩, ⟨KE, fun k hk => ⟨(tk k hk).1, (tk k hk).2.1, (tk k hk).2.2.2.2⟩⟩, ⟨TR, em, by omega, en, by omega, fun k hk => tf k (by omega)⟩, fun s hs => ⟨Bs.sim F4 hs, jds s hs, ?_⟩, fun b hb => Bs.bim F4 hb, fun m hm => ⟨Bs.way F4 hm, w4 m hm⟩, fun s hs => ?_, fun b hb => ?_, fun m hm => ?_, fun s t i j hs ht hi hj e => Bs.g2 hs ht hi hj e⟩
    · rcases j1 with z | z
      · exact Or.inl (AL.e0 st aW z)
      · exact Or.inr ⟨by omega, aW.2.2.2.1⟩
    · rcases j2 with z | z
      · exact Or.inl (AL.e0 st aS z)
      · exact Or.inr ⟨by omega, aS.2.2.2.1⟩
    · rcases j3 with z | z
      · exact Or.inl (AL.e0 st aM z)
      · exact Or.inr ⟨by omega, aM.2.2.2.1⟩
    · rw [(eqs G TR s hs).1]
      cases lvS (pcl R C L) (wN R) (nsC R) s
      · exact Or.inl rfl
      · exact Or.inr rfl
    · obtain ⟨-, -, -, -, l0, l6, c⟩ := a2 s hs.1 hs.2
      exact ⟨⟨by omega, by omega⟩, fun q => by have := l6 q; omega, fun i hi => by have := (c i hi).2; omega⟩
    · have := (a3 b hb.1 hb.2).2.2.1; omega
    · have := (Bs.2.2.2.1 m hm).1.1.1
      have := (Bs.2.2.2.1 m hm).2
      omega
  have x5 : FX (fun g y => y = a ∧ g = 31302) h4 (setFP h4 31302 a (some U)) := FX.FP ⟨rfl, rfl⟩
  have p5 : fP (setFP h4 31302 a (some U)) 31302 a = some U := if_pos ⟨rfl, rfl⟩
  have ta5 : tg (setFP h4 31302 a (some U)) a = 14 := ta4
  have tp5 : tp (setFP h4 31302 a (some U)) = tp h4 := rfl
  have rc5 : rc (setFP h4 31302 a (some U)) = rc h4 := rfl
  have rs5 : rs (setFP h4 31302 a (some U)) = rs h4 := rfl
  rw [bk_X11_read_28, p5, nn_some]
  generalize setFP h4 31302 a (some U) = h5 at *
  have N5 := N4.fx x5 (fun g y h1 h2 z => by have := z.1; omega) (fun y z => absurd z.2 (by decide))
  obtain ⟨⟨u1, u2, u3, u4, u5, u6, u7⟩, -, ⟨eW, eS, eM, aW, -⟩, -⟩ := id N5
  rw [u3, nn_some, l_size aW]
  refine ⟨ta4, ta5, u1, aW.1, ?_⟩
  simp only [psh]
  rw [bk_X11_read_35]
  have X15 : FX (fun g y => (U ≤ y ∧ g / 100 % 100 < 69) ∨ (y = a ∧ g = 31302) ∨ (g = 90003 ∧ y = e0)) h1 h5 := (X13.mono (fun g y z => Or.inl ⟨by omega, z.2⟩)).tr ((F4.mono (fun g y z => (eja_rd Bs z).imp id Or.inr)).tr (x5.mono (fun g y z => Or.inr (Or.inl z))))
  have XX : FX (ERD T a U e0) h h5 := (x1.mono (fun g y z => z.elim (fun z => Or.inr (Or.inl z)) (fun z => Or.inl ⟨by omega, z.2⟩))).tr (X15.mono (fun g y z => z.elim Or.inl (fun z => z.elim (fun z => Or.inr (Or.inr (Or.inl z))) (fun z => Or.inr (Or.inr (Or.inr z))))))
  have nT : ∀ g y, y < U → ¬ (y = a ∧ g = 31302) → ¬ (g = 90003) → ¬ ((U ≤ y ∧ g / 100 % 100 < 69) ∨ (y = a ∧ g = 31302) ∨ (g = 90003 ∧ y = e0)) := fun g y h1 h2 h3 z => by
    rcases z with z | z | z
    · omega
    · exact h2 z
    · exact h3 z.1
  have n9 : ∀ g y, 69 ≤ g / 100 % 100 → ¬ g = 90003 → ¬ ((U ≤ y ∧ g / 100 % 100 < 69) ∨ (y = a ∧ g = 31302) ∨ (g = 90003 ∧ y = e0)) := fun g y h1 h3 z => by
    rcases z with z | z | z
    · omega
    · rw [z.2] at h1; omega
    · exact h3 z.1
  have TT5 : TS h5 T (ai R 1) 0 := TT1.fy SV1 X15 (nT _ _ (by omega) (by omega) (by decide)) (nT _ _ (by omega) (by omega) (by decide)) (nT _ _ (by omega) (by omega) (by decide)) (nT _ _ (by omega) (by omega) (by decide)) (nT _ _ (by omega) (by omega) (by decide)) (fun y => ⟨n9 _ _ (by decide) (by decide), n9 _ _ (by decide) (by decide), n9 _ _ (by decide) (by decide), n9 _ _ (by decide) (by decide), n9 _ _ (by decide) (by decide)⟩) (fun y hy => nT _ _ hy (by omega) (by decide))
  have lam5 : LAM h5 U = LAM h4 U := LAM.fx L4 x5 (fun Lx hL z => by have := z.1; omega)
  have O5 : COB h5 a T W U := by
    refine ⟨ta5, by have := XX.1; omega, ?_, ?_, p5, ?_, by have := XX.1; omega⟩
    · rw [XX.fP (by omega) (fun z => by unfold ERD at z; omega)]; exact pT
    · rw [XX.fP (by omega) (fun z => by unfold ERD at z; omega)]; exact pW
    · rw [XX.tg (by omega)]; exact tW
  have N5' : UNF h5 U (tp h5) e0 R C L G nm fW nk par wk pk ns fS ks4 := by rw [tp5]; exact N5
  unfold JAC at ac4
  rw [len3, lam3] at ac4
  exact H h5 ks4 N5' O5 perm4 TT5 XX (by omega) (by omega) (by omega)
end
