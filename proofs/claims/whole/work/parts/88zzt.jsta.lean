/-! The class's judging: one statement -/
section
variable {d : Nat} {h0 h : AH} {Q : Option V → AH → Prop} {T U a0 e0 J : Nat} {R : RV} {G : Nat → Nat → Nat} {nm : Nat} {fW : Nat → Nat} {nk : Nat} {par : Nat → Nat} {wk : Nat → Int64} {pk : Nat → Int32} {ns : Nat} {fS : Nat → Nat} {ks : List Nat} {B : Nat} {C L : Nat → Int32}
theorem sta_list (TR : TRE R G nm) {t : Nat} (ht : SRG R t) (n9 : ¬ ai R 19 t = 9) (a : Nat) : List.count a (jtS R C L G nk nm t) = List.count a (jbO R C L G nk nm (oN (ai R 26 t)) ++ (jbO R C L G nk nm (oN (ai R 27 t)) ++ jcA (pcl R C L) (wN R) nk nm (nsC R) t)) := by
  obtain ⟨⟨w1, w2, w3, w4, w5, w6⟩, wk⟩ := TR.2.1 t ht.1 ht.2
  obtain ⟨k, k1, k2, -, -, -, -, -, n28, -⟩ := w5
  obtain ⟨e28, e32⟩ := n28 (fun z => n9 (by rw [k1, z]; rfl))
  unfold jtS
  rw [kids_flr TR ht, e28, e32, oN_m1, show jbO R C L G nk nm none = [] from rfl, tn_nI (by omega)]
  simp only [List.count_append, List.count_nil, show ∀ f : Nat → List Nat, flr f 0 0 = [] from fun _ => rfl]
  omega
theorem jn_stmt (Bs : JBS h0 U a0 J R G nm fW) (K : KEQ R nk par) (eq : ∀ t, SRG R t → L t = b2i (lvS (pcl R C L) (wN R) (nsC R) t) ∧ C t = canS (pcl R C L) (wN R) nk nm (nsC R) t) {t j N : Nat} (ht : SRG R t) (rj : RCH R G nm j) (g1 : G 4 j ≤ t) (g2 : t < G 5 j) (e21 : ai R 21 t = nI j) (hN : 8 ≤ N) (hN2 : 2 * (G 3 t - t) ≤ N) (IH : ∀ b, b ∈ kids R t → BKJ h0 T U e0 J R G nm fW nk par wk pk ns fS C L N b) (S : JST h0 T U e0 R G nm fW nk par wk pk ns fS h ks (B + (jtS R C L G nk nm t).length)) (un : ∀ s, t ≤ s → s < G 3 t → UNJ R G h s) (en : ENC R C L G nk nm h t (G 3 t))
    (H : ∀ h' ks', JST h0 T U e0 R G nm fW nk par wk pk ns fS h' ks' B → CTK ks' (jtS R C L G nk nm t) ks → (∀ s, t ≤ s → s < G 3 t → JDS R C L G nm h' s) → FX (EJP U e0 R G (inS t (G 3 t)) (kdS R t (G 3 t))) h h' → Q none h') : wp (d + N + 1 + 1) K_X2_judgeStatement 0 [] [(0, vr (some J)), (1, vr (some (G 0 t)))] h Q := by
  have TR := Bs.1
  have s2 := TR.2.2.2.2.1
  have s3 := TR.2.2.2.2.2
  have ht1 := ht.1
  have ht2 := ht.2
  obtain ⟨⟨i1, i2⟩, ⟨i3, -⟩, -, -, -, i9, i10, -⟩ := Bs.sim S.2.2.2 ht
  obtain ⟨j1, j2, j3, j4⟩ := Bs.jo S.2.2.2
  rw [bk_X2_judgeStatement_0, nn_some, i3]
  refine ⟨i1, fun n9 => ?_, fun z => ?_⟩
  case refine_2 =>
    have h9 := Classical.not_not.mp z
    rw [bk_X2_judgeStatement_4]
    refine ⟨j1, jn_try Bs K eq ht h9 rj g1 g2 e21 hN IH S un en (fun h' ks' S' c' q' x' => ?_)⟩
    simp only [psh]
    rw [bk_X2_judgeStatement_7]
    exact H h' ks' S' c' q' x'
  obtain ⟨⟨w1, w2, w3, w4, w5, w6⟩, wkd⟩ := TR.2.1 t ht.1 ht.2
  have w6' := w6
  obtain ⟨p6, p7, p8, p9⟩ := w6
  have g3 : G 3 t ≤ rsN R := by
    have rg := rj.rg TR
    have := TR.2.2.1 j rg.1 rg.2
    have := (this.1.2.2.2.2 t g1 g2 e21).1
    omega
  have eL := sta_list (C := C) (L := L) (nk := nk) TR ht n9
  have lenL := (List.perm_iff_count.mpr eL).length_eq
  rw [lenL] at S
  have H2 : ∀ h' ks', JST h0 T U e0 R G nm fW nk par wk pk ns fS h' ks' B → CTK ks' (jbO R C L G nk nm (oN (ai R 26 t)) ++ (jbO R C L G nk nm (oN (ai R 27 t)) ++ jcA (pcl R C L) (wN R) nk nm (nsC R) t)) ks → (∀ s, t ≤ s → s < G 3 t → JDS R C L G nm h' s) → FX (EJP U e0 R G (inS t (G 3 t)) (kdS R t (G 3 t))) h h' → Q none h' := fun h' ks' S' c' => H h' ks' S' (fun a => by rw [eL a]; exact c' a)
  clear H eL lenL
  obtain ⟨k, k1, k2, b6, b7, b8, b3, n27, n28, n26, -⟩ := id w5
  have k9 : ¬ k = 9 := fun z => n9 (by rw [k1, z]; rfl)
  obtain ⟨e28, e32⟩ := n28 k9
  have n33 : ∀ i c, i < tn (ai R 32 t) → ¬ ai R 33 (4 * t + i) = nI c := fun i c hi => by rw [e32] at hi; exact absurd hi (Nat.not_lt_zero _)
  rw [if_neg n9] at i10
  rw [List.length_append, ← Nat.add_assoc, Nat.add_right_comm] at S
  rw [bk_X2_judgeStatement_8, nn_some, i9]
  refine ⟨i1, j1, bk_opt (o := oN (ai R 26 t)) (by omega) (fun c e => IH c (kid26 e)) S (fun c e s h1 h2 => ?_) (fun c e => ?_) (fun h1 ks1 S1 c1 q1 x1 => ?_)⟩
  · have kd := kid_in TR ht (kid26 e)
    exact un s (by omega) (by omega)
  · exact enc_of TR rj g1 g2 e21 ht (kid26 e) en (fun i hi e2 => absurd e2 (n33 i c hi))
  simp only [psh]
  have np1 : ∀ o, o ≤ t → ¬ ∃ b, oN (ai R 26 t) = some b ∧ inS (G 4 b) (G 5 b) o := fun o lo z => by
    obtain ⟨c, e, z1, z2⟩ := z
    have := kid_in TR ht (kid26 e); omega
  have K1 := (KST.ini (C := C) (L := L) TR ht un).opt Bs ht S.2.2.2 (fun c e => kid26 e) x1 q1
  have E1 := en.fx Bs ht1 g3 S.2.2.2 x1 (fun o lo => np1 o (by omega))
  have U1 := (un t (Nat.le_refl _) w3).fx Bs ht i2 x1 (np1 t (Nat.le_refl _))
  have X1 := opt_fr TR ht (fun c e => kid26 e) x1
  clear x1 un en i1 i2 i3 i9 i10 j1 j2 j3 j4
  obtain ⟨⟨i1, i2⟩, -, -, -, -, -, i10, -⟩ := Bs.sim S1.2.2.2 ht
  obtain ⟨j1, j2, j3, j4⟩ := Bs.jo S1.2.2.2
  rw [if_neg n9] at i10
  rw [List.length_append, ← Nat.add_assoc, Nat.add_right_comm] at S1
  rw [bk_X2_judgeStatement_12, nn_some, i10]
  refine ⟨i1, j1, bk_opt (o := oN (ai R 27 t)) (by omega) (fun c e => IH c (kid27 e)) S1 (fun c e s h1 h2 => ?_) (fun c e => ?_) (fun h2 ks2 S2 c2 q2 x2 => ?_)⟩
  · refine (K1 c (kid27 e)).2 (fun z => ?_) s h1 h2
    rcases z with z | z
    · exact z
    · have q := (b6.some s3 z).2.2.2.1
      rw [(b7.some s3 e).2.2.2.1] at q
      unfold rol at q
      revert q
      repeat' split
      all_goals decide
  · exact enc_of TR rj g1 g2 e21 ht (kid27 e) E1 (fun i hi e2 => absurd e2 (n33 i c hi))
  simp only [psh]
  have np2 : ∀ o, o ≤ t → ¬ ∃ b, oN (ai R 27 t) = some b ∧ inS (G 4 b) (G 5 b) o := fun o lo z => by
    obtain ⟨c, e, z1, z2⟩ := z
    have := kid_in TR ht (kid27 e); omega
  have K2 := K1.opt Bs ht S1.2.2.2 (fun c e => kid27 e) x2 q2
  have E2 := E1.fx Bs ht1 g3 S1.2.2.2 x2 (fun o lo => np2 o (by omega))
  have U2 := U1.fx Bs ht i2 x2 (np2 t (Nat.le_refl _))
  have X2 := X1.tr (opt_fr TR ht (fun c e => kid27 e) x2)
  have al2 := K2.all TR ht (fun c m => by
    have kc := kid_is w5 s3 m
    rcases kc.2.2 with ⟨z, -⟩ | ⟨z, -⟩ | ⟨m, m1, m2, -⟩ | ⟨z, -⟩
    · exact Or.inl (Or.inr (by rw [z]; exact oN_nI (by omega)))
    · exact Or.inr (by rw [z]; exact oN_nI (by omega))
    · exact absurd m2 (n33 m c m1)
    · rw [e28] at z; exact absurd z.symm (nI_ne_m1 (by omega)))
  clear x2 K1 K2 E1 U1 X1 q1 q2 i1 i2 i10 j1 j2 j3 j4
  -- the end
  have fin : ∀ h' ks', JST h0 T U e0 R G nm fW nk par wk pk ns fS h' ks' B → CTK ks' (jcA (pcl R C L) (wN R) nk nm (nsC R) t) ks2 → FX (EJP U e0 R G (fun s => s = t) (fun _ => False)) h2 h' → fI h' 814 (G 0 t) = C t → fI h' 10815 (G 0 t) = L t → (ai R 19 t = 1 → fI h' 807 (G 0 t) = oI (mN R (wN R) nm (al R 24 t))) → Q none h' := fun h' ks' S' c' x' v1 v2 v3 => by
    refine H2 h' ks' S' (c1.tr (c2.tr c')) (fun s l1 l2 => ?_) (X2.tr (own_fr TR ht x'))
    by_cases y : s = t
    · rw [y]
      refine ⟨⟨v1, v2⟩, fun c m => ?_, v3, fun z => absurd z n9⟩
      exact (al2.2 c m).fx Bs (wkd c m) (Bs.bim S2.2.2.2 (wkd c m)).1.2 x' (fun z => z)
    · have hs : SRG R s := ⟨by omega, by omega⟩
      exact (al2.1 s (by omega) l2).fx Bs hs S2.2.2.2 x' y (fun _ _ z => z)
  obtain ⟨⟨i1, i2⟩, ⟨i3, -⟩, -⟩ := Bs.sim S2.2.2.2 ht
  rw [bk_X2_judgeStatement_16, nn_some, nn_some]
  have xa : FX (EJP U e0 R G (fun s => s = t) (fun _ => False)) h2 (setFI h2 10815 (G 0 t) 1) := FX.FI (Or.inr (Or.inl ⟨t, rfl, ht, Or.inl ⟨rfl, Or.inr (Or.inl rfl)⟩⟩))
  have S3 := S2.w Bs (FX.FI (f := 10815) (a := G 0 t) (v := 1) (Or.inl ⟨by omega, (Bs.hi ht).1⟩)) rfl rfl
  have f1 : fI (setFI h2 10815 (G 0 t) 1) 10815 (G 0 t) = 1 := if_pos ⟨rfl, rfl⟩
  have f2 : fI (setFI h2 10815 (G 0 t) 1) 814 (G 0 t) = 0 := by rw [fI_setFI, if_neg (by omega)]; exact U2.1
  have i3' : fI (setFI h2 10815 (G 0 t) 1) 800 (G 0 t) = nI k := by rw [fI_setFI, if_neg (by omega), i3, k1]
  refine ⟨i1, Or.inr rfl, i1, ?_⟩
  generalize setFI h2 10815 (G 0 t) 1 = h3 at *
  have E3 := E2.fx Bs ht1 g3 S2.2.2.2 xa (fun o lo z => by omega)
  have J3 : ∀ c, c ∈ kids R t → tg h3 (G 1 c) = 3 ∧ JDB R C L G h3 c := fun c m => ⟨(Bs.bim S3.2.2.2 (wkd c m)).1.1, (al2.2 c m).fx Bs (wkd c m) (Bs.bim S2.2.2.2 (wkd c m)).1.2 xa (fun z => z)⟩
  have al3 : ∀ s, t < s → s < G 3 t → JDS R C L G nm h3 s := fun s l1 l2 => by
    have hs : SRG R s := ⟨by omega, by omega⟩
    exact (al2.1 s l1 l2).fx Bs hs S2.2.2.2 xa (fun z => by omega) (fun _ _ z => z)
  clear E2 U2 i1 i2 i3
  obtain ⟨⟨i1, i2⟩, ⟨-, i4, -⟩, -, -, -, i9, i10, i11, iN, -⟩ := Bs.sim S3.2.2.2 ht
  obtain ⟨j1, j2, j3, j4⟩ := Bs.jo S3.2.2.2
  rw [if_neg n9] at i10
  have hi0 := (Bs.hi ht).1
  have eqL := (eq t ht).1
  have eqC := (eq t ht).2
  have fC : ∀ v, FX (EJP U e0 R G (fun s => s = t) (fun _ => False)) h3 (setFI h3 814 (G 0 t) v) := fun v => FX.FI (Or.inr (Or.inl ⟨t, rfl, ht, Or.inl ⟨rfl, Or.inl rfl⟩⟩))
  have fL : ∀ h' v, FX (EJP U e0 R G (fun s => s = t) (fun _ => False)) h' (setFI h' 10815 (G 0 t) v) := fun h' v => FX.FI (Or.inr (Or.inl ⟨t, rfl, ht, Or.inl ⟨rfl, Or.inr (Or.inl rfl)⟩⟩))
  have sC : ∀ {h' ks' B'} v, JST h0 T U e0 R G nm fW nk par wk pk ns fS h' ks' B' → JST h0 T U e0 R G nm fW nk par wk pk ns fS (setFI h' 814 (G 0 t) v) ks' B' := fun v S' => S'.w Bs (FX.FI (Or.inl ⟨by omega, hi0⟩)) rfl rfl
  have sL : ∀ {h' ks' B'} v, JST h0 T U e0 R G nm fW nk par wk pk ns fS h' ks' B' → JST h0 T U e0 R G nm fW nk par wk pk ns fS (setFI h' 10815 (G 0 t) v) ks' B' := fun v S' => S'.w Bs (FX.FI (Or.inl ⟨by omega, hi0⟩)) rfl rfl
  have k19 : ∀ j, ai R 19 t = nI j → j ≤ 11 → k = j := fun j e hj => nI_inj (by omega) (by omega) (by rw [← k1]; exact e)
  unfold canS at eqC
  unfold lvS at eqL
  unfold jcA at S3 fin
  rw [show ai (pcl R C L) 19 t = nI k from k1] at eqC eqL S3 fin
  -- nothing to do
  have plain : k = 0 ∨ k = 3 → wp (d + N + 1 + 1) K_X2_judgeStatement 101 [] [(0, vr (some J)), (1, vr (some (G 0 t)))] h3 Q := fun hk => by
    rw [bk_X2_judgeStatement_101]
    refine fin h3 ks2 ?_ ?_ xa ?_ ?_ (fun z => ?_)
    · rcases hk with hk | hk
      · rw [hk] at S3; exact S3
      · rw [hk] at S3; exact S3
    · rcases hk with hk | hk
      · rw [hk]; exact CTK.rf
      · rw [hk]; exact CTK.rf
    · rw [f2, eqC]
      rcases hk with hk | hk <;> rw [hk] <;> rfl
    · rw [f1, eqL]
      rcases hk with hk | hk <;> rw [hk] <;> rfl
    · have := k19 1 z (by omega); omega
  have none27 : ¬ k = 4 → oN (ai R 27 t) = none := fun z => by rw [n27 z]; exact oN_m1
  -- one block
  have J26 : ∀ c, oN (ai R 26 t) = some c → tg h3 (G 1 c) = 3 ∧ JDB R C L G h3 c := fun c e => J3 c (kid26 e)
  have J27 : ∀ c, oN (ai R 27 t) = some c → tg h3 (G 1 c) = 3 ∧ JDB R C L G h3 c := fun c e => J3 c (kid27 e)
  have upC : ∀ v, (∀ c, oN (ai R 26 t) = some c → tg (setFI h3 814 (G 0 t) v) (G 1 c) = 3 ∧ JDB R C L G (setFI h3 814 (G 0 t) v) c) ∧ ∀ c, oN (ai R 27 t) = some c → tg (setFI h3 814 (G 0 t) v) (G 1 c) = 3 ∧ JDB R C L G (setFI h3 814 (G 0 t) v) c := fun v => by
    refine ⟨fun c e => ⟨(J26 c e).1, ?_, ?_⟩, fun c e => ⟨(J27 c e).1, ?_, ?_⟩⟩
    · rw [fI_setFI, if_neg (by omega)]; exact (J26 c e).2.1
    · rw [fI_setFI, if_neg (by omega)]; exact (J26 c e).2.2
    · rw [fI_setFI, if_neg (by omega)]; exact (J27 c e).2.1
    · rw [fI_setFI, if_neg (by omega)]; exact (J27 c e).2.2
  rw [i3']
  refine ⟨fun z => ?_, fun jj hj ej => ?_⟩
  · refine plain ?_
    rw [show (1 : Int32) + Int32.ofNat 11 = nI 12 from rfl, show (1 : Int32) = nI 1 from rfl, nI_ltI (by omega) (by omega), nI_leI (by omega) (by omega)] at z
    omega
  have ek : k = jj + 1 := by
    have e2 : (1 : Int32) + Int32.ofNat jj = nI (jj + 1) := by
      rw [show (1 : Int32) = nI 1 from rfl, show Int32.ofNat jj = nI jj from rfl, nI_add, Nat.add_comm]
    rw [e2] at ej
    exact nI_inj (by omega) (by omega) ej
  have n1 : ¬ k = 1 → ai R 19 t = 1 → False := fun a b => a (k19 1 b (by omega))
  rcases (show jj = 0 ∨ jj = 1 ∨ jj = 2 ∨ jj = 3 ∨ jj = 4 ∨ jj = 5 ∨ jj = 6 ∨ jj = 7 ∨ jj = 8 ∨ jj = 9 ∨ jj = 10 by omega) with z | z | z | z | z | z | z | z | z | z | z
  all_goals rw [z] at ek ⊢
  · -- a call
    show wp (d + N + 1 + 1) K_X2_judgeStatement 22 [] _ h3 Q
    have h1 : ai R 19 t = 1 := by rw [k1, ek]; rfl
    obtain ⟨D, eD⟩ : ∃ D, d + N + 1 = D + 8 := ⟨d + N + 1 - 8, by omega⟩
    rw [ek] at S3
    have fin := fun h' ks' => fin h' ks'
    rw [ek] at eqC eqL
    have SS : JST h0 T U e0 R G nm fW nk par wk pk ns fS h3 ks2 (B + (jcC (pcl R C L) (wN R) nm t).length) := S3
    rw [eD, bk_X2_judgeStatement_22]
    refine ⟨j1, jn_call (C := C) (L := L) Bs K ht h1 f2 (fun b e => (J26 b e).2.1) SS (fun h' ks' S' c' v1 v2 x' => ?_)⟩
    simp only [psh]
    rw [bk_X2_judgeStatement_25, bk_X2_judgeStatement_101]
    have x2 : FX (EJP U e0 R G (fun s => s = t) (fun _ => False)) h3 h' := x'.mono (fun g y z => z.elim Or.inl (fun z => Or.inr (Or.inl ⟨t, rfl, ht, Or.inl ⟨z.1, z.2.elim (fun y => Or.inr (Or.inr ⟨y, h1⟩)) Or.inl⟩⟩)))
    refine fin h' ks' S' (by rw [ek]; exact c') (xa.tr x2) (by rw [v2, eqC]; rfl) ?_ (fun _ => v1)
    rw [x'.fI i2 (fun z => z.elim (els_no (by omega)) (fun z => by have := z.2; omega)), f1, eqL]; rfl
  · -- a throw
    show wp (d + N + 1 + 1) K_X2_judgeStatement 26 [] _ h3 Q
    have h2' : ai R 19 t = 2 := by rw [k1, ek]; rfl
    obtain ⟨D, eD⟩ : ∃ D, d + N + 1 = D + 8 := ⟨d + N + 1 - 8, by omega⟩
    rw [ek] at S3 eqC eqL
    have SS : JST h0 T U e0 R G nm fW nk par wk pk ns fS h3 ks2 (B + (jcW (pcl R C L) (wN R) (nsC R) t).length) := S3
    rw [eD, bk_X2_judgeStatement_26]
    refine ⟨j1, jn_throw (C := C) (L := L) Bs K ht h2' (fun c e => E3 t c (Nat.le_refl _) w3 e ?_) SS (fun h' ks' S' c' v2 x' => ?_)⟩
    · obtain ⟨o, i, q, q1, q2, q3, q4, q5, q6, -⟩ := pr_in TR ht.1 ht.2 e
      omega
    simp only [psh]
    have i1' : tg h' (G 0 t) = 9 := by rw [x'.tg i2]; exact i1
    rw [bk_X2_judgeStatement_29, nn_some, bk_X2_judgeStatement_101]
    have x2 : FX (EJP U e0 R G (fun s => s = t) (fun _ => False)) h3 h' := x'.mono (fun g y z => z.elim Or.inl (fun z => Or.inr (Or.inl ⟨t, rfl, ht, Or.inl ⟨z.1, Or.inl z.2⟩⟩)))
    refine ⟨i1', Or.inl rfl, fin _ ks' (sL 0 S') (by rw [ek]; exact c') (xa.tr (x2.tr (fL h' 0))) ?_ ?_ (fun z => (n1 (by omega) z).elim)⟩
    · rw [fI_setFI, if_neg (by omega), v2, eqC]; rfl
    · rw [fI_setFI, if_pos ⟨rfl, rfl⟩, eqL]; rfl
  · exact plain (Or.inr ek)
  · -- if
    show wp (d + N + 1 + 1) K_X2_judgeStatement 46 [] _ h3 Q
    rw [ek] at S3 eqC eqL
    have e26 : ∃ b, oN (ai R 26 t) = some b := ⟨tn (ai R 26 t), by unfold oN; rw [if_neg (n26 (by omega))]⟩
    obtain ⟨b, e26⟩ := e26
    rw [bk_X2_judgeStatement_46, nn_some, i9]
    refine ⟨i1, j_thrO (R := R) (C := C) (L := L) J26 ?_⟩
    simp only [psh]
    rw [bk_X2_judgeStatement_50, nn_some, i10]
    refine ⟨i1, j_thrO (R := R) (C := C) (L := L) J27 ?_⟩
    simp only [psh]
    rw [bk_X2_judgeStatement_53, nn_some, nn_some]
    have eC : C t = bcS (pcl R C L) (oN (ai R 26 t)) ||| bcS (pcl R C L) (oN (ai R 27 t)) := by rw [eqC]; rfl
    have eLt : L t = b2i (decide (oN (ai R 27 t) = none) || (lfB (pcl R C L) (oN (ai R 26 t)) || lfB (pcl R C L) (oN (ai R 27 t)))) := by rw [eqL]; rfl
    rw [← eC]
    obtain ⟨u26, u27⟩ := upC (C t)
    have x4 := xa.tr (fC (C t))
    have S4 := sC (C t) S3
    have f4 : fI (setFI h3 814 (G 0 t) (C t)) 814 (G 0 t) = C t := if_pos ⟨rfl, rfl⟩
    have t4 : tg (setFI h3 814 (G 0 t) (C t)) (G 0 t) = 9 := i1
    have p4 : fP (setFI h3 814 (G 0 t) (C t)) 30809 (G 0 t) = (oN (ai R 26 t)).map (G 1) := i9
    have p5 : fP (setFI h3 814 (G 0 t) (C t)) 30810 (G 0 t) = (oN (ai R 27 t)).map (G 1) := i10
    generalize setFI h3 814 (G 0 t) (C t) = h4 at *
    have last : ∀ v : Bool, L t = b2i v → wp (d + N + 1 + 1) K_X2_judgeStatement 70 [vi (b2i v), vr (some (G 0 t))] [(0, vr (some J)), (1, vr (some (G 0 t)))] h4 Q := fun v ev => by
      rw [bk_X2_judgeStatement_70, nn_some, bk_X2_judgeStatement_101, ← ev]
      refine ⟨t4, by rw [ev]; cases v <;> decide, fin _ ks2 (sL _ S4) (by rw [ek]; exact CTK.rf) (x4.tr (fL h4 _)) ?_ (if_pos ⟨rfl, rfl⟩) (fun z => (n1 (by omega) z).elim)⟩
      rw [fI_setFI, if_neg (by omega)]; exact f4
    have one : (decide (oN (ai R 27 t) = none) || (lfB (pcl R C L) (oN (ai R 26 t)) || lfB (pcl R C L) (oN (ai R 27 t)))) = true → wp (d + N + 1 + 1) K_X2_judgeStatement 67 [vr (some (G 0 t))] [(0, vr (some J)), (1, vr (some (G 0 t)))] h4 Q := fun y => by
      rw [bk_X2_judgeStatement_67]
      exact last true (by rw [eLt, y])
    refine ⟨i1, t4, fun y => one ?_, fun y => ?_⟩
    · rw [p5] at y
      cases e : oN (ai R 27 t) with
      | none => rfl
      | some c => rw [e] at y; cases y
    · rw [bk_X2_judgeStatement_59, nn_some, p4]
      refine ⟨t4, j_lftO (R := R) (C := C) (L := L) u26 ?_⟩
      simp only [psh]
      rw [bk_X2_judgeStatement_62, b2i_0, e26, decide_eq_false (fun z => by cases z), Bool.false_or]
      refine ⟨fun y2 => one ?_, fun y2 => ?_⟩
      · rw [e26, bt y2, Bool.true_or, Bool.or_true]
      · have y2 := Classical.not_not.mp y2
        rw [bk_X2_judgeStatement_63, nn_some, p5]
        refine ⟨t4, j_lftO (R := R) (C := C) (L := L) u27 ?_⟩
        simp only [psh]
        rw [bk_X2_judgeStatement_66, b2i_0]
        refine ⟨fun y3 => ?_, fun y3 => one ?_⟩
        · rw [bk_X2_judgeStatement_69]
          refine last false ?_
          rw [eLt, e26, y2]
          rw [Bool.or_eq_false_iff] at y3
          rw [y3.1, y3.2]
          rfl
        · have y3 := bt y3
          rw [Bool.or_eq_true] at y3
          rcases y3 with y3 | y3
          · rw [y3, Bool.true_or]
          · rw [y3, Bool.or_true, Bool.or_true]
  · -- while
    show wp (d + N + 1 + 1) K_X2_judgeStatement 84 [] _ h3 Q
    rw [ek] at S3 eqC eqL
    rw [bk_X2_judgeStatement_84, nn_some, i9]
    refine ⟨i1, j_thrO (R := R) (C := C) (L := L) J26 ?_⟩
    simp only [psh]
    rw [bk_X2_judgeStatement_88, nn_some, bk_X2_judgeStatement_101]
    have eC : C t = bcS (pcl R C L) (oN (ai R 26 t)) := by
      rw [eqC]
      show bcS (pcl R C L) (oN (ai R 26 t)) ||| bcS (pcl R C L) (oN (ai R 27 t)) = _
      rw [none27 (by omega)]
      exact Int32.or_zero
    rw [← eC]
    refine ⟨i1, fin _ ks2 (sC _ S3) (by rw [ek]; exact CTK.rf) (xa.tr (fC _)) (if_pos ⟨rfl, rfl⟩) ?_ (fun z => (n1 (by omega) z).elim)⟩
    rw [fI_setFI, if_neg (by omega), f1, eqL]; rfl
  · -- loop
    show wp (d + N + 1 + 1) K_X2_judgeStatement 72 [] _ h3 Q
    rw [ek] at S3 eqC eqL
    have h6 : ai R 19 t = 6 := by rw [k1, ek]; rfl
    have e26 : ∃ b, oN (ai R 26 t) = some b := ⟨tn (ai R 26 t), by unfold oN; rw [if_neg (n26 (by omega))]⟩
    obtain ⟨b, e26⟩ := e26
    have bb := b6.some s3 e26
    have rb := rj.kid ht.1 ht.2 e21 g1 g2 (kid26 e26)
    have kd := kid_in TR ht (kid26 e26)
    rw [bk_X2_judgeStatement_72, nn_some, i9]
    refine ⟨i1, j_thrO (R := R) (C := C) (L := L) J26 ?_⟩
    simp only [psh]
    rw [bk_X2_judgeStatement_76, nn_some, nn_some]
    have eC : C t = bcS (pcl R C L) (oN (ai R 26 t)) := by
      rw [eqC]
      show bcS (pcl R C L) (oN (ai R 26 t)) ||| bcS (pcl R C L) (oN (ai R 27 t)) = _
      rw [none27 (by omega)]
      exact Int32.or_zero
    have eLt : L t = b2i (lvL (pcl R C L) (wN R) (nsC R) t) := by rw [eqL]; rfl
    rw [← eC]
    have x4 := xa.tr (fC (C t))
    have S4 := sC (C t) S3
    have f4 : fI (setFI h3 814 (G 0 t) (C t)) 814 (G 0 t) = C t := if_pos ⟨rfl, rfl⟩
    have t4 : tg (setFI h3 814 (G 0 t) (C t)) (G 0 t) = 9 := i1
    have p4 : fP (setFI h3 814 (G 0 t) (C t)) 30809 (G 0 t) = (oN (ai R 26 t)).map (G 1) := i9
    have lf4 : ∀ s f, G 4 b ≤ s → s < G 5 b → oN (ai R 28 s) = some f → fI (setFI h3 814 (G 0 t) (C t)) 10203 (G 1 f) = b2i (lfB (pcl R C L) (some f)) := fun s f l1 l2 e => by
      rw [fI_setFI, if_neg (by omega)]
      exact ((al3 s (by omega) (by omega)).2.1 f (kid28 e)).2
    have o4 := (Bs.jo S4.2.2.2).1
    generalize setFI h3 814 (G 0 t) (C t) = h4 at *
    rw [p4, e26]
    obtain ⟨D, eD⟩ : ∃ D, d + N + 1 = D + 2 * (G 5 b - G 4 b + 1) := ⟨d + N + 1 - 2 * (G 5 b - G 4 b + 1), by omega⟩
    refine ⟨i1, t4, o4, ?_⟩
    show wp (d + N + 1) K_X2_hasBreak 0 [] [(0, vr (some J)), (1, vr (some (G 1 b)))] h4 _
    rw [eD]
    refine jn_break (C := C) (L := L) Bs S4 (G 5 b - G 4 b + 1) b D _ rb (by omega) lf4 (fun v hv => ?_)
    rw [← eD]
    simp only [psh]
    have ev : L t = b2i v := by
      rw [eLt]
      have := lvL_brk (C := C) (L := L) TR ht.1 ht.2 h6 bb.1 bb.2.2.1
      refine congrArg b2i (Bool.eq_iff_iff.mpr ?_)
      rw [this, hv]
    rw [bk_X2_judgeStatement_82, nn_some, bk_X2_judgeStatement_101, ← ev]
    refine ⟨t4, by rw [ev]; cases v <;> decide, fin _ ks2 (sL _ S4) (by rw [ek]; exact CTK.rf) (x4.tr (fL h4 _)) ?_ (if_pos ⟨rfl, rfl⟩) (fun z => (n1 (by omega) z).elim)⟩
    rw [fI_setFI, if_neg (by omega)]; exact f4
  · -- break
    show wp (d + N + 1 + 1) K_X2_judgeStatement 33 [] _ h3 Q
    rw [ek] at S3 eqC eqL
    rw [bk_X2_judgeStatement_33, nn_some, bk_X2_judgeStatement_101]
    refine ⟨i1, Or.inl rfl, fin _ ks2 (sL _ S3) (by rw [ek]; exact CTK.rf) (xa.tr (fL h3 _)) ?_ ?_ (fun z => (n1 (by omega) z).elim)⟩
    · rw [fI_setFI, if_neg (by omega), f2, eqC]; rfl
    · rw [fI_setFI, if_pos ⟨rfl, rfl⟩, eqL]; rfl
  · -- return
    show wp (d + N + 1 + 1) K_X2_judgeStatement 33 [] _ h3 Q
    rw [ek] at S3 eqC eqL
    rw [bk_X2_judgeStatement_33, nn_some, bk_X2_judgeStatement_101]
    refine ⟨i1, Or.inl rfl, fin _ ks2 (sL _ S3) (by rw [ek]; exact CTK.rf) (xa.tr (fL h3 _)) ?_ ?_ (fun z => (n1 (by omega) z).elim)⟩
    · rw [fI_setFI, if_neg (by omega), f2, eqC]; rfl
    · rw [fI_setFI, if_pos ⟨rfl, rfl⟩, eqL]; rfl
  · exact absurd ek k9
  · -- run
    show wp (d + N + 1 + 1) K_X2_judgeStatement 37 [] _ h3 Q
    have h10 : ai R 19 t = 10 := by rw [k1, ek]; rfl
    rw [ek] at S3 eqC eqL
    rw [if_pos (Or.inr h10)] at i11
    have D10 := iN h10
    obtain ⟨q1, q2, q3⟩ := plp_is p6
    have en : nmS (pcl R C L) (wN R) nk nm t = nsS (fun i => kN R (wN R) (nkN R) (al R 30 (4 * t + i)) (ai R 31 (4 * t + i))) (tn (ai R 29 t)) := by
      refine fup_cg _ _ _ (fun i x _ _ => ?_)
      show x ||| (if ai R 19 t = 9 then _ else onlyO (kN R (wN R) nk (al R 30 (4 * t + i)) (ai R 31 (4 * t + i)))) = _
      rw [if_neg n9, K.1]
    have SS : JST h0 T U e0 R G nm fW nk par wk pk ns fS h3 ks2 (B + (flr (unL (pcl R C L) (wN R) nk (bcS (pcl R C L) (oN (ai R 26 t))) (nsS (fun i => kN R (wN R) (nkN R) (al R 30 (4 * t + i)) (ai R 31 (4 * t + i))) (tn (ai R 29 t))) (tn (ai R 20 t))) nk 0).length) := by
      rw [← en]; exact S3
    have fin := fun h' ks' => fin h' ks'
    obtain ⟨D, eD⟩ : ∃ D, d + N + 1 = D + 8 := ⟨d + N + 1 - 8, by omega⟩
    rw [eD, bk_X2_judgeStatement_37, nn_some, nn_some, nn_some, i9, i11, i4]
    refine ⟨i1, i1, i1, j1, ?_⟩
    show wp _ _ _ _ [(0, vr (some J)), (1, vr ((oN (ai R 26 t)).map (G 1))), (2, vr (some (G 6 t))), (3, vi (ai R 20 t))] _ _
    rw [q1]
    refine jn_untold (C := C) (L := L) Bs K SS (fun b e => ?_) (fun e => ?_) D10 q2 q3 (fun h' ks' S' c' x' => ?_)
    · cases e26 : oN (ai R 26 t) with
      | none => rw [e26] at e; cases e
      | some c =>
        rw [e26] at e
        have e : G 1 c = b := Option.some.inj e
        rw [← e]
        exact ⟨(J26 c e26).1, (J26 c e26).2.1⟩
    · cases e26 : oN (ai R 26 t) with
      | none => rfl
      | some c => rw [e26] at e; cases e
    simp only [psh]
    rw [bk_X2_judgeStatement_45, bk_X2_judgeStatement_101]
    refine fin h' ks' S' ?_ (xa.tr (x'.mono EJP.ls)) ?_ ?_ (fun z => (n1 (by omega) z).elim)
    · rw [ek]
      rw [← en] at c'
      exact c'
    · rw [x'.fI i2 (els_no (by omega)), f2, eqC]; rfl
    · rw [x'.fI i2 (els_no (by omega)), f1, eqL]; rfl
  · -- a block
    show wp (d + N + 1 + 1) K_X2_judgeStatement 90 [] _ h3 Q
    rw [ek] at S3 eqC eqL
    have e26 : ∃ b, oN (ai R 26 t) = some b := ⟨tn (ai R 26 t), by unfold oN; rw [if_neg (n26 (by omega))]⟩
    obtain ⟨b, e26⟩ := e26
    rw [bk_X2_judgeStatement_90, nn_some, i9]
    refine ⟨i1, j_thrO (R := R) (C := C) (L := L) J26 ?_⟩
    simp only [psh]
    rw [bk_X2_judgeStatement_94, nn_some, nn_some]
    have eC : C t = bcS (pcl R C L) (oN (ai R 26 t)) := by
      rw [eqC]
      show bcS (pcl R C L) (oN (ai R 26 t)) ||| bcS (pcl R C L) (oN (ai R 27 t)) = _
      rw [none27 (by omega)]
      exact Int32.or_zero
    have eLt : L t = b2i (lfB (pcl R C L) (oN (ai R 26 t))) := by rw [eqL]; rfl
    rw [← eC]
    obtain ⟨u26, u27⟩ := upC (C t)
    have x4 := xa.tr (fC (C t))
    have S4 := sC (C t) S3
    have f4 : fI (setFI h3 814 (G 0 t) (C t)) 814 (G 0 t) = C t := if_pos ⟨rfl, rfl⟩
    have t4 : tg (setFI h3 814 (G 0 t) (C t)) (G 0 t) = 9 := i1
    have p4 : fP (setFI h3 814 (G 0 t) (C t)) 30809 (G 0 t) = (oN (ai R 26 t)).map (G 1) := i9
    generalize setFI h3 814 (G 0 t) (C t) = h4 at *
    rw [p4]
    refine ⟨i1, t4, j_lftO (R := R) (C := C) (L := L) u26 ?_⟩
    simp only [psh]
    have ev : b2i (decide (oN (ai R 26 t) = none) || lfB (pcl R C L) (oN (ai R 26 t))) = L t := by
      rw [eLt, e26, decide_eq_false (fun z => by cases z), Bool.false_or]
    rw [bk_X2_judgeStatement_99, nn_some, bk_X2_judgeStatement_101, ev]
    refine ⟨t4, by rw [eLt]; cases lfB (pcl R C L) (oN (ai R 26 t)) <;> decide, fin _ ks2 (sL _ S4) (by rw [ek]; exact CTK.rf) (x4.tr (fL h4 _)) ?_ (if_pos ⟨rfl, rfl⟩) (fun z => (n1 (by omega) z).elim)⟩
    rw [fI_setFI, if_neg (by omega)]; exact f4
end
