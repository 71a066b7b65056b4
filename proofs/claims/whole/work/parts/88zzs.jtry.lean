/-! The class's judging: try -/
theorem fup_snoc {α : Type} (f : Nat → α → α) (n k : Nat) (x : α) : fup f (n + 1) k x = f (k + n) (fup f n k x) := by
  rw [fup_add]; rfl
theorem fup_shift {α : Type} (f : Nat → α → α) (a : Nat) : ∀ n k x, fup f n (a + k) x = fup (fun i => f (a + i)) n k x := by
  intro n
  induction n with
  | zero => intro k x; rfl
  | succ n ih => intro k x; rw [fup, fup, show a + k + 1 = a + (k + 1) by omega, ih]
theorem ahd_trA (r : RV) (w nk s n : Nat) : ahd r w nk s n = trA r w nk s n := fup_shift (fun k x => x ||| cgS r w nk k) (4 * s) n 0 0
section
variable {d : Nat} {h0 h : AH} {Q : Option V → AH → Prop} {T U a0 e0 J : Nat} {R : RV} {G : Nat → Nat → Nat} {nm : Nat} {fW : Nat → Nat} {nk : Nat} {par : Nat → Nat} {wk : Nat → Int64} {pk : Nat → Int32} {ns : Nat} {fS : Nat → Nat} {ks : List Nat} {B : Nat} {C L : Nat → Int32}
theorem jn_closing8 (hd : 8 ≤ d) (Bs : JBS h0 U a0 J R G nm fW) (K : KEQ R nk par) {s : Nat} (hs : SRG R s) (h9 : ai R 19 s = 9) (S : JST h0 T U e0 R G nm fW nk par wk pk ns fS h ks (B + (flr (jtN (pcl R C L) (wN R) nm s) (tn (ai R 29 s)) 0).length)) (D : ND h (G 6 s) (tn (ai R 29 s)) (fun i => conv (al R 30 (4 * s + i))) (fun i => ai R 31 (4 * s + i)) (fun _ => none)) (hw : ∀ i, i < tn (ai R 29 s) → WV (al R 30 (4 * s + i))) (pl : ∀ i, i < tn (ai R 29 s) → plp (ai R 31 (4 * s + i)))
    (H : ∀ h' ks', JST h0 T U e0 R G nm fW nk par wk pk ns fS h' ks' B → ND h' (G 6 s) (tn (ai R 29 s)) (fun i => conv (al R 30 (4 * s + i))) (fun i => ai R 31 (4 * s + i)) (fun i => mN R (wN R) nm (al R 30 (4 * s + i))) → CTK ks' (flr (jtN (pcl R C L) (wN R) nm s) (tn (ai R 29 s)) 0) ks → FX (EJP U e0 R G (fun t => t = s) (fun _ => False)) h h' → Q (some (vi (nmS (pcl R C L) (wN R) nk nm s))) h') : wp d K_X2_closing 0 [] [(0, vr (some J)), (1, vr (some (G 6 s)))] h Q := by
  obtain ⟨e, rfl⟩ : ∃ e, d = e + 8 := ⟨d - 8, by omega⟩
  exact jn_closing Bs K hs h9 S D hw pl (fun h' ks' S' D' c' x' => H h' ks' S' D' c' (x'.mono (fun g y z => z.elim Or.inl (fun z => Or.inr (Or.inl ⟨s, rfl, hs, Or.inr (Or.inr ⟨h9, z.1, z.2⟩)⟩)))))
theorem jn_catch8 (hd : 8 ≤ d) (Bs : JBS h0 U a0 J R G nm fW) (K : KEQ R nk par) {s i : Nat} (cf : CFF h U R G (4 * s + i)) (lt : G 2 (4 * s + i) < tp h) (h7 : fI h 307 (G 2 (4 * s + i)) = insS (pcl R C L) (wN R) nk nm s) (h8 : fI h 308 (G 2 (4 * s + i)) = ahd (pcl R C L) (wN R) nk s i) (pl : ∀ j, j < tn (ai R 36 (4 * s + i)) → plp (ai R 38 (4 * (4 * s + i) + j))) (S : JST h0 T U e0 R G nm fW nk par wk pk ns fS h ks (B + (flr (jcK (pcl R C L) (wN R) nk s i (insC (pcl R C L) (wN R) nk nm s)) (tn (ai R 36 (4 * s + i))) 0).length))
    (H : ∀ h' ks', JST h0 T U e0 R G nm fW nk par wk pk ns fS h' ks' B → CTK ks' (flr (jcK (pcl R C L) (wN R) nk s i (insC (pcl R C L) (wN R) nk nm s)) (tn (ai R 36 (4 * s + i))) 0) ks → FX (ELs U e0) h h' → Q none h') : wp d K_X2_noteCatch 0 [] [(0, vr (some J)), (1, vr (some (G 2 (4 * s + i))))] h Q := by
  obtain ⟨e, rfl⟩ : ∃ e, d = e + 8 := ⟨d - 8, by omega⟩
  exact jn_catch Bs K cf lt h7 h8 pl S H
/-- the list of a try, in the order of judging -/
theorem try_list (TR : TRE R G nm) {t : Nat} (ht : SRG R t) (h9 : ai R 19 t = 9) (a : Nat) : List.count a (jtS R C L G nk nm t) = List.count a (jbO R C L G nk nm (oN (ai R 26 t)) ++ (flr (jtN (pcl R C L) (wN R) nm t) (tn (ai R 29 t)) 0 ++ (flr (fun i => flr (jcK (pcl R C L) (wN R) nk t i (insC (pcl R C L) (wN R) nk nm t)) (tn (ai R 36 (4 * t + i))) 0 ++ jbO R C L G nk nm (oN (ai R 33 (4 * t + i)))) (tn (ai R 32 t)) 0 ++ jbO R C L G nk nm (oN (ai R 28 t))))) := by
  obtain ⟨⟨w1, w2, w3, w4, w5, w6⟩, wk⟩ := TR.2.1 t ht.1 ht.2
  obtain ⟨k, k1, k2, -, -, -, -, n27, -⟩ := w5
  have k9 : k = 9 := nI_inj (by omega) (by omega) (by rw [← k1]; exact h9)
  have e27 : ai R 27 t = -1 := n27 (by omega)
  have ej : jcA (pcl R C L) (wN R) nk nm (nsC R) t = flr (jtN (pcl R C L) (wN R) nm t) (tn (ai R 29 t)) 0 ++ flr (fun i => flr (jcK (pcl R C L) (wN R) nk t i (insC (pcl R C L) (wN R) nk nm t)) (tn (ai R 36 (4 * t + i))) 0) (tn (ai R 32 t)) 0 := by
    unfold jcA
    rw [show ai (pcl R C L) 19 t = 9 from h9, if_neg (by decide), if_neg (by decide), if_pos rfl]
    rfl
  have ec := flr_count (F := fun i => flr (jcK (pcl R C L) (wN R) nk t i (insC (pcl R C L) (wN R) nk nm t)) (tn (ai R 36 (4 * t + i))) 0 ++ jbO R C L G nk nm (oN (ai R 33 (4 * t + i)))) (f := fun i => flr (jcK (pcl R C L) (wN R) nk t i (insC (pcl R C L) (wN R) nk nm t)) (tn (ai R 36 (4 * t + i))) 0) (g := fun i => jbO R C L G nk nm (oN (ai R 33 (4 * t + i)))) a (tn (ai R 32 t)) 0 (fun i _ _ => List.count_append ..)
  unfold jtS
  rw [ej, kids_flr TR ht, e27, oN_m1, show jbO R C L G nk nm none = [] from rfl]
  simp only [List.count_append, List.count_nil]
  rw [ec]
  omega
theorem jn_try (Bs : JBS h0 U a0 J R G nm fW) (K : KEQ R nk par) (eq : ∀ t, SRG R t → L t = b2i (lvS (pcl R C L) (wN R) (nsC R) t) ∧ C t = canS (pcl R C L) (wN R) nk nm (nsC R) t) {t j N : Nat} (ht : SRG R t) (h9 : ai R 19 t = 9) (rj : RCH R G nm j) (g1 : G 4 j ≤ t) (g2 : t < G 5 j) (e21 : ai R 21 t = nI j) (hN : 8 ≤ N) (IH : ∀ b, b ∈ kids R t → BKJ h0 T U e0 J R G nm fW nk par wk pk ns fS C L N b) (S : JST h0 T U e0 R G nm fW nk par wk pk ns fS h ks (B + (jtS R C L G nk nm t).length)) (un : ∀ s, t ≤ s → s < G 3 t → UNJ R G h s) (en : ENC R C L G nk nm h t (G 3 t))
    (H : ∀ h' ks', JST h0 T U e0 R G nm fW nk par wk pk ns fS h' ks' B → CTK ks' (jtS R C L G nk nm t) ks → (∀ s, t ≤ s → s < G 3 t → JDS R C L G nm h' s) → FX (EJP U e0 R G (inS t (G 3 t)) (kdS R t (G 3 t))) h h' → Q none h') : wp (d + N + 1) K_X2_judgeTry 0 [] [(0, vr (some J)), (1, vr (some (G 0 t)))] h Q := by
  have TR := Bs.1
  have s2 := TR.2.2.2.2.1
  have s3 := TR.2.2.2.2.2
  have ht1 := ht.1
  have ht2 := ht.2
  obtain ⟨⟨w1, w2, w3, w4, w5, w6⟩, wkd⟩ := TR.2.1 t ht.1 ht.2
  obtain ⟨p6, p7, p8, p9⟩ := w6
  have n4 := w2.2
  have g3 : G 3 t ≤ rsN R := by
    have rg := rj.rg TR
    have := TR.2.2.1 j rg.1 rg.2
    have := (this.1.2.2.2.2 t g1 g2 e21).1
    omega
  have eL := try_list (C := C) (L := L) (nk := nk) TR ht h9
  have lenL := (List.perm_iff_count.mpr eL).length_eq
  rw [lenL] at S
  have H2 : ∀ h' ks', JST h0 T U e0 R G nm fW nk par wk pk ns fS h' ks' B → CTK ks' (jbO R C L G nk nm (oN (ai R 26 t)) ++ (flr (jtN (pcl R C L) (wN R) nm t) (tn (ai R 29 t)) 0 ++ (flr (fun i => flr (jcK (pcl R C L) (wN R) nk t i (insC (pcl R C L) (wN R) nk nm t)) (tn (ai R 36 (4 * t + i))) 0 ++ jbO R C L G nk nm (oN (ai R 33 (4 * t + i)))) (tn (ai R 32 t)) 0 ++ jbO R C L G nk nm (oN (ai R 28 t))))) ks → (∀ s, t ≤ s → s < G 3 t → JDS R C L G nm h' s) → FX (EJP U e0 R G (inS t (G 3 t)) (kdS R t (G 3 t))) h h' → Q none h' := fun h' ks' S' c' => H h' ks' S' (fun a => by rw [eL a]; exact c' a)
  clear H eL lenL
  -- the blocks
  obtain ⟨k, k1, k2, b6, b7, b8, b3, n27, n28, n26, -⟩ := id w5
  have k9 : k = 9 := nI_inj (by omega) (by omega) (by rw [← k1]; exact h9)
  have e26 : ∃ b, oN (ai R 26 t) = some b := ⟨tn (ai R 26 t), by unfold oN; rw [if_neg (n26 (by omega))]⟩
  obtain ⟨b, e26⟩ := e26
  have mb := kid26 e26
  have r5 : ai R 40 b = 5 := by rw [k9] at b6; exact (b6.some s3 e26).2.2.2.1
  have r6 : ∀ i c, i < tn (ai R 32 t) → ai R 33 (4 * t + i) = nI c → c < 2 ^ 31 → c ∈ kids R t ∧ ai R 40 c = 6 ∧ ai R 42 c = nI i ∧ oN (ai R 33 (4 * t + i)) = some c := fun i c hi e hc => by
    have eo : oN (ai R 33 (4 * t + i)) = some c := by rw [e]; exact oN_nI hc
    have q := ((b3 i hi).1).some s3 eo
    exact ⟨kidC hi e hc, q.2.2.2.1, q.2.2.2.2.2, eo⟩
  have r7 : ∀ c, oN (ai R 28 t) = some c → c ∈ kids R t ∧ ai R 40 c = 7 := fun c e => ⟨kid28 e, (b8.some s3 e).2.2.2.1⟩
  obtain ⟨⟨i1, i2⟩, -, -, -, -, i9, -⟩ := Bs.sim S.2.2.2 ht
  obtain ⟨j1, j2, j3, j4⟩ := Bs.jo S.2.2.2
  rw [List.length_append, ← Nat.add_assoc, Nat.add_right_comm] at S
  rw [bk_X2_judgeTry_0, nn_some, i9]
  refine ⟨i1, j1, bk_opt (o := oN (ai R 26 t)) (by omega) (fun c e => IH c (kid26 e)) S (fun c e s h1 h2 => ?_) (fun c e => ?_) (fun h1 ks1 S1 c1 q1 x1 => ?_)⟩
  · have kd := kid_in TR ht (kid26 e)
    exact un s (by omega) (by omega)
  · refine enc_of TR rj g1 g2 e21 ht (kid26 e) en (fun i hi e2 => ?_)
    rw [e26] at e; cases e
    have := (r6 i b hi e2 (by have := wkd b mb; omega)).2.1
    rw [r5] at this; exact absurd this (by decide)
  simp only [psh]
  have K1 := (KST.ini (C := C) (L := L) TR ht un).opt Bs ht S.2.2.2 (fun c e => kid26 e) x1 q1
  have E1 := en.fx Bs ht1 g3 S.2.2.2 x1 (fun o lo z => by
    obtain ⟨c, e, z1, z2⟩ := z
    have := kid_in TR ht (kid26 e); omega)
  have U1 := (un t (Nat.le_refl _) w3).fx Bs ht i2 x1 (fun z => by
    obtain ⟨c, e, z1, z2⟩ := z
    have := kid_in TR ht (kid26 e); omega)
  have X1 := opt_fr TR ht (fun c e => kid26 e) x1
  clear x1 un en i1 i2 i9 j1 j2 j3 j4
  obtain ⟨⟨i1, i2⟩, -, -, -, -, i9, -⟩ := Bs.sim S1.2.2.2 ht
  obtain ⟨j1, j2, j3, j4⟩ := Bs.jo S1.2.2.2
  rw [bk_X2_judgeTry_4, nn_some, i9]
  refine ⟨i1, j_thrO (R := R) (C := C) (L := L) (fun c e => ⟨(Bs.bim S1.2.2.2 (wkd c (kid26 e))).1.1, (q1 c e).2⟩) ?_⟩
  simp only [psh]
  obtain ⟨-, -, -, -, -, -, -, i11, -⟩ := Bs.sim S1.2.2.2 ht
  rw [if_pos (Or.inl h9)] at i11
  rw [bk_X2_judgeTry_7, nn_some, i11]
  rw [List.length_append, ← Nat.add_assoc, Nat.add_right_comm] at S1
  refine ⟨i1, j1, jn_closing8 (C := C) (L := L) (by omega) Bs K ht h9 S1 (U1.2 h9) (Bs.nt ht h9).2.2.1 p8 (fun h2 ks2 S2 D2 c2 x2 => ?_)⟩
  simp only [psh]
  have K2 := K1.own Bs ht S1.2.2.2 x2 (fun s z => z) (fun _ z => z)
  have E2 := E1.fx Bs ht1 g3 S1.2.2.2 x2 (fun o lo z => by omega)
  have X2 := X1.tr (own_fr TR ht x2)
  have q2 : JDB R C L G h2 b := (q1 b e26).2.fx Bs (wkd b mb) (Bs.bim S1.2.2.2 (wkd b mb)).1.2 x2 (fun z => z)
  clear x2 K1 E1 U1 X1 q1 i1 i2 i9 i11 j1 j2 j3 j4
  obtain ⟨⟨i1, i2⟩, -, -, -, -, i9, -, -, -, -, i12, -⟩ := Bs.sim S2.2.2.2 ht
  obtain ⟨j1, j2, j3, j4⟩ := Bs.jo S2.2.2.2
  rw [bk_X2_judgeTry_11, nn_some, i9]
  refine ⟨i1, j_lftO (R := R) (C := C) (L := L) (fun c e => ?_) ?_⟩
  · rw [e26] at e; cases e
    exact ⟨(Bs.bim S2.2.2.2 (wkd b mb)).1.1, q2⟩
  simp only [psh]
  rw [bk_X2_judgeTry_20, nn_some, i12]
  refine ⟨i1, ?_⟩
  have el : (decide (oN (ai R 26 t) = none) || lfB (pcl R C L) (oN (ai R 26 t))) = lfB (pcl R C L) (oN (ai R 26 t)) := by
    rw [e26, decide_eq_false (fun z => by cases z), Bool.false_or]
  rw [el]
  -- the catches
  have LP : ∀ f i (h3 : AH) ks3, i + f = tn (ai R 32 t) → JST h0 T U e0 R G nm fW nk par wk pk ns fS h3 ks3 (B + (flr (fun i => flr (jcK (pcl R C L) (wN R) nk t i (insC (pcl R C L) (wN R) nk nm t)) (tn (ai R 36 (4 * t + i))) 0 ++ jbO R C L G nk nm (oN (ai R 33 (4 * t + i)))) f i ++ jbO R C L G nk nm (oN (ai R 28 t))).length) → KST R C L G nm h3 t (fun c => oN (ai R 26 t) = some c ∨ ∃ m, m < i ∧ ai R 33 (4 * t + m) = nI c) → ENC R C L G nk nm h3 t (G 3 t) → ND h3 (G 6 t) (tn (ai R 29 t)) (fun i => conv (al R 30 (4 * t + i))) (fun i => ai R 31 (4 * t + i)) (fun i => mN R (wN R) nm (al R 30 (4 * t + i))) → FX (EJP U e0 R G (inS t (G 3 t)) (kdS R t (G 3 t))) h h3 → (∀ h' ks', JST h0 T U e0 R G nm fW nk par wk pk ns fS h' ks' B → CTK ks' (flr (fun i => flr (jcK (pcl R C L) (wN R) nk t i (insC (pcl R C L) (wN R) nk nm t)) (tn (ai R 36 (4 * t + i))) 0 ++ jbO R C L G nk nm (oN (ai R 33 (4 * t + i)))) f i ++ jbO R C L G nk nm (oN (ai R 28 t))) ks3 → (∀ s, t ≤ s → s < G 3 t → JDS R C L G nm h' s) → FX (EJP U e0 R G (inS t (G 3 t)) (kdS R t (G 3 t))) h h' → Q none h') → wp (d + N + 1) K_X2_judgeTry 24 [] [(0, vr (some J)), (1, vr (some (G 0 t))), (2, vi (insS (pcl R C L) (wN R) nk nm t)), (3, vi (ahd (pcl R C L) (wN R) nk t i)), (4, vi (trM (pcl R C L) t i)), (5, vi (b2i (fup (fun k b => b || lfB (pcl R C L) (oN (ai R 33 (4 * t + k)))) i 0 (lfB (pcl R C L) (oN (ai R 26 t)))))), (6, vr (if i < tn (ai R 32 t) then some (G 2 (4 * t + i)) else none))] h3 Q := by
    intro f
    induction f with
    | zero =>
      intro i h3 ks3 e S3 K3 E3 D3 X3 H3
      have ei : i = tn (ai R 32 t) := by omega
      obtain ⟨⟨i1, i2⟩, -, -, -, -, -, i10, -⟩ := Bs.sim S3.2.2.2 ht
      obtain ⟨j1, j2, j3, j4⟩ := Bs.jo S3.2.2.2
      have kt : tg h3 (U + 1) = 6 := S3.2.1.1
      rw [if_pos h9] at i10
      rw [if_neg (by omega), bk_X2_judgeTry_24]
      refine ⟨fun _ => ?_, fun z => absurd rfl z⟩
      obtain ⟨N1, eN1⟩ : ∃ N1, d + N = N1 + 1 := ⟨d + N - 1, by omega⟩
      rw [bk_X2_judgeTry_61, j4, nn_some]
      refine ⟨j1, kt, ?_⟩
      rw [eN1, k_notUnder S3.2.1, ← eN1]
      simp only [psh]
      have eM : mask (fun k => hasB (insS (pcl R C L) (wN R) nk nm t) k && !undP par nk k (ahd (pcl R C L) (wN R) nk t i)) nk = mask (fun k => hasB (insS (pcl R C L) (wN R) nk nm t) k && !und (pcl R C L) (wN R) nk k (trA (pcl R C L) (wN R) nk t (tn (ai R 32 t)))) nk := mask_congr (fun k hk => by rw [K.ud (C := C) (L := L) hk, ahd_trA, ei])
      rw [eM]
      have eT : trM (pcl R C L) t i ||| mask (fun k => hasB (insS (pcl R C L) (wN R) nk nm t) k && !und (pcl R C L) (wN R) nk k (trA (pcl R C L) (wN R) nk t (tn (ai R 32 t)))) nk = trS (pcl R C L) (wN R) nk nm t := by
        rw [Int32.or_comm, ei]; rfl
      rw [bk_X2_judgeTry_67, nn_some, i10, eT]
      refine ⟨i1, j1, bk_opt (o := oN (ai R 28 t)) (by omega) (fun c e => IH c (kid28 e)) S3 (fun c e s h1 h2 => ?_) (fun c e => ?_) (fun h4 ks4 S4 c4 q4 x4 => ?_)⟩
      · refine (K3 c (kid28 e)).2 (fun z => ?_) s h1 h2
        have q := (r7 c e).2
        rcases z with z | ⟨m, m1, m2⟩
        · rw [e26] at z; cases z
          rw [r5] at q; exact absurd q (by decide)
        · have := (r6 m c (by omega) m2 (by have := wkd c (kid28 e); omega)).2.1
          rw [this] at q; exact absurd q (by decide)
      · refine enc_of TR rj g1 g2 e21 ht (kid28 e) E3 (fun m hm e2 => ?_)
        have q := (r7 c e).2
        have := (r6 m c hm e2 (by have := wkd c (kid28 e); omega)).2.1
        rw [this] at q; exact absurd q (by decide)
      simp only [psh]
      have K4 := K3.opt Bs ht S3.2.2.2 (fun c e => kid28 e) x4 q4
      have D4 : ND h4 (G 6 t) (tn (ai R 29 t)) (fun i => conv (al R 30 (4 * t + i))) (fun i => ai R 31 (4 * t + i)) (fun i => mN R (wN R) nm (al R 30 (4 * t + i))) := by
        obtain ⟨n1, n2, n3⟩ := EJP.nd (e0 := e0) (P := fun s => ∃ b, oN (ai R 28 t) = some b ∧ inS (G 4 b) (G 5 b) s) (D := fun c => ∃ b, oN (ai R 28 t) = some b ∧ kdB R G b c) Bs ht h9 (fun z => by
          obtain ⟨c, e, z1, z2⟩ := z
          have := kid_in TR ht (kid28 e); omega)
        exact D3.fx x4 (fun g hg z => by have := EJP.is z; omega) n1 n2 n3
      have X4 := X3.tr (opt_fr TR ht (fun c e => kid28 e) x4)
      have alj := K4.all TR ht (fun c m => by
        have kc := kid_is w5 s3 m
        rcases kc.2.2 with ⟨z, -⟩ | ⟨z, -⟩ | ⟨m, m1, m2, -⟩ | ⟨z, -⟩
        · exact Or.inl (Or.inl (by rw [z]; exact oN_nI (by omega)))
        · rw [n27 (by omega)] at z; exact absurd z.symm (nI_ne_m1 (by omega))
        · exact Or.inl (Or.inr ⟨m, by omega, m2⟩)
        · exact Or.inr (by rw [z]; exact oN_nI (by omega)))
      -- the end
      have fin : Q none (setFI (setFI h4 814 (G 0 t) (C t)) 10815 (G 0 t) (L t)) := by
        have xa : FX (EJP U e0 R G (fun s => s = t) (fun _ => False)) h4 (setFI (setFI h4 814 (G 0 t) (C t)) 10815 (G 0 t) (L t)) := (FX.FI (f := 814) (a := G 0 t) (v := C t) (Or.inr (Or.inl ⟨t, rfl, ht, Or.inl ⟨rfl, Or.inl rfl⟩⟩))).tr (FX.FI (Or.inr (Or.inl ⟨t, rfl, ht, Or.inl ⟨rfl, Or.inr (Or.inl rfl)⟩⟩)))
        have xw : FX (EJW U R G) h4 (setFI (setFI h4 814 (G 0 t) (C t)) 10815 (G 0 t) (L t)) := (FX.FI (f := 814) (a := G 0 t) (v := C t) (Or.inl ⟨by omega, (Bs.hi ht).1⟩)).tr (FX.FI (Or.inl ⟨by omega, (Bs.hi ht).1⟩))
        have f1 : fI (setFI (setFI h4 814 (G 0 t) (C t)) 10815 (G 0 t) (L t)) 814 (G 0 t) = C t := by
          rw [fI_setFI, if_neg (by omega), fI_setFI, if_pos ⟨rfl, rfl⟩]
        have f2 : fI (setFI (setFI h4 814 (G 0 t) (C t)) 10815 (G 0 t) (L t)) 10815 (G 0 t) = L t := if_pos ⟨rfl, rfl⟩
        have S5 := S4.w Bs xw rfl rfl
        have D5 : ND (setFI (setFI h4 814 (G 0 t) (C t)) 10815 (G 0 t) (L t)) (G 6 t) (tn (ai R 29 t)) (fun i => conv (al R 30 (4 * t + i))) (fun i => ai R 31 (4 * t + i)) (fun i => mN R (wN R) nm (al R 30 (4 * t + i))) := by
          have xl : FX (fun g y => y = G 0 t ∧ (g = 814 ∨ g = 10815)) h4 (setFI (setFI h4 814 (G 0 t) (C t)) 10815 (G 0 t) (L t)) := (FX.FI (f := 814) (a := G 0 t) (v := C t) ⟨rfl, Or.inl rfl⟩).tr (FX.FI ⟨rfl, Or.inr rfl⟩)
          exact D4.fx xl (fun g hg z => by have := z.2; omega) (fun z => by have := z.2; omega) (fun z => by have := z.2; omega) (fun z => by have := z.2; omega)
        generalize setFI (setFI h4 814 (G 0 t) (C t)) 10815 (G 0 t) (L t) = h5 at *
        refine H3 h5 ks4 S5 c4 (fun s h1 h2 => ?_) (X4.tr (own_fr TR ht xa))
        by_cases y : s = t
        · rw [y]
          refine ⟨⟨f1, f2⟩, fun c m => ?_, fun q => ?_, fun _ => D5⟩
          · exact (alj.2 c m).fx Bs (wkd c m) (Bs.bim S4.2.2.2 (wkd c m)).1.2 xa (fun z => z)
          · rw [h9] at q; exact absurd q (by decide)
        · have hs : SRG R s := ⟨by omega, by omega⟩
          exact (alj.1 s (by omega) h2).fx Bs hs S4.2.2.2 xa y (fun _ _ z => z)
      have eC : C t = triS (pcl R C L) (wN R) nk nm t := by
        rw [(eq t ht).2]
        unfold canS
        rw [show ai (pcl R C L) 19 t = 9 from h9, if_neg (by decide), if_neg (by decide), if_neg (by decide), if_pos rfl]
      have eLt : L t = b2i (fup (fun k b => b || lfB (pcl R C L) (oN (ai R 33 (4 * t + k)))) (tn (ai R 32 t)) 0 (lfB (pcl R C L) (oN (ai R 26 t))) && (decide (oN (ai R 28 t) = none) || lfB (pcl R C L) (oN (ai R 28 t)))) := by
        rw [(eq t ht).1]
        unfold lvS
        rw [show ai (pcl R C L) 19 t = 9 from h9, if_neg (by decide), if_neg (by decide), if_neg (by decide), if_pos rfl]
        rfl
      obtain ⟨⟨i1, i2⟩, -, -, -, -, -, i10, -⟩ := Bs.sim S4.2.2.2 ht
      rw [if_pos h9] at i10
      have jd : ∀ c, oN (ai R 28 t) = some c → tg h4 (G 1 c) = 3 ∧ JDB R C L G h4 c := fun c e => ⟨(Bs.bim S4.2.2.2 (wkd c (kid28 e))).1.1, (q4 c e).2⟩
      rw [bk_X2_judgeTry_73, nn_some, i10]
      refine ⟨i1, j_thrO (R := R) (C := C) (L := L) jd ?_⟩
      simp only [psh]
      rw [bk_X2_judgeTry_77, nn_some, i10]
      refine ⟨i1, j_lftO (R := R) (C := C) (L := L) jd ?_⟩
      simp only [psh]
      -- behind what it can throw
      have last : ∀ v6, wp (d + N + 1) K_X2_judgeTry 84 [vi (if (decide (oN (ai R 28 t) = none) || lfB (pcl R C L) (oN (ai R 28 t))) then trS (pcl R C L) (wN R) nk nm t else 0), vi (bcS (pcl R C L) (oN (ai R 28 t))), vr (some (G 0 t))] [(0, vr (some J)), (1, vr (some (G 0 t))), (2, vi (insS (pcl R C L) (wN R) nk nm t)), (3, vi (ahd (pcl R C L) (wN R) nk t i)), (4, vi (trS (pcl R C L) (wN R) nk nm t)), (5, vi (b2i (fup (fun k b => b || lfB (pcl R C L) (oN (ai R 33 (4 * t + k)))) i 0 (lfB (pcl R C L) (oN (ai R 26 t)))))), (6, vr v6)] h4 Q := fun v6 => by
        have ev : bcS (pcl R C L) (oN (ai R 28 t)) ||| (if (decide (oN (ai R 28 t) = none) || lfB (pcl R C L) (oN (ai R 28 t))) then trS (pcl R C L) (wN R) nk nm t else 0) = C t := by
          rw [eC]
          unfold triS
          show _ = (match oN (ai R 28 t) with | none => trS (pcl R C L) (wN R) nk nm t | some b => if lfB (pcl R C L) (some b) then trS (pcl R C L) (wN R) nk nm t ||| bcS (pcl R C L) (some b) else bcS (pcl R C L) (some b))
          cases oN (ai R 28 t) with
          | none => exact Int32.zero_or
          | some c =>
            show bcS (pcl R C L) (some c) ||| (if (decide (some c = none) || lfB (pcl R C L) (some c)) then trS (pcl R C L) (wN R) nk nm t else 0) = (if lfB (pcl R C L) (some c) then trS (pcl R C L) (wN R) nk nm t ||| bcS (pcl R C L) (some c) else bcS (pcl R C L) (some c))
            rw [decide_eq_false (fun z => by cases z), Bool.false_or]
            cases lfB (pcl R C L) (some c) with
            | true => rw [if_pos rfl, if_pos rfl, Int32.or_comm]
            | false => rw [if_neg (by decide), if_neg (by decide), Int32.or_zero]
        rw [bk_X2_judgeTry_84, nn_some, ev, ei, b2i_0]
        have xs : FX (fun g y => y = G 0 t ∧ g = 814) h4 (setFI h4 814 (G 0 t) (C t)) := FX.FI ⟨rfl, rfl⟩
        have jd5 : ∀ c, oN (ai R 28 t) = some c → tg (setFI h4 814 (G 0 t) (C t)) (G 1 c) = 3 ∧ JDB R C L G (setFI h4 814 (G 0 t) (C t)) c := fun c e => by
          refine ⟨(jd c e).1, ?_, ?_⟩
          · rw [fI_setFI, if_neg (by omega)]; exact (jd c e).2.1
          · rw [fI_setFI, if_neg (by omega)]; exact (jd c e).2.2
        have i10' : fP (setFI h4 814 (G 0 t) (C t)) 30810 (G 0 t) = (oN (ai R 28 t)).map (G 1) := i10
        have i1' : tg (setFI h4 814 (G 0 t) (C t)) (G 0 t) = 9 := i1
        generalize setFI h4 814 (G 0 t) (C t) = h5 at *
        have zero : (fup (fun k b => b || lfB (pcl R C L) (oN (ai R 33 (4 * t + k)))) (tn (ai R 32 t)) 0 (lfB (pcl R C L) (oN (ai R 26 t))) && (decide (oN (ai R 28 t) = none) || lfB (pcl R C L) (oN (ai R 28 t)))) = false → ∀ lc, wp (d + N + 1) K_X2_judgeTry 95 [vr (some (G 0 t))] [(0, vr (some J)), (1, vr (some (G 0 t))), (2, vi (insS (pcl R C L) (wN R) nk nm t)), (3, vi (ahd (pcl R C L) (wN R) nk t (tn (ai R 32 t)))), (4, vi (trS (pcl R C L) (wN R) nk nm t)), (5, vi lc), (6, vr v6)] h5 Q := fun z lc => by
          rw [bk_X2_judgeTry_95, bk_X2_judgeTry_96, nn_some]
          rw [z] at eLt
          rw [eLt] at fin
          exact ⟨i1', Or.inl rfl, fin⟩
        refine ⟨i1, fun z => ?_, fun z => ?_⟩
        · exact zero (by rw [z, Bool.false_and]) _
        · have z := bt z
          rw [bk_X2_judgeTry_89, nn_some, i10']
          refine ⟨i1', j_lftO (R := R) (C := C) (L := L) jd5 ?_⟩
          simp only [psh]
          rw [bk_X2_judgeTry_92, b2i_0]
          refine ⟨fun y => zero (by rw [y, Bool.and_false]) _, fun y => ?_⟩
          rw [bk_X2_judgeTry_93, bk_X2_judgeTry_96, nn_some]
          rw [z, bt y] at eLt
          rw [eLt] at fin
          exact ⟨i1', Or.inr rfl, fin⟩
      rw [bk_X2_judgeTry_80, b2i_0]
      refine ⟨fun z => ?_, fun z => ?_⟩
      · rw [bk_X2_judgeTry_83]
        have := last none
        rw [z, if_neg (by decide)] at this
        exact this
      · rw [bk_X2_judgeTry_81]
        have := last none
        rw [bt z, if_pos rfl] at this
        exact this
    | succ f ih =>
      intro i h3 ks3 e S3 K3 E3 D3 X3 H3
      have hi : i < tn (ai R 32 t) := by omega
      obtain ⟨⟨i1, i2⟩, -, -, -, -, -, -, -, -, -, -, -, -, ic⟩ := Bs.sim S3.2.2.2 ht
      obtain ⟨j1, j2, j3, j4⟩ := Bs.jo S3.2.2.2
      obtain ⟨cf, cl⟩ := ic i hi
      have lt2 : G 2 (4 * t + i) < tp h3 := by omega
      obtain ⟨y1, y2⟩ := b3 i hi
      have eo : oN (ai R 33 (4 * t + i)) = some (tn (ai R 33 (4 * t + i))) := by unfold oN; rw [if_neg y2]
      obtain ⟨z1, z2, z3, z4, z5, z6⟩ := y1.some s3 eo
      generalize tn (ai R 33 (4 * t + i)) = q at eo z1 z2 z3 z4 z5 z6
      have mq := kidC hi z1 (by omega)
      have kd := kid_in TR ht mq
      rw [show flr (fun i => flr (jcK (pcl R C L) (wN R) nk t i (insC (pcl R C L) (wN R) nk nm t)) (tn (ai R 36 (4 * t + i))) 0 ++ jbO R C L G nk nm (oN (ai R 33 (4 * t + i)))) (f + 1) i = (flr (jcK (pcl R C L) (wN R) nk t i (insC (pcl R C L) (wN R) nk nm t)) (tn (ai R 36 (4 * t + i))) 0 ++ jbO R C L G nk nm (oN (ai R 33 (4 * t + i)))) ++ flr (fun i => flr (jcK (pcl R C L) (wN R) nk t i (insC (pcl R C L) (wN R) nk nm t)) (tn (ai R 36 (4 * t + i))) 0 ++ jbO R C L G nk nm (oN (ai R 33 (4 * t + i)))) f (i + 1) from rfl, List.append_assoc, List.append_assoc] at S3 H3
      rw [if_pos hi, bk_X2_judgeTry_24]
      refine ⟨fun z => (by cases z), fun _ => ?_⟩
      rw [bk_X2_judgeTry_26, nn_some, nn_some]
      have xa : FX (fun g y => y = G 2 (4 * t + i) ∧ (g = 307 ∨ g = 308)) h3 (setFI (setFI h3 307 (G 2 (4 * t + i)) (insS (pcl R C L) (wN R) nk nm t)) 308 (G 2 (4 * t + i)) (ahd (pcl R C L) (wN R) nk t i)) := (FX.FI (f := 307) (a := G 2 (4 * t + i)) (v := insS (pcl R C L) (wN R) nk nm t) ⟨rfl, Or.inl rfl⟩).tr (FX.FI ⟨rfl, Or.inr rfl⟩)
      have f7 : fI (setFI (setFI h3 307 (G 2 (4 * t + i)) (insS (pcl R C L) (wN R) nk nm t)) 308 (G 2 (4 * t + i)) (ahd (pcl R C L) (wN R) nk t i)) 307 (G 2 (4 * t + i)) = insS (pcl R C L) (wN R) nk nm t := by
        rw [fI_setFI, if_neg (by omega), fI_setFI, if_pos ⟨rfl, rfl⟩]
      have f8 : fI (setFI (setFI h3 307 (G 2 (4 * t + i)) (insS (pcl R C L) (wN R) nk nm t)) 308 (G 2 (4 * t + i)) (ahd (pcl R C L) (wN R) nk t i)) 308 (G 2 (4 * t + i)) = ahd (pcl R C L) (wN R) nk t i := if_pos ⟨rfl, rfl⟩
      have hg2 := (Bs.hi ht).2.2.2 i hi
      have S4 := S3.w Bs (xa.mono (fun g y z => Or.inl ⟨by have := z.2; omega, by have := z.1; omega⟩)) rfl rfl
      refine ⟨cf.1.2.1, cf.1.2.1, j1, ?_⟩
      have xo : FX (EJP U e0 R G (fun s => s = t) (fun _ => False)) h3 (setFI (setFI h3 307 (G 2 (4 * t + i)) (insS (pcl R C L) (wN R) nk nm t)) 308 (G 2 (4 * t + i)) (ahd (pcl R C L) (wN R) nk t i)) := xa.mono (fun g y z => Or.inr (Or.inl ⟨t, rfl, ht, Or.inr (Or.inl ⟨i, hi, z.1, z.2⟩)⟩))
      have D4 : ND (setFI (setFI h3 307 (G 2 (4 * t + i)) (insS (pcl R C L) (wN R) nk nm t)) 308 (G 2 (4 * t + i)) (ahd (pcl R C L) (wN R) nk t i)) (G 6 t) (tn (ai R 29 t)) (fun i => conv (al R 30 (4 * t + i))) (fun i => ai R 31 (4 * t + i)) (fun i => mN R (wN R) nm (al R 30 (4 * t + i))) := D3.fx xa (fun g hg z => by have := z.2; omega) (fun z => by have := z.2; omega) (fun z => by have := z.2; omega) (fun z => by have := z.2; omega)
      have tl : tp (setFI (setFI h3 307 (G 2 (4 * t + i)) (insS (pcl R C L) (wN R) nk nm t)) 308 (G 2 (4 * t + i)) (ahd (pcl R C L) (wN R) nk t i)) = tp h3 := rfl
      generalize setFI (setFI h3 307 (G 2 (4 * t + i)) (insS (pcl R C L) (wN R) nk nm t)) 308 (G 2 (4 * t + i)) (ahd (pcl R C L) (wN R) nk t i) = h4 at *
      have cf4 := ((Bs.sim S4.2.2.2 ht).2.2.2.2.2.2.2.2.2.2.2.2.2 i hi).1
      rw [List.length_append, ← Nat.add_assoc, Nat.add_right_comm] at S4
      refine jn_catch8 (C := C) (L := L) (by omega) Bs K cf4 (by omega) f7 f8 (p9 i hi).2.2 S4 (fun h5 ks5 S5 c5 x5 => ?_)
      simp only [psh]
      have K4 := K3.own Bs ht S3.2.2.2 xo (fun s z => z) (fun _ z => z)
      have E4 := E3.fx Bs ht1 g3 S3.2.2.2 xo (fun o lo z => by omega)
      have x5' : FX (EJP U e0 R G (fun s => s = t) (fun _ => False)) h4 h5 := x5.mono EJP.ls
      have K5 := K4.own Bs ht S4.2.2.2 x5' (fun s z => z) (fun _ z => z)
      have E5 := E4.fx Bs ht1 g3 S4.2.2.2 x5' (fun o lo z => by omega)
      have X5 := X3.tr ((own_fr TR ht xo).tr (own_fr TR ht x5'))
      have D5 := D4.fx x5 (fun g hg => els_no (by omega)) (els_no (by omega)) (els_no (by omega)) (els_no (by omega))
      have f7' : fI h5 307 (G 2 (4 * t + i)) = insS (pcl R C L) (wN R) nk nm t := by rw [x5.fI (by omega) (els_no (by omega))]; exact f7
      have f8' : fI h5 308 (G 2 (4 * t + i)) = ahd (pcl R C L) (wN R) nk t i := by rw [x5.fI (by omega) (els_no (by omega))]; exact f8
      clear K4 E4 D4 xo xa f7 f8
      obtain ⟨k1', k2', k3', k4'⟩ := Bs.jo S5.2.2.2
      have cf5 := ((Bs.sim S5.2.2.2 ht).2.2.2.2.2.2.2.2.2.2.2.2.2 i hi).1
      rw [List.length_append, ← Nat.add_assoc, Nat.add_right_comm] at S5
      rw [bk_X2_judgeTry_35, nn_some, cf5.2.1]
      have mo : ∀ c, oN (ai R 33 (4 * t + i)) = some c → c = q := fun c e => by rw [eo] at e; cases e; rfl
      refine ⟨cf5.1.2.1, k1', bk_opt (o := oN (ai R 33 (4 * t + i))) (by omega) (fun c e => IH c (by rw [mo c e]; exact mq)) S5 (fun c e s h1 h2 => ?_) (fun c e => ?_) (fun h6 ks6 S6 c6 q6 x6 => ?_)⟩
      · rw [mo c e] at h1 h2
        refine (K5 q mq).2 (fun z => ?_) s h1 h2
        rcases z with z | ⟨m, m1, m2⟩
        · rw [e26] at z; cases z
          rw [r5] at z4; exact absurd z4 (by decide)
        · have := (r6 m q (by omega) m2 (by omega)).2.2.1
          rw [z6] at this
          have := nI_inj (by omega) (by omega) this; omega
      · rw [mo c e]
        refine enc_of TR rj g1 g2 e21 ht mq E5 (fun m hm e2 => ?_)
        have := (r6 m q hm e2 (by omega)).2.2.1
        rw [z6] at this
        have : i = m := nI_inj (by omega) (by omega) this
        rw [← this]
        exact ⟨f7', f8'⟩
      simp only [psh]
      have mk : ∀ c, oN (ai R 33 (4 * t + i)) = some c → c ∈ kids R t := fun c e => by rw [mo c e]; exact mq
      have K6 := K5.opt Bs ht S5.2.2.2 mk x6 q6
      have np : ∀ o, o ≤ t → ¬ ∃ b, oN (ai R 33 (4 * t + i)) = some b ∧ inS (G 4 b) (G 5 b) o := fun o lo z => by
        obtain ⟨c, e, zz1, zz2⟩ := z
        have := kid_in TR ht (mk c e); omega
      have E6 := E5.fx Bs ht1 g3 S5.2.2.2 x6 (fun o lo => np o (by omega))
      have X6 := X5.tr (opt_fr TR ht mk x6)
      have D6 : ND h6 (G 6 t) (tn (ai R 29 t)) (fun i => conv (al R 30 (4 * t + i))) (fun i => ai R 31 (4 * t + i)) (fun i => mN R (wN R) nm (al R 30 (4 * t + i))) := by
        obtain ⟨n1, n2, n3⟩ := EJP.nd (e0 := e0) (P := fun s => ∃ b, oN (ai R 33 (4 * t + i)) = some b ∧ inS (G 4 b) (G 5 b) s) (D := fun c => ∃ b, oN (ai R 33 (4 * t + i)) = some b ∧ kdB R G b c) Bs ht h9 (np t (Nat.le_refl _))
        exact D5.fx x6 (fun g hg z => by have := EJP.is z; omega) n1 n2 n3
      clear K5 E5 X5 D5 x6
      have cf6 := ((Bs.sim S6.2.2.2 ht).2.2.2.2.2.2.2.2.2.2.2.2.2 i hi).1
      have jd : ∀ c, oN (ai R 33 (4 * t + i)) = some c → tg h6 (G 1 c) = 3 ∧ JDB R C L G h6 c := fun c e => ⟨(Bs.bim S6.2.2.2 (wkd c (mk c e))).1.1, (q6 c e).2⟩
      have DN := cf6.1.2.2.2.1
      rw [bk_X2_judgeTry_39, nn_some, cf6.2.1]
      refine ⟨cf6.1.2.1, j_thrO (R := R) (C := C) (L := L) jd ?_⟩
      simp only [psh]
      rw [bk_X2_judgeTry_43, nn_some, cf6.2.1]
      refine ⟨cf6.1.2.1, j_lftO (R := R) (C := C) (L := L) jd ?_⟩
      simp only [psh]
      obtain ⟨N1, eN1⟩ : ∃ N1, d + N = N1 + 1 := ⟨d + N - 1, by omega⟩
      rw [bk_X2_judgeTry_49, nn_some, cf6.1.2.2.1, nn_some]
      refine ⟨cf6.1.2.1, DN.1, ?_⟩
      rw [eN1, n_asSet DN, ← eN1]
      simp only [psh]
      rw [bk_X2_judgeTry_55, nn_some, cf6.2.2.1, show (4 * t + i) % 4 = i by omega, show (4 * t + i) / 4 = t by omega]
      refine ⟨cf6.1.2.1, ?_⟩
      have v3 : ahd (pcl R C L) (wN R) nk t i ||| nsS (cgK R (wN R) (nkN R) (4 * t + i)) (tn (ai R 36 (4 * t + i))) = ahd (pcl R C L) (wN R) nk t (i + 1) := by
        unfold ahd
        rw [fup_snoc, ← K.1]; rfl
      have v4 : trM (pcl R C L) t i ||| bcS (pcl R C L) (oN (ai R 33 (4 * t + i))) = trM (pcl R C L) t (i + 1) := by
        unfold trM
        rw [fup_snoc, Nat.zero_add]; rfl
      have v5 : b2i (fup (fun k b => b || lfB (pcl R C L) (oN (ai R 33 (4 * t + k)))) i 0 (lfB (pcl R C L) (oN (ai R 26 t)))) ||| b2i (decide (oN (ai R 33 (4 * t + i)) = none) || lfB (pcl R C L) (oN (ai R 33 (4 * t + i)))) = b2i (fup (fun k b => b || lfB (pcl R C L) (oN (ai R 33 (4 * t + k)))) (i + 1) 0 (lfB (pcl R C L) (oN (ai R 26 t)))) := by
        rw [fup_snoc, Nat.zero_add, eo, decide_eq_false (fun z => by cases z), Bool.false_or, ← eo]
        generalize fup (fun k b => b || lfB (pcl R C L) (oN (ai R 33 (4 * t + k)))) i 0 (lfB (pcl R C L) (oN (ai R 26 t))) = p1
        generalize lfB (pcl R C L) (oN (ai R 33 (4 * t + i))) = p2
        cases p1 <;> cases p2 <;> decide
      rw [v3, v4, v5]
      refine ih (i + 1) h6 ks6 (by omega) S6 (K6.cg (fun c m => ?_)) E6 D6 X6 (fun h7 ks7 S7 c7 q7 x7 => H3 h7 ks7 S7 (c5.tr (c6.tr c7)) q7 x7)
      constructor
      · rintro ((y | ⟨m', m1, m2⟩) | y)
        · exact Or.inl y
        · exact Or.inr ⟨m', by omega, m2⟩
        · exact Or.inr ⟨i, by omega, by rw [z1, mo c y]⟩
      · rintro (y | ⟨m', m1, m2⟩)
        · exact Or.inl (Or.inl y)
        · by_cases em : m' = i
          · rw [em, z1] at m2
            have := kid_in TR ht m
            have : q = c := nI_inj (by omega) (by omega) m2
            exact Or.inr (by rw [eo, this])
          · exact Or.inl (Or.inr ⟨m', by omega, m2⟩)
  have ins : bcS (pcl R C L) (oN (ai R 26 t)) ||| nmS (pcl R C L) (wN R) nk nm t = insS (pcl R C L) (wN R) nk nm t := rfl
  rw [ins]
  have LP0 := LP (tn (ai R 32 t)) 0 h2 ks2 (by omega) S2 (K2.cg (fun c m => ?_)) E2 D2 X2 (fun h7 ks7 S7 c7 q7 x7 => H2 h7 ks7 S7 (c1.tr (c2.tr c7)) q7 x7)
  · exact LP0
  · constructor
    · rintro (y | y)
      · exact y.elim
      · exact Or.inl y
    · rintro (y | ⟨m', m1, -⟩)
      · exact Or.inr y
      · omega
end
