/-! The class's judging: the blocks of a statement -/
def BKJ (h0 : AH) (T U e0 J : Nat) (R : RV) (G : Nat → Nat → Nat) (nm : Nat) (fW : Nat → Nat) (nk : Nat) (par : Nat → Nat) (wk : Nat → Int64) (pk : Nat → Int32) (ns : Nat) (fS : Nat → Nat) (C L : Nat → Int32) (N b : Nat) : Prop := ∀ d h ks B (Q : Option V → AH → Prop), JST h0 T U e0 R G nm fW nk par wk pk ns fS h ks (B + (jbL R C L G nk nm b).length) → (∀ s, G 4 b ≤ s → s < G 5 b → UNJ R G h s) → ENC R C L G nk nm h (G 4 b) (G 5 b) → (∀ h' ks', JST h0 T U e0 R G nm fW nk par wk pk ns fS h' ks' B → CTK ks' (jbL R C L G nk nm b) ks → (∀ s, G 4 b ≤ s → s < G 5 b → JDS R C L G nm h' s) → JDB R C L G h' b → FX (EJP U e0 R G (inS (G 4 b) (G 5 b)) (kdB R G b)) h h' → Q none h') → wp (d + N) K_X2_judgeBlock 0 [] [(0, vr (some J)), (1, vr (some (G 1 b)))] h Q
/-- which blocks of a statement are judged -/
def KST (R : RV) (C L : Nat → Int32) (G : Nat → Nat → Nat) (nm : Nat) (h : AH) (t : Nat) (Dn : Nat → Prop) : Prop := ∀ b, b ∈ kids R t → (Dn b → JDB R C L G h b ∧ ∀ s, G 4 b ≤ s → s < G 5 b → JDS R C L G nm h s) ∧ (¬ Dn b → ∀ s, G 4 b ≤ s → s < G 5 b → UNJ R G h s)
section
variable {d : Nat} {h0 h : AH} {Q : Option V → AH → Prop} {T U a0 e0 J : Nat} {R : RV} {G : Nat → Nat → Nat} {nm : Nat} {fW : Nat → Nat} {nk : Nat} {par : Nat → Nat} {wk : Nat → Int64} {pk : Nat → Int32} {ns : Nat} {fS : Nat → Nat} {ks : List Nat} {B : Nat} {C L : Nat → Int32}
theorem bk_opt {N : Nat} {o : Option Nat} (hd : N ≤ d) (IH : ∀ b, o = some b → BKJ h0 T U e0 J R G nm fW nk par wk pk ns fS C L N b) (S : JST h0 T U e0 R G nm fW nk par wk pk ns fS h ks (B + (jbO R C L G nk nm o).length)) (un : ∀ b, o = some b → ∀ s, G 4 b ≤ s → s < G 5 b → UNJ R G h s) (en : ∀ b, o = some b → ENC R C L G nk nm h (G 4 b) (G 5 b))
    (H : ∀ h' ks', JST h0 T U e0 R G nm fW nk par wk pk ns fS h' ks' B → CTK ks' (jbO R C L G nk nm o) ks → (∀ b, o = some b → (∀ s, G 4 b ≤ s → s < G 5 b → JDS R C L G nm h' s) ∧ JDB R C L G h' b) → FX (EJP U e0 R G (fun s => ∃ b, o = some b ∧ inS (G 4 b) (G 5 b) s) (fun c => ∃ b, o = some b ∧ kdB R G b c)) h h' → Q none h') : wp d K_X2_judgeBlock 0 [] [(0, vr (some J)), (1, vr (o.map (G 1)))] h Q := by
  obtain ⟨d, rfl⟩ : ∃ e, d = e + N := ⟨d - N, by omega⟩
  cases o with
  | none =>
    show wp _ _ _ _ [(0, vr (some J)), (1, vr none)] _ _
    rw [bk_X2_judgeBlock_0]
    refine ⟨fun z => absurd rfl z, fun _ => ?_⟩
    rw [bk_X2_judgeBlock_2]
    exact H h ks S CTK.rf (fun b e => by cases e) FX.rf
  | some b =>
    exact IH b rfl d h ks B Q S (un b rfl) (en b rfl) (fun h' ks' S' c' j' b' x' => H h' ks' S' c' (fun b e => by cases e; exact ⟨j', b'⟩) (x'.mono (EJP.mono (fun s z => ⟨b, rfl, z⟩) (fun c z => ⟨b, rfl, z⟩))))
theorem j_thrO {o : Option Nat} (tb : ∀ b, o = some b → tg h (G 1 b) = 3 ∧ JDB R C L G h b) (H : Q (some (vi (bcS (pcl R C L) o))) h) : wp d K_X2_throwOf 0 [] [(0, vr (o.map (G 1)))] h Q := by
  refine j_thrown (can := bcS (pcl R C L) o) (fun b e => ?_) (fun e => ?_) H
  · cases o with
    | none => cases e
    | some c =>
      have e : G 1 c = b := Option.some.inj e
      rw [← e]
      exact ⟨(tb c rfl).1, (tb c rfl).2.1⟩
  · cases o with
    | none => rfl
    | some c => cases e
theorem j_lftO {o : Option Nat} (tb : ∀ b, o = some b → tg h (G 1 b) = 3 ∧ JDB R C L G h b) (H : Q (some (vi (b2i (decide (o = none) || lfB (pcl R C L) o)))) h) : wp d K_X2_isLeft 0 [] [(0, vr (o.map (G 1)))] h Q := by
  refine j_isLeft (v := decide (o = none) || lfB (pcl R C L) o) (fun b e => ?_) (fun e => ?_) H
  · cases o with
    | none => cases e
    | some c =>
      have e : G 1 c = b := Option.some.inj e
      rw [← e]
      exact ⟨(tb c rfl).1, (tb c rfl).2.2⟩
  · cases o with
    | none => rfl
    | some c => cases e
theorem kid_own (TR : TRE R G nm) {s t b : Nat} (hs : SRG R s) (ht : SRG R t) (m : b ∈ kids R s) (m' : b ∈ kids R t) : s = t := by
  have s2 := TR.2.2.2.2.1
  have l1 := hs.2
  have l2 := ht.2
  have e1 := (kid_is (TR.2.1 s hs.1 hs.2).1.2.2.2.2.1 TR.2.2.2.2.2 m).1
  have e2 := (kid_is (TR.2.1 t ht.1 ht.2).1.2.2.2.2.1 TR.2.2.2.2.2 m').1
  exact nI_inj (by omega) (by omega) (by rw [← e1, ← e2])
theorem kid_in (TR : TRE R G nm) {t b : Nat} (ht : SRG R t) (m : b ∈ kids R t) : t + 1 ≤ G 4 b ∧ G 4 b ≤ G 5 b ∧ G 5 b ≤ G 3 t ∧ (wN R * 1024 ≤ b ∧ b < nbN R) ∧ G 5 b ≤ rsN R := by
  obtain ⟨⟨w1, w2, w3, w4, w5, w6⟩, wk⟩ := TR.2.1 t ht.1 ht.2
  have c := (w4.le).2 b m
  have rb := wk b m
  exact ⟨c.1, c.2.1, c.2.2, rb, (TR.2.2.1 b rb.1 rb.2).2.2⟩
theorem kid_fr (TR : TRE R G nm) {t b : Nat} (ht : SRG R t) (m : b ∈ kids R t) : (∀ s, inS (G 4 b) (G 5 b) s → inS t (G 3 t) s) ∧ ∀ c, kdB R G b c → kdS R t (G 3 t) c := by
  have c := kid_in TR ht m
  have w3 := (TR.2.1 t ht.1 ht.2).1.2.2.1
  refine ⟨fun s z => ⟨by have := z.1; omega, by have := z.2; omega⟩, fun x z => ?_⟩
  rcases z with z | ⟨s, s1, s2, s3, s4⟩
  · rw [z]; exact ⟨t, Nat.le_refl _, w3, ht, m⟩
  · exact ⟨s, by omega, by omega, s3, s4⟩
theorem kid_sep (TR : TRE R G nm) {t b b' : Nat} (ht : SRG R t) (m : b ∈ kids R t) (m' : b' ∈ kids R t) (ne : ¬ b = b') : (∀ s, G 4 b' ≤ s → s < G 5 b' → ¬ inS (G 4 b) (G 5 b) s ∧ ∀ c, c ∈ kids R s → ¬ kdB R G b c) ∧ ¬ kdB R G b b' := by
  have w4 := (TR.2.1 t ht.1 ht.2).1.2.2.2.1
  have k := kid_in TR ht m
  have k' := kid_in TR ht m'
  have t1 := ht.1
  refine ⟨fun s h1 h2 => ?_, fun z => ?_⟩
  · have hs : SRG R s := ⟨by omega, by omega⟩
    refine ⟨fun z => ne (CI.dj w4 m m' z.1 z.2 h1 h2), fun c mc z => ?_⟩
    rcases z with z | ⟨s', s1, s2, s3, s4⟩
    · rw [z] at mc
      have := kid_own TR hs ht mc m; omega
    · have := kid_own TR hs s3 mc s4
      rw [← this] at s1 s2
      exact ne (CI.dj w4 m m' s1 s2 h1 h2)
  · rcases z with z | ⟨s', s1, s2, s3, s4⟩
    · exact ne z.symm
    · have := kid_own TR s3 ht s4 m'; omega
theorem KST.cg {t : Nat} {Dn Dn' : Nat → Prop} (e : ∀ b, b ∈ kids R t → (Dn b ↔ Dn' b)) (k : KST R C L G nm h t Dn) : KST R C L G nm h t Dn' := fun b m => ⟨fun z => (k b m).1 ((e b m).mpr z), fun z => (k b m).2 (fun y => z ((e b m).mp y))⟩
theorem KST.own {h' : AH} {P D : Nat → Prop} (Bs : JBS h0 U a0 J R G nm fW) {t : Nat} {Dn : Nat → Prop} (ht : SRG R t) (x0 : FX (EJA U e0 R G) h0 h) (k : KST R C L G nm h t Dn) (x : FX (EJP U e0 R G P D) h h') (np : ∀ s, P s → s = t) (nd : ∀ b, ¬ D b) : KST R C L G nm h' t Dn := by
  intro b m
  have kd := kid_in Bs.1 ht m
  have t1 := ht.1
  refine ⟨fun z => ⟨((k b m).1 z).1.fx Bs kd.2.2.2.1 (Bs.bim x0 kd.2.2.2.1).1.2 x (nd b), fun s h1 h2 => ?_⟩, fun z s h1 h2 => ?_⟩
  · have hs : SRG R s := ⟨by omega, by omega⟩
    exact (((k b m).1 z).2 s h1 h2).fx Bs hs x0 x (fun y => by have := np s y; omega) (fun b _ => nd b)
  · have hs : SRG R s := ⟨by omega, by omega⟩
    exact ((k b m).2 z s h1 h2).fx Bs hs (Bs.sim x0 hs).1.2 x (fun y => by have := np s y; omega)
theorem KST.kid {h' : AH} (Bs : JBS h0 U a0 J R G nm fW) {t b : Nat} {Dn : Nat → Prop} (ht : SRG R t) (x0 : FX (EJA U e0 R G) h0 h) (k : KST R C L G nm h t Dn) (mb : b ∈ kids R t) (x : FX (EJP U e0 R G (inS (G 4 b) (G 5 b)) (kdB R G b)) h h') (jb : JDB R C L G h' b) (js : ∀ s, G 4 b ≤ s → s < G 5 b → JDS R C L G nm h' s) : KST R C L G nm h' t (fun c => Dn c ∨ c = b) := by
  intro c m
  have kd := kid_in Bs.1 ht m
  have t1 := ht.1
  by_cases e : c = b
  · rw [e]
    exact ⟨fun _ => ⟨jb, js⟩, fun z => absurd (Or.inr rfl) z⟩
  · obtain ⟨sp, sq⟩ := kid_sep Bs.1 ht mb m (fun z => e z.symm)
    refine ⟨fun z => ?_, fun z s h1 h2 => ?_⟩
    · have z : Dn c := z.elim id (fun y => absurd y e)
      refine ⟨((k c m).1 z).1.fx Bs kd.2.2.2.1 (Bs.bim x0 kd.2.2.2.1).1.2 x sq, fun s h1 h2 => ?_⟩
      have hs : SRG R s := ⟨by omega, by omega⟩
      exact (((k c m).1 z).2 s h1 h2).fx Bs hs x0 x (sp s h1 h2).1 (sp s h1 h2).2
    · have hs : SRG R s := ⟨by omega, by omega⟩
      exact ((k c m).2 (fun y => z (Or.inl y)) s h1 h2).fx Bs hs (Bs.sim x0 hs).1.2 x (sp s h1 h2).1
theorem KST.opt {h' : AH} (Bs : JBS h0 U a0 J R G nm fW) {t : Nat} {o : Option Nat} {Dn : Nat → Prop} (ht : SRG R t) (x0 : FX (EJA U e0 R G) h0 h) (k : KST R C L G nm h t Dn) (mb : ∀ b, o = some b → b ∈ kids R t) (x : FX (EJP U e0 R G (fun s => ∃ b, o = some b ∧ inS (G 4 b) (G 5 b) s) (fun c => ∃ b, o = some b ∧ kdB R G b c)) h h') (j : ∀ b, o = some b → (∀ s, G 4 b ≤ s → s < G 5 b → JDS R C L G nm h' s) ∧ JDB R C L G h' b) : KST R C L G nm h' t (fun c => Dn c ∨ o = some c) := by
  cases o with
  | none =>
    exact (k.own Bs ht x0 x (fun s z => by obtain ⟨b, e, _⟩ := z; cases e) (fun c z => by obtain ⟨b, e, _⟩ := z; cases e)).cg (fun b _ => ⟨Or.inl, fun z => z.elim id (fun y => by cases y)⟩)
  | some b =>
    refine (k.kid Bs ht x0 (mb b rfl) (x.mono (EJP.mono (fun s z => ?_) (fun c z => ?_))) (j b rfl).2 (j b rfl).1).cg (fun c _ => ⟨fun z => z.imp id (fun y => by rw [y]), fun z => z.imp id (fun y => (Option.some.inj y).symm)⟩)
    · obtain ⟨b', e, z⟩ := z; cases e; exact z
    · obtain ⟨b', e, z⟩ := z; cases e; exact z
theorem KST.all (TR : TRE R G nm) {t : Nat} {Dn : Nat → Prop} (ht : SRG R t) (k : KST R C L G nm h t Dn) (al : ∀ b, b ∈ kids R t → Dn b) : (∀ s, t < s → s < G 3 t → JDS R C L G nm h s) ∧ ∀ b, b ∈ kids R t → JDB R C L G h b := by
  obtain ⟨⟨w1, w2, w3, w4, w5, w6⟩, wk⟩ := TR.2.1 t ht.1 ht.2
  refine ⟨fun s h1 h2 => ?_, fun b m => ((k b m).1 (al b m)).1⟩
  obtain ⟨b, m, b1, b2⟩ := w4.at (s := s) (by omega) h2
  exact ((k b m).1 (al b m)).2 s b1 b2
theorem KST.ini (TR : TRE R G nm) {t : Nat} (ht : SRG R t) (un : ∀ s, t ≤ s → s < G 3 t → UNJ R G h s) : KST R C L G nm h t (fun _ => False) := fun b m => ⟨fun z => z.elim, fun _ s h1 h2 => by
  have kd := kid_in TR ht m
  exact un s (by omega) (by omega)⟩
theorem enc_of (TR : TRE R G nm) {j t b : Nat} (r : RCH R G nm j) (h1 : G 4 j ≤ t) (h2 : t < G 5 j) (e : ai R 21 t = nI j) (ht : SRG R t) (m : b ∈ kids R t) (E : ENC R C L G nk nm h t (G 3 t)) (own : ∀ i, i < tn (ai R 32 t) → ai R 33 (4 * t + i) = nI b → fI h 307 (G 2 (4 * t + i)) = insS (pcl R C L) (wN R) nk nm t ∧ fI h 308 (G 2 (4 * t + i)) = ahd (pcl R C L) (wN R) nk t i) : ENC R C L G nk nm h (G 4 b) (G 5 b) := by
  intro s c s1 s2 hp lt
  have kd := kid_in TR ht m
  rcases enc_kid TR r h1 h2 e m s1 s2 hp lt with z | ⟨i, i1, i2, i3, i4⟩
  · exact E s c (by omega) (by omega) hp z
  · have := own i i2 i4
    rw [i1, show (4 * t + i) / 4 = t by omega, show (4 * t + i) % 4 = i by omega]
    exact this
/-- what the statement itself writes lies in its frame -/
theorem own_fr {h' : AH} (TR : TRE R G nm) {t : Nat} (ht : SRG R t) (x : FX (EJP U e0 R G (fun s => s = t) (fun _ => False)) h h') : FX (EJP U e0 R G (inS t (G 3 t)) (kdS R t (G 3 t))) h h' := x.mono (EJP.mono (fun s z => ⟨by omega, by have := (TR.2.1 t ht.1 ht.2).1.2.2.1; omega⟩) (fun _ z => z.elim))
theorem opt_fr {h' : AH} (TR : TRE R G nm) {t : Nat} {o : Option Nat} (ht : SRG R t) (mb : ∀ b, o = some b → b ∈ kids R t) (x : FX (EJP U e0 R G (fun s => ∃ b, o = some b ∧ inS (G 4 b) (G 5 b) s) (fun c => ∃ b, o = some b ∧ kdB R G b c)) h h') : FX (EJP U e0 R G (inS t (G 3 t)) (kdS R t (G 3 t))) h h' := x.mono (EJP.mono (fun s ⟨b, e, z⟩ => (kid_fr TR ht (mb b e)).1 s z) (fun c ⟨b, e, z⟩ => (kid_fr TR ht (mb b e)).2 c z))
/-- what one statement writes, as the judging's -/
theorem own_ejw (Bs : JBS h0 U a0 J R G nm fW) {t : Nat} (ht : SRG R t) {g y : Nat} (z : EJP U e0 R G (fun s => s = t) (fun _ => False) g y) (nl : ¬ ELs U e0 g y) : EJW U R G g y := by
  obtain ⟨b1, b2, b3, b4⟩ := Bs.hi ht
  rcases z with z | ⟨s, s1, s2, ⟨y1, y2⟩ | ⟨i, i1, i2, i3⟩ | ⟨k1, k2, k3⟩⟩ | ⟨b, z, -⟩
  · exact absurd z nl
  · rw [s1] at y1 y2
    rcases y2 with y2 | y2 | ⟨y2, y3⟩
    · exact Or.inl ⟨by omega, by omega⟩
    · exact Or.inl ⟨by omega, by omega⟩
    · exact Or.inr (Or.inl ⟨y2, t, ht, y3, y1⟩)
  · rw [s1] at i1 i2
    have := b4 i i1
    exact Or.inl ⟨by omega, by omega⟩
  · rw [s1] at k1 k3
    exact Or.inr (Or.inr ⟨k2, t, ht, k1, k3⟩)
  · exact z.elim
end
