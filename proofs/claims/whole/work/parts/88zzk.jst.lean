/-! The class's judging: its state; methods by name and number -/
/-- what judging writes itself -/
def EJW (U : Nat) (R : RV) (G : Nat → Nat → Nat) (g y : Nat) : Prop := ((g = 814 ∨ g = 10815 ∨ g = 202 ∨ g = 10203 ∨ g = 307 ∨ g = 308 ∨ g = 1206) ∧ U + 10 ≤ y) ∨ (g = 807 ∧ ∃ t, SRG R t ∧ ai R 19 t = 1 ∧ y = G 0 t) ∨ (g = 90001 ∧ ∃ t, SRG R t ∧ ai R 19 t = 9 ∧ y = G 6 t + 3)
/-- the room that noting has taken -/
def JAC (h0 : AH) (U : Nat) (h : AH) (ks : List Nat) : Prop := rc h0 + LAM h0 U + tn (fI h0 102 (U + 8)) ≤ rc h + LAM h U + ks.length ∧ rs h0 + 4 * LAM h0 U + tn (fI h0 102 (U + 8)) ≤ rs h + 4 * LAM h U + ks.length
def JST (h0 : AH) (T U e0 : Nat) (R : RV) (G : Nat → Nat → Nat) (nm : Nat) (fW : Nat → Nat) (nk : Nat) (par : Nat → Nat) (wk : Nat → Int64) (pk : Nat → Int32) (ns : Nat) (fS : Nat → Nat) (h : AH) (ks : List Nat) (B : Nat) : Prop := CXT h T U e0 ∧ KD h (U + 1) nk par wk pk ∧ (LST h U e0 nm fW ns fS ks B ∧ JAC h0 U h ks) ∧ FX (EJA U e0 R G) h0 h
/-- the kinds are the reference's -/
def KEQ (R : RV) (nk : Nat) (par : Nat → Nat) : Prop := nk = nkN R ∧ nk ≤ 16 ∧ 4 ≤ nk ∧ (∀ k, k < nk → par k = parN R (wN R) nk k) ∧ ∀ k, 0 < k → k < nk → parN R (wN R) nk k < k
section
variable {R : RV} {nk : Nat} {par : Nat → Nat} {C L : Nat → Int32}
theorem KEQ.hp (K : KEQ R nk par) : ∀ k, 0 < k → k < nk → par k < k := fun k h1 h2 => by rw [K.2.2.2.1 k h2]; exact K.2.2.2.2 k h1 h2
theorem KEQ.bl (K : KEQ R nk par) {x : Nat} (hx : x < nk) (y : Nat) : belP par x y = bel (pcl R C L) (wN R) nk x y := belP_cg K.2.2.2.2 K.2.2.2.1 hx y
theorem KEQ.ud (K : KEQ R nk par) {x : Nat} (hx : x < nk) (s : Int32) : undP par nk x s = und (pcl R C L) (wN R) nk x s := by
  refine fup_cg _ _ _ (fun q b _ _ => ?_)
  show (b || (hasB s q && belP par x q)) = (b || (hasB s q && bel (pcl R C L) (wN R) nk x q))
  rw [K.bl hx]
theorem KEQ.ck (K : KEQ R nk par) {x : Nat} (hx : x < nk) : ckP par x = chk (pcl R C L) (wN R) nk x := by
  show (!belP par x 2 && !belP par x 3) = (!bel (pcl R C L) (wN R) nk x 2 && !bel (pcl R C L) (wN R) nk x 3)
  rw [K.bl hx, K.bl hx]
theorem KEQ.kn (K : KEQ R nk par) {x : Int64} {v : Int32} {k : Nat} (e : kN R (wN R) (nkN R) x v = some k) : k < nk := by
  have := (ffst_some e).2.1
  rw [K.1]; omega
end
section
variable {d : Nat} {h0 h : AH} {Q : Option V → AH → Prop} {T U a0 e0 J : Nat} {R : RV} {G : Nat → Nat → Nat} {nm : Nat} {fW : Nat → Nat} {nk : Nat} {par : Nat → Nat} {wk : Nat → Int64} {pk : Nat → Int32} {ns : Nat} {fS : Nat → Nat} {ks : List Nat} {B : Nat}
theorem EJW_a {U e0 : Nat} {g y : Nat} (z : EJW U R G g y) : EJA U e0 R G g y := Or.inr z
theorem JBS.hi (Bs : JBS h0 U a0 J R G nm fW) {t : Nat} (ht : SRG R t) : U + 10 ≤ G 0 t ∧ (ai R 19 t = 9 → U + 10 ≤ G 6 t) ∧ (∀ b, b ∈ kids R t → U + 10 ≤ G 1 b) ∧ ∀ i, i < tn (ai R 32 t) → U + 10 ≤ G 2 (4 * t + i) := by
  obtain ⟨TR, ⟨a1, a2, a3, -⟩, hU, -⟩ := Bs
  obtain ⟨-, -, k, -, l0, l6, c⟩ := a2 t ht.1 ht.2
  refine ⟨by omega, fun q => by have := l6 (Or.inl q); omega, fun b hb => ?_, fun i hi => ?_⟩
  · have := k.1 b hb
    have := (a3 b this.1 this.2).2.2.1
    omega
  · have := (c i hi).2.1; omega
/-- the judging writes -/
theorem JST.w {h' : AH} (Bs : JBS h0 U a0 J R G nm fW) (S : JST h0 T U e0 R G nm fW nk par wk pk ns fS h ks B) (x : FX (EJW U R G) h h') (r1 : rc h' = rc h) (r2 : rs h' = rs h) : JST h0 T U e0 R G nm fW nk par wk pk ns fS h' ks B := by
  obtain ⟨c, k, ⟨l, ac⟩, f⟩ := S
  have hi : ∀ g y, EJW U R G g y → U + 10 ≤ y := fun g y z => by
    rcases z with ⟨-, z⟩ | ⟨-, t, t1, t2, t3⟩ | ⟨-, t, t1, t2, t3⟩
    · exact z
    · have := (Bs.hi t1).1; omega
    · have := (Bs.hi t1).2.1 t2; omega
  have gs : ∀ g y, EJW U R G g y → g = 814 ∨ g = 10815 ∨ g = 202 ∨ g = 10203 ∨ g = 307 ∨ g = 308 ∨ g = 1206 ∨ g = 807 ∨ g = 90001 := fun g y z => by
    rcases z with ⟨z, -⟩ | ⟨z, -⟩ | ⟨z, -⟩ <;> omega
  have no : ∀ g y, ¬ (g = 814 ∨ g = 10815 ∨ g = 202 ∨ g = 10203 ∨ g = 307 ∨ g = 308 ∨ g = 1206 ∨ g = 807 ∨ g = 90001) → ¬ EJW U R G g y := fun g y n z => n (gs g y z)
  have lo : ∀ g y, y < U + 10 → ¬ EJW U R G g y := fun g y hy z => by have := hi g y z; omega
  refine ⟨c.fx x (fun y => ⟨no _ _ (by omega), no _ _ (by omega), no _ _ (by omega), no _ _ (by omega), no _ _ (by omega)⟩) ⟨no _ _ (by omega), no _ _ (by omega), no _ _ (by omega), no _ _ (by omega)⟩ ⟨no _ _ (by omega), no _ _ (by omega)⟩, k.fx x (fun g => lo _ _ (by omega)) (lo _ _ (by omega)) (lo _ _ (by omega)) (lo _ _ (by omega)) (lo _ _ (by omega)), ⟨LST.fx 0 l x (fun L hL => ⟨no _ _ (by omega), no _ _ (by omega)⟩) (fun e => no _ _ (by omega)) (fun y => no _ _ (by omega)) (by omega) (by omega), by unfold JAC; rw [r1, r2, LAM.fx l x (fun L hL => no _ _ (by omega))]; exact ac⟩, f.tr (x.mono (fun _ _ z => EJW_a z))⟩
/-- a mistake is noted -/
theorem j_note (S : JST h0 T U e0 R G nm fW nk par wk pk ns fS h ks (B + 1)) {p c k : Nat} (hp : 0 < p) (hp2 : p < 4096) (hc : c < 16) (hk : k < 32) (H : ∀ h' ks', JST h0 T U e0 R G nm fW nk par wk pk ns fS h' ks' B → CTK ks' [keyN p c k] ks → FX (ELs U e0) h h' → Q none h') : wp (d + 7) K_X8_note 0 [] [(0, vr (some U)), (1, vi (nI c)), (2, vi (nI p)), (3, vi (kI k))] h Q := by
  obtain ⟨cx, kd, ⟨l, ac⟩, f⟩ := S
  have he := l.e0
  refine p_noteX cx l hp hp2 hc hk (fun h' ks' l' pm x ra rb => ?_)
  have no : ∀ g y, ¬ (g = 100 ∨ g = 102 ∨ g = 30101 ∨ g = 90003) → ¬ ELs U e0 g y := fun g y n z => by
    rcases z with ⟨-, z⟩ | ⟨z, -⟩ <;> omega
  have lo : ∀ g, ¬ ELs U e0 g (U + 1) := fun g z => by
    rcases z with ⟨z, -⟩ | ⟨-, z⟩ <;> omega
  refine H h' ks' ⟨cx.fx x (fun y => ⟨no _ _ (by omega), no _ _ (by omega), no _ _ (by omega), no _ _ (by omega), no _ _ (by omega)⟩) ⟨no _ _ (by omega), no _ _ (by omega), no _ _ (by omega), no _ _ (by omega)⟩ ⟨no _ _ (by omega), no _ _ (by omega)⟩, kd.fx x lo (no _ _ (by omega)) (no _ _ (by omega)) (no _ _ (by omega)) (no _ _ (by omega)), ⟨l', by have := pm.length_eq; rw [List.length_append, List.length_singleton] at this; unfold JAC at ac ⊢; omega⟩, f.tr (x.mono (fun _ _ z => Or.inl z))⟩ (CTK.pm pm) x
theorem j_noteL {p c k : Nat} {l : List Nat} (S : JST h0 T U e0 R G nm fW nk par wk pk ns fS h ks (B + ([keyN p c k] ++ l).length)) (hp : 0 < p) (hp2 : p < 4096) (hc : c < 16) (hk : k < 32) (H : ∀ h' ks', JST h0 T U e0 R G nm fW nk par wk pk ns fS h' ks' (B + l.length) → CTK ks' [keyN p c k] ks → FX (ELs U e0) h h' → Q none h') : wp (d + 7) K_X8_note 0 [] [(0, vr (some U)), (1, vi (nI c)), (2, vi (nI p)), (3, vi (kI k))] h Q := by
  refine j_note (B := B + l.length) ?_ hp hp2 hc hk H
  rw [List.length_append, List.length_singleton, show B + (1 + l.length) = B + l.length + 1 by omega] at S
  exact S
theorem j_wayNamed (Bs : JBS h0 U a0 J R G nm fW) (S : JST h0 T U e0 R G nm fW nk par wk pk ns fS h ks B) {y : Int64} (hy : WV y) (H : Q (some (vi (oI (mN R (wN R) nm y)))) h) : wp (d + 3) K_X8_wayNamed 0 [] [(0, vr (some U)), (1, vl (conv y))] h Q := by
  refine p_wayNamed S.1 S.2.2.1.1 Bs.2.2.2.2.2.2.1 (conv y) ?_
  have : ffst (fun m => decide (fJ h 21201 (fW m) = conv y)) nm 0 = mN R (wN R) nm y := by
    refine ffst_cg _ _ (fun i _ hi => ?_)
    have W := Bs.way S.2.2.2 (m := i) (by omega)
    rw [W.2.2.2.1.1]
    exact decide_eq_decide.mpr (conv_inj W.2.2.2.1.2 hy)
  rw [this]; exact H
theorem u_wayAt (cx : CXT h T U e0) (l : LST h U e0 nm fW ns fS ks B) (x : Int32) (H : Q (some (vr ((ixO x nm).map fW))) h) : wp (d + 3) K_X8_wayAt 0 [] [(0, vr (some U)), (1, vi x)] h Q := by
  obtain ⟨eW, eS, eM, aW, aS, cM, ⟨t1, t2⟩, rest⟩ := id l
  have c4 := cx.2.2.2.1
  have c6 := cx.2.2.2.2.2.1
  have r13 := l.room.2.2.2.1
  have no : ixO x nm = none → wp (d + 3) K_X8_wayAt 13 [] [(0, vr (some U)), (1, vi x)] h Q := fun e => by
    rw [bk_X8_wayAt_13, bk_X8_wayAt_14]
    rw [e] at H; exact H
  rw [bk_X8_wayAt_0]
  rcases ixO_cases x (n := nm) (by omega) with ⟨e, z⟩ | ⟨j, hj, ej, e⟩
  · refine ⟨fun _ => no e, fun n => ?_⟩
    rw [bk_X8_wayAt_2, c6, nn_some, l_size aW]
    refine ⟨c4, aW.1, ?_⟩
    simp only [psh]
    rw [bk_X8_wayAt_6]
    refine ⟨fun _ => no e, fun n2 => ?_⟩
    rcases z with z | z
    · exact absurd z n
    · exact absurd z.2 n2
  · have n0 : ¬ x < 0 := by rw [ej]; exact nI_pos (by omega)
    refine ⟨fun z => absurd z n0, fun _ => ?_⟩
    rw [bk_X8_wayAt_2, c6, nn_some, l_size aW]
    refine ⟨c4, aW.1, ?_⟩
    simp only [psh]
    rw [bk_X8_wayAt_6, ej, nI_leI (by omega) (by omega)]
    refine ⟨fun z => by omega, fun _ => ?_⟩
    rw [bk_X8_wayAt_7, c6, nn_some, l_get aW hj (by omega)]
    refine ⟨c4, aW.1, ?_⟩
    simp only [psh]
    rw [bk_X8_wayAt_11, bk_X8_wayAt_14]
    rw [e] at H
    exact ⟨fun a ea => (Option.some.inj ea) ▸ t1 j hj, H⟩
theorem j_wayAt (S : JST h0 T U e0 R G nm fW nk par wk pk ns fS h ks B) {o : Option Nat} (ho : ∀ m, o = some m → m < nm) (H : Q (some (vr (o.map fW))) h) : wp (d + 3) K_X8_wayAt 0 [] [(0, vr (some U)), (1, vi (oI o))] h Q := by
  refine u_wayAt S.1 S.2.2.1.1 _ ?_
  cases o with
  | none =>
    have : ixO (oI none) nm = none := by
      unfold ixO
      rw [if_pos (Or.inl (by decide))]
    rw [this]; exact H
  | some m =>
    have r13 := S.2.2.1.1.room.2.2.2.1
    rw [show oI (some m) = nI m from rfl, ixO_nI (ho m rfl) (by omega)]; exact H
/-- what a block can throw, and whether it can be left -/
theorem j_throwOf {o : Option Nat} (tb : ∀ b, o = some b → tg h b = 3) (H : Q (some (vi (match o with | none => 0 | some b => fI h 202 b))) h) : wp d K_X2_throwOf 0 [] [(0, vr o)] h Q := by
  rw [bk_X2_throwOf_0]
  cases o with
  | none => exact ⟨fun z => absurd rfl z, fun _ => by rw [bk_X2_throwOf_2, bk_X2_throwOf_6]; exact H⟩
  | some b =>
    refine ⟨fun _ => ?_, fun z => by cases z⟩
    rw [bk_X2_throwOf_4, nn_some, bk_X2_throwOf_6]
    exact ⟨tb b rfl, H⟩
theorem j_isLeft {o : Option Nat} {v : Bool} (tb : ∀ b, o = some b → tg h b = 3 ∧ fI h 10203 b = b2i v) (nv : o = none → v = true) (H : Q (some (vi (b2i v))) h) : wp d K_X2_isLeft 0 [] [(0, vr o)] h Q := by
  rw [bk_X2_isLeft_0]
  have one : v = true → wp d K_X2_isLeft 5 [] [(0, vr o)] h Q := fun e => by
    rw [bk_X2_isLeft_5, bk_X2_isLeft_8]
    rw [e] at H
    exact ⟨Or.inr rfl, H⟩
  cases o with
  | none => exact ⟨fun _ => one (nv rfl), fun z => absurd rfl z⟩
  | some b =>
    refine ⟨fun z => (by cases z), fun _ => ?_⟩
    rw [bk_X2_isLeft_2, nn_some, (tb b rfl).2, b2i_0]
    refine ⟨(tb b rfl).1, fun z => ?_, fun z => one (bt z)⟩
    rw [bk_X2_isLeft_7, bk_X2_isLeft_8]
    rw [z] at H
    exact ⟨Or.inl rfl, H⟩
end
