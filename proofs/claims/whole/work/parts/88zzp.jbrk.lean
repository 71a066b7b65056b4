/-! The class's judging: breaks that leave a loop -/
def PBK (X R : RV) (G : Nat → Nat → Nat) (t : Nat) : Prop := ∃ b, b ∈ kids R t ∧ okR (ai R 40 b) ∧ hlP X b = false ∧ BRK X G b
/-- a block that is there, with a break that leaves it -/
def OBK (X : RV) (G : Nat → Nat → Nat) (o : Option Nat) : Prop := ∃ b, o = some b ∧ BRK X G b
theorem okR_2 : okR 2 := by unfold okR; decide
theorem okR_3 : okR 3 := by unfold okR; decide
theorem okR_5 : okR 5 := by unfold okR; decide
theorem okR_6 : okR 6 := by unfold okR; decide
theorem okR_7 : okR 7 := by unfold okR; decide
theorem okR_9 : okR 9 := by unfold okR; decide
section
variable {R : RV} {G : Nat → Nat → Nat} {nm : Nat} {C L : Nat → Int32}
theorem hl_kid {b t : Nat} (e : ai R 41 b = nI t) (ht : t < 2 ^ 31) : hlP (pcl R C L) b = (decide (ai R 19 t = 9) && (!decide (ai R 40 b = 7) && match oN (ai R 28 t) with
  | none => false
  | some l => !lfB (pcl R C L) (some l))) := by
  rw [hlP_pcl, e, tn_nI ht]; rfl
/-- the blocks of a statement by its sort -/
theorem kid_ro (T : TRE R G nm) {t k : Nat} (ht : SRG R t) (ek : ai R 19 t = nI k) (k11 : k ≤ 11) {b : Nat} (m : b ∈ kids R t) : (ai R 41 b = nI t ∧ b < 2048 ∧ t < 240) ∧ ((oN (ai R 26 t) = some b ∧ ai R 40 b = rol k) ∨ (oN (ai R 27 t) = some b ∧ ai R 40 b = 3 ∧ k = 4) ∨ (∃ i, i < tn (ai R 32 t) ∧ ai R 33 (4 * t + i) = nI b ∧ ai R 40 b = 6 ∧ k = 9) ∨ (oN (ai R 28 t) = some b ∧ ai R 40 b = 7 ∧ k = 9)) := by
  obtain ⟨⟨w1, w2, w3, w4, w5, w6⟩, wk⟩ := T.2.1 t ht.1 ht.2
  have s2 := T.2.2.2.2.1
  have s3 := T.2.2.2.2.2
  have h2 := ht.2
  obtain ⟨k1, k2, k3⟩ := kid_is w5 s3 m
  obtain ⟨k', e1, e2, -, -, -, -, n27, n28, -⟩ := w5
  have : k' = k := nI_inj (by omega) (by omega) (by rw [← e1, ek])
  subst this
  refine ⟨⟨k1, by omega, by omega⟩, ?_⟩
  rcases k3 with ⟨z, q, q1, q2, q3⟩ | ⟨z, z2⟩ | ⟨i, i1, i2, i3, -⟩ | ⟨z, z2⟩
  · have : q = k' := nI_inj (by omega) (by omega) (by rw [← q1, ek])
    rw [this] at q3
    exact Or.inl ⟨by rw [z]; exact oN_nI (by omega), q3⟩
  · refine Or.inr (Or.inl ⟨by rw [z]; exact oN_nI (by omega), z2, Classical.byContradiction (fun n => ?_)⟩)
    rw [n27 n] at z; exact absurd z.symm (nI_ne_m1 (by omega))
  · refine Or.inr (Or.inr (Or.inl ⟨i, i1, i2, i3, Classical.byContradiction (fun n => ?_)⟩))
    rw [(n28 n).2] at i1; exact absurd i1 (Nat.not_lt_zero _)
  · refine Or.inr (Or.inr (Or.inr ⟨by rw [z]; exact oN_nI (by omega), z2, Classical.byContradiction (fun n => ?_)⟩))
    rw [(n28 n).1] at z; exact absurd z.symm (nI_ne_m1 (by omega))
theorem pb_4 (T : TRE R G nm) {t k : Nat} (ht : SRG R t) (ek : ai R 19 t = nI k) (hk : k = 4 ∨ k = 11) : PBK (pcl R C L) R G t ↔ OBK (pcl R C L) G (oN (ai R 26 t)) ∨ OBK (pcl R C L) G (oN (ai R 27 t)) := by
  have n9 : ¬ ai R 19 t = 9 := fun z => by
    have : k = 9 := nI_inj (by omega) (by omega) (by rw [← ek, z]; rfl)
    omega
  have hl : ∀ b, b ∈ kids R t → hlP (pcl R C L) b = false := fun b m => by
    have q := (kid_ro T ht ek (by omega) m).1
    rw [hl_kid q.1 (by omega), decide_eq_false n9, Bool.false_and]
  constructor
  · rintro ⟨b, m, -, -, h⟩
    rcases (kid_ro T ht ek (by omega) m).2 with ⟨z, -⟩ | ⟨z, -⟩ | ⟨i, -, -, -, z⟩ | ⟨-, -, z⟩
    · exact Or.inl ⟨b, z, h⟩
    · exact Or.inr ⟨b, z, h⟩
    · omega
    · omega
  · rintro (⟨b, z, h⟩ | ⟨b, z, h⟩)
    · have m := kid26 z
      refine ⟨b, m, ?_, hl b m, h⟩
      rcases (kid_ro T ht ek (by omega) m).2 with ⟨-, y⟩ | ⟨-, y, -⟩ | ⟨i, -, -, y, -⟩ | ⟨-, y, -⟩
      · rw [y]
        rcases hk with hk | hk
        · rw [hk]; exact okR_2
        · rw [hk]; exact okR_9
      · rw [y]; exact okR_3
      · rw [y]; exact okR_6
      · rw [y]; exact okR_7
    · have m := kid27 z
      refine ⟨b, m, ?_, hl b m, h⟩
      rcases (kid_ro T ht ek (by omega) m).2 with ⟨-, y⟩ | ⟨-, y, -⟩ | ⟨i, -, -, y, -⟩ | ⟨-, y, -⟩
      · rw [y]
        rcases hk with hk | hk
        · rw [hk]; exact okR_2
        · rw [hk]; exact okR_9
      · rw [y]; exact okR_3
      · rw [y]; exact okR_6
      · rw [y]; exact okR_7
theorem pb_9 (T : TRE R G nm) {t : Nat} (ht : SRG R t) (ek : ai R 19 t = 9) : PBK (pcl R C L) R G t ↔ OBK (pcl R C L) G (oN (ai R 28 t)) ∨ ((∀ f, oN (ai R 28 t) = some f → lfB (pcl R C L) (some f) = true) ∧ (OBK (pcl R C L) G (oN (ai R 26 t)) ∨ ∃ i, i < tn (ai R 32 t) ∧ OBK (pcl R C L) G (oN (ai R 33 (4 * t + i))))) := by
  have ek' : ai R 19 t = nI 9 := ek
  have s3 := T.2.2.2.2.2
  have hl : ∀ b, b ∈ kids R t → ¬ ai R 40 b = 7 → (hlP (pcl R C L) b = false ↔ ∀ f, oN (ai R 28 t) = some f → lfB (pcl R C L) (some f) = true) := fun b m n => by
    have q := (kid_ro T ht ek' (by omega) m).1
    rw [hl_kid q.1 (by omega), decide_eq_true ek, decide_eq_false n, Bool.true_and, Bool.not_false, Bool.true_and]
    cases oN (ai R 28 t) with
    | none => exact ⟨fun _ f e => by (cases e), fun _ => rfl⟩
    | some l =>
      show (!lfB (pcl R C L) (some l)) = false ↔ _
      constructor
      · intro y f e
        cases e
        cases hq : lfB (pcl R C L) (some l) with
        | true => rfl
        | false => rw [hq] at y; cases y
      · intro y; rw [y l rfl]; rfl
  constructor
  · rintro ⟨b, m, ok, p, h⟩
    rcases (kid_ro T ht ek' (by omega) m).2 with ⟨z, y⟩ | ⟨-, -, y⟩ | ⟨i, i1, i2, y, -⟩ | ⟨z, -⟩
    · exact Or.inr ⟨(hl b m (by rw [y]; decide)).mp p, Or.inl ⟨b, z, h⟩⟩
    · omega
    · have q := (kid_ro T ht ek' (by omega) m).1
      exact Or.inr ⟨(hl b m (by rw [y]; decide)).mp p, Or.inr ⟨i, i1, b, by rw [i2]; exact oN_nI (by omega), h⟩⟩
    · exact Or.inl ⟨b, z, h⟩
  · rintro (⟨b, z, h⟩ | ⟨p, ⟨b, z, h⟩ | ⟨i, i1, b, z, h⟩⟩)
    · have m := kid28 z
      obtain ⟨⟨w1, w2, w3, w4, w5, w6⟩, wk⟩ := T.2.1 t ht.1 ht.2
      obtain ⟨k, -, -, -, -, b8, -⟩ := w5
      have r7 := (b8.some s3 z).2.2.2.1
      have q := (kid_ro T ht ek' (by omega) m).1
      refine ⟨b, m, by rw [r7]; exact okR_7, ?_, h⟩
      rw [hl_kid q.1 (by omega), r7, decide_eq_true (show (7 : Int32) = 7 from rfl), Bool.not_true, Bool.false_and, Bool.and_false]
    · have m := kid26 z
      obtain ⟨⟨w1, w2, w3, w4, w5, w6⟩, wk⟩ := T.2.1 t ht.1 ht.2
      obtain ⟨k, k1, k2, b6, -⟩ := w5
      have : k = 9 := nI_inj (by omega) (by omega) (by rw [← k1]; exact ek)
      rw [this] at b6
      have r5 : ai R 40 b = 5 := (b6.some s3 z).2.2.2.1
      exact ⟨b, m, by rw [r5]; exact okR_5, (hl b m (by rw [r5]; decide)).mpr p, h⟩
    · obtain ⟨⟨w1, w2, w3, w4, w5, w6⟩, wk⟩ := T.2.1 t ht.1 ht.2
      obtain ⟨k, k1, k2, -, -, -, b3, -⟩ := w5
      obtain ⟨e1, e2, e3, r6, -⟩ := ((b3 i i1).1).some s3 z
      have m := kidC i1 e1 (by omega)
      exact ⟨b, m, by rw [r6]; exact okR_6, (hl b m (by rw [r6]; decide)).mpr p, h⟩
theorem pb_no (T : TRE R G nm) {t k : Nat} (ht : SRG R t) (ek : ai R 19 t = nI k) (k11 : k ≤ 11) (n4 : ¬ k = 4) (n9 : ¬ k = 9) (n11 : ¬ k = 11) : ¬ PBK (pcl R C L) R G t := by
  rintro ⟨b, m, ok, -, h⟩
  rcases (kid_ro T ht ek (by omega) m).2 with ⟨z, y⟩ | ⟨-, -, y⟩ | ⟨i, i1, i2, -, y⟩ | ⟨-, -, y⟩
  · rw [y] at ok
    unfold rol at ok
    rw [if_neg n4, if_neg n9, if_neg n11] at ok
    unfold okR at ok
    revert ok
    by_cases k1 : k = 1
    · rw [if_pos k1]; decide
    · rw [if_neg k1]
      by_cases k10 : k = 10
      · rw [if_pos k10]; decide
      · rw [if_neg k10]; decide
  · omega
  · omega
  · omega
end
section
variable {d : Nat} {h0 h : AH} {Q : Option V → AH → Prop} {T U a0 e0 J : Nat} {R : RV} {G : Nat → Nat → Nat} {nm : Nat} {fW : Nat → Nat} {nk : Nat} {par : Nat → Nat} {wk : Nat → Int64} {pk : Nat → Int32} {ns : Nat} {fS : Nat → Nat} {ks : List Nat} {B : Nat} {C L : Nat → Int32}
theorem hb_opt {o : Option Nat} (hb : ∀ b (Q' : Option V → AH → Prop), o = some b → (∀ v : Bool, (v = true ↔ BRK (pcl R C L) G b) → Q' (some (vi (b2i v))) h) → wp d K_X2_hasBreak 0 [] [(0, vr (some J)), (1, vr (some (G 1 b)))] h Q') (H : ∀ v : Bool, (v = true ↔ OBK (pcl R C L) G o) → Q (some (vi (b2i v))) h) : wp d K_X2_hasBreak 0 [] [(0, vr (some J)), (1, vr (o.map (G 1)))] h Q := by
  cases o with
  | none =>
    show wp _ _ _ _ [(0, vr (some J)), (1, vr none)] _ _
    rw [bk_X2_hasBreak_0]
    refine ⟨fun z => absurd rfl z, fun _ => ?_⟩
    rw [bk_X2_hasBreak_2]
    exact ⟨Or.inl rfl, H false ⟨fun z => by (cases z), fun ⟨b, e, _⟩ => by cases e⟩⟩
  | some b =>
    exact hb b Q rfl (fun v hv => H v ⟨fun z => ⟨b, rfl, hv.mp z⟩, fun ⟨b', e, z⟩ => by cases e; exact hv.mpr z⟩)
theorem jn_inside (Bs : JBS h0 U a0 J R G nm fW) (S : JST h0 T U e0 R G nm fW nk par wk pk ns fS h ks B) {t : Nat} (ht : SRG R t) (lf : ∀ f, oN (ai R 28 t) = some f → fI h 10203 (G 1 f) = b2i (lfB (pcl R C L) (some f))) (hb : ∀ b (Q' : Option V → AH → Prop), b ∈ kids R t → (∀ v : Bool, (v = true ↔ BRK (pcl R C L) G b) → Q' (some (vi (b2i v))) h) → wp d K_X2_hasBreak 0 [] [(0, vr (some J)), (1, vr (some (G 1 b)))] h Q')
    (H : ∀ v : Bool, (v = true ↔ PBK (pcl R C L) R G t) → Q (some (vi (b2i v))) h) : wp (d + 1) K_X2_hasBreakInside 0 [] [(0, vr (some J)), (1, vr (some (G 0 t)))] h Q := by
  have TR := Bs.1
  obtain ⟨⟨w1, w2, w3, w4, w5, w6⟩, wk⟩ := TR.2.1 t ht.1 ht.2
  have n4 := w2.2
  obtain ⟨k, ek, k11, -⟩ := id w5
  obtain ⟨⟨i1, i2⟩, ⟨i3, -⟩, -, -, -, i9, i10, -, -, -, i12, -, -, ic⟩ := Bs.sim S.2.2.2 ht
  obtain ⟨j1, j2, j3, j4⟩ := Bs.jo S.2.2.2
  have s3 := TR.2.2.2.2.2
  have kz : ∀ j, j ≤ 11 → (ai R 19 t = nI j ↔ k = j) := fun j hj => ⟨fun z => nI_inj (by omega) (by omega) (by rw [← ek]; exact z), fun z => by rw [ek, z]⟩
  have one : (PBK (pcl R C L) R G t) → wp (d + 1) K_X2_hasBreakInside 21 [vi 1] [(0, vr (some J)), (1, vr (some (G 0 t)))] h Q := fun z => by
    rw [bk_X2_hasBreakInside_21]
    exact ⟨Or.inr rfl, H true ⟨fun _ => z, fun _ => rfl⟩⟩
  have two : k = 4 ∨ k = 11 → wp (d + 1) K_X2_hasBreakInside 8 [] [(0, vr (some J)), (1, vr (some (G 0 t)))] h Q := fun hk => by
    have pb := pb_4 (C := C) (L := L) TR ht ek hk
    have n9 : ¬ ai R 19 t = 9 := fun z => by have := (kz 9 (by omega)).mp z; omega
    rw [if_neg n9] at i10
    rw [bk_X2_hasBreakInside_8, nn_some, i9]
    refine ⟨i1, j1, hb_opt (C := C) (L := L) (fun b Q' e => hb b Q' (kid26 e)) (fun v1 h1 => ?_)⟩
    simp only [psh]
    rw [bk_X2_hasBreakInside_12, b2i_0]
    refine ⟨fun z => ?_, fun z => ?_⟩
    · rw [bk_X2_hasBreakInside_18]
      exact one (pb.mpr (Or.inl (h1.mp (bt z))))
    · have z := Classical.not_not.mp z
      rw [bk_X2_hasBreakInside_13, nn_some, i10]
      refine ⟨i1, j1, hb_opt (C := C) (L := L) (fun b Q' e => hb b Q' (kid27 e)) (fun v2 h2 => ?_)⟩
      simp only [psh]
      rw [bk_X2_hasBreakInside_17, b2i_0]
      refine ⟨fun y => ?_, fun y => ?_⟩
      · rw [bk_X2_hasBreakInside_20, bk_X2_hasBreakInside_21]
        refine ⟨Or.inl rfl, H false ⟨fun q => by (cases q), fun q => ?_⟩⟩
        rcases pb.mp q with q | q
        · rw [h1.mpr q] at z; cases z
        · rw [h2.mpr q] at y; cases y
      · rw [bk_X2_hasBreakInside_18]
        exact one (pb.mpr (Or.inr (h2.mp (bt y))))
  rw [bk_X2_hasBreakInside_0, nn_some, i3]
  refine ⟨i1, fun z => two (Or.inl ((kz 4 (by omega)).mp z)), fun z4 => ?_⟩
  rw [bk_X2_hasBreakInside_4, nn_some, i3]
  refine ⟨i1, fun z11 => ?_, fun z => two (Or.inr ((kz 11 (by omega)).mp (Classical.not_not.mp z)))⟩
  rw [bk_X2_hasBreakInside_22, nn_some, i3]
  refine ⟨i1, fun z9 => ?_, fun z9 => ?_⟩
  · have pb := pb_9 (C := C) (L := L) TR ht z9
    rw [if_pos z9] at i10
    rw [bk_X2_hasBreakInside_28, nn_some, i10]
    refine ⟨i1, j1, hb_opt (C := C) (L := L) (fun b Q' e => hb b Q' (kid28 e)) (fun v1 h1 => ?_)⟩
    simp only [psh]
    rw [bk_X2_hasBreakInside_32, b2i_0]
    refine ⟨fun z => ?_, fun z => ?_⟩
    · -- none in the last block
      have no1 : ¬ OBK (pcl R C L) G (oN (ai R 28 t)) := fun q => by rw [h1.mpr q] at z; cases z
      rw [bk_X2_hasBreakInside_35, nn_some, i10]
      have lfd : ∃ v, (v = true ↔ ∀ f, oN (ai R 28 t) = some f → lfB (pcl R C L) (some f) = true) ∧ (∀ b, (oN (ai R 28 t)).map (G 1) = some b → tg h b = 3 ∧ fI h 10203 b = b2i v) ∧ ((oN (ai R 28 t)).map (G 1) = none → v = true) := by
        cases e : oN (ai R 28 t) with
        | none => exact ⟨true, ⟨fun _ f e => by (cases e), fun _ => rfl⟩, fun b e => by (cases e), fun _ => rfl⟩
        | some f =>
          refine ⟨lfB (pcl R C L) (some f), ⟨fun z f' e => by (cases e; exact z), fun z => z f rfl⟩, fun b eb => ?_, fun z => by cases z⟩
          have eb : G 1 f = b := Option.some.inj eb
          rw [← eb]
          exact ⟨(Bs.bim S.2.2.2 (wk f (kid28 e))).1.1, lf f e⟩
      obtain ⟨v, v1, v2, v3⟩ := lfd
      refine ⟨i1, j_isLeft v2 v3 ?_⟩
      simp only [psh]
      rw [bk_X2_hasBreakInside_38, b2i_0]
      refine ⟨fun y => ?_, fun y => ?_⟩
      · have y := v1.mp (bt y)
        rw [bk_X2_hasBreakInside_41, nn_some, i9]
        refine ⟨i1, j1, hb_opt (C := C) (L := L) (fun b Q' e => hb b Q' (kid26 e)) (fun v4 h4 => ?_)⟩
        simp only [psh]
        rw [bk_X2_hasBreakInside_45, nn_some, i12]
        refine ⟨i1, ?_⟩
        have LP : ∀ f i (v : Bool), i + f = tn (ai R 32 t) → (v = true ↔ (OBK (pcl R C L) G (oN (ai R 26 t)) ∨ ∃ j, j < i ∧ OBK (pcl R C L) G (oN (ai R 33 (4 * t + j))))) → wp (d + 1) K_X2_hasBreakInside 49 [] [(0, vr (some J)), (1, vr (some (G 0 t))), (2, vi (b2i v)), (3, vr (if i < tn (ai R 32 t) then some (G 2 (4 * t + i)) else none))] h Q := by
          intro f
          induction f with
          | zero =>
            intro i v e hv
            rw [if_neg (by omega), bk_X2_hasBreakInside_49]
            refine ⟨fun _ => ?_, fun z => absurd rfl z⟩
            rw [bk_X2_hasBreakInside_62]
            refine ⟨by cases v <;> decide, H v ?_⟩
            rw [hv, pb]
            constructor
            · rintro (q | ⟨j, q1, q2⟩)
              · exact Or.inr ⟨y, Or.inl q⟩
              · exact Or.inr ⟨y, Or.inr ⟨j, by omega, q2⟩⟩
            · rintro (q | ⟨-, q | ⟨j, q1, q2⟩⟩)
              · exact absurd q no1
              · exact Or.inl q
              · exact Or.inr ⟨j, by omega, q2⟩
          | succ f ih =>
            intro i v e hv
            rw [if_pos (by omega), bk_X2_hasBreakInside_49]
            refine ⟨fun z => (by cases z), fun _ => ?_⟩
            rw [bk_X2_hasBreakInside_51, b2i_0]
            refine ⟨fun z => ?_, fun z => ?_⟩
            · have z := bt z
              rw [bk_X2_hasBreakInside_62]
              refine ⟨by cases v <;> decide, H v ⟨fun _ => ?_, fun _ => z⟩⟩
              rw [pb]
              rcases hv.mp z with q | ⟨j, q1, q2⟩
              · exact Or.inr ⟨y, Or.inl q⟩
              · exact Or.inr ⟨y, Or.inr ⟨j, by omega, q2⟩⟩
            · have z := Classical.not_not.mp z
              obtain ⟨cf, cl⟩ := ic i (by omega)
              rw [bk_X2_hasBreakInside_53, nn_some, cf.2.1]
              refine ⟨cf.1.2.1, j1, hb_opt (C := C) (L := L) (fun b Q' e => hb b Q' ?_) (fun v5 h5 => ?_)⟩
              · obtain ⟨-, -, -, -, -, -, b3, -⟩ := id w5
                obtain ⟨e1, e2, e3, -⟩ := ((b3 i (by omega)).1).some s3 e
                exact kidC (by omega) e1 (by omega)
              · simp only [psh]
                rw [bk_X2_hasBreakInside_57, nn_some, cf.2.2.1, show (4 * t + i) % 4 = i by omega, show (4 * t + i) / 4 = t by omega]
                refine ⟨cf.1.2.1, ih (i + 1) v5 (by omega) ?_⟩
                rw [h5]
                constructor
                · intro q; exact Or.inr ⟨i, by omega, q⟩
                · rintro (q | ⟨j, q1, q2⟩)
                  · rw [hv.mpr (Or.inl q)] at z; cases z
                  · by_cases ji : j = i
                    · rw [← ji]; exact q2
                    · rw [hv.mpr (Or.inr ⟨j, by omega, q2⟩)] at z; cases z
        have := LP (tn (ai R 32 t)) 0 v4 (by omega) (by rw [h4]; exact ⟨Or.inl, fun q => q.elim id (fun ⟨j, q, _⟩ => by omega)⟩)
        exact this
      · have y := Classical.not_not.mp y
        rw [bk_X2_hasBreakInside_39]
        refine ⟨Or.inl rfl, H false ⟨fun q => by (cases q), fun q => ?_⟩⟩
        rcases pb.mp q with q | ⟨q, -⟩
        · exact absurd q no1
        · rw [v1.mpr q] at y; cases y
    · rw [bk_X2_hasBreakInside_33]
      exact ⟨Or.inr rfl, H true ⟨fun _ => pb.mpr (Or.inl (h1.mp (bt z))), fun _ => rfl⟩⟩
  · rw [bk_X2_hasBreakInside_26]
    refine ⟨Or.inl rfl, H false ⟨fun q => by (cases q), fun q => ?_⟩⟩
    exact absurd q (pb_no TR ht ek k11 (fun z => z4 ((kz 4 (by omega)).mpr z)) (fun z => z9 ((kz 9 (by omega)).mpr z)) (fun z => z11 ((kz 11 (by omega)).mpr z)))
theorem jn_break (Bs : JBS h0 U a0 J R G nm fW) (S : JST h0 T U e0 R G nm fW nk par wk pk ns fS h ks B) : ∀ n b d (Q : Option V → AH → Prop), RCH R G nm b → G 5 b - G 4 b < n → (∀ t f, G 4 b ≤ t → t < G 5 b → oN (ai R 28 t) = some f → fI h 10203 (G 1 f) = b2i (lfB (pcl R C L) (some f))) → (∀ v : Bool, (v = true ↔ BRK (pcl R C L) G b) → Q (some (vi (b2i v))) h) → wp (d + 2 * n) K_X2_hasBreak 0 [] [(0, vr (some J)), (1, vr (some (G 1 b)))] h Q := by
  have TR := Bs.1
  have s2 := TR.2.2.2.2.1
  have s3 := TR.2.2.2.2.2
  intro n
  induction n with
  | zero => intro b d Q r hn; omega
  | succ n ih =>
    intro b d Q r hn lf H
    have rg := r.rg TR
    obtain ⟨WB, l1, l2⟩ := TR.2.2.1 b rg.1 rg.2
    obtain ⟨⟨b1, b2⟩, b3, b4⟩ := Bs.bim S.2.2.2 rg
    obtain ⟨j1, j2, j3, j4⟩ := Bs.jo S.2.2.2
    have bi := BRK_iff (C := C) (L := L) TR r
    rw [bk_X2_hasBreak_0]
    refine ⟨fun _ => ?_, fun z => by cases z⟩
    rw [bk_X2_hasBreak_4, nn_some, b4]
    refine ⟨b1, ?_⟩
    have no : (∀ t, G 4 b ≤ t → t < G 5 b → ai R 21 t = nI b → ¬ (ai R 19 t = 7 ∨ PBK (pcl R C L) R G t)) → wp (d + 2 * (n + 1)) K_X2_hasBreak 7 [] [(0, vr (some J)), (1, vr (some (G 1 b))), (2, vr none)] h Q := fun z => by
      rw [bk_X2_hasBreak_7]
      refine ⟨fun _ => ?_, fun y => absurd rfl y⟩
      rw [bk_X2_hasBreak_23]
      refine ⟨Or.inl rfl, H false ⟨fun q => by (cases q), fun q => ?_⟩⟩
      obtain ⟨t, t1, t2, t3, t4⟩ := bi.mp q
      exact absurd t4 (z t t1 t2 t3)
    have LP : ∀ f t, G 5 b - t ≤ f → G 4 b ≤ t → t < G 5 b → ai R 21 t = nI b → (∀ t', G 4 b ≤ t' → t' < t → ai R 21 t' = nI b → ¬ (ai R 19 t' = 7 ∨ PBK (pcl R C L) R G t')) → wp (d + 2 * (n + 1)) K_X2_hasBreak 7 [] [(0, vr (some J)), (1, vr (some (G 1 b))), (2, vr (some (G 0 t)))] h Q := by
      intro f
      induction f with
      | zero => intro t h1 h2 h3; omega
      | succ f ihf =>
        intro t h1 h2 h3 e21 nb
        have ht : SRG R t := ⟨by omega, by omega⟩
        obtain ⟨⟨i1, i2⟩, ⟨i3, -⟩, -, -, -, -, -, -, -, -, -, -, nx, -⟩ := Bs.sim S.2.2.2 ht
        obtain ⟨⟨w1, w2, w3, w4, w5, w6⟩, wk⟩ := TR.2.1 t ht.1 ht.2
        have yes : (ai R 19 t = 7 ∨ PBK (pcl R C L) R G t) → wp (d + 2 * (n + 1)) K_X2_hasBreak 17 [] [(0, vr (some J)), (1, vr (some (G 1 b))), (2, vr (some (G 0 t)))] h Q := fun z => by
          rw [bk_X2_hasBreak_17]
          exact ⟨Or.inr rfl, H true ⟨fun _ => bi.mpr ⟨t, h2, h3, e21, z⟩, fun _ => rfl⟩⟩
        rw [bk_X2_hasBreak_7]
        refine ⟨fun z => (by cases z), fun _ => ?_⟩
        rw [bk_X2_hasBreak_9, nn_some, i3]
        refine ⟨i1, fun z => yes (Or.inl z), fun z => ?_⟩
        rw [show d + 2 * (n + 1) = (d + 2 * n + 1) + 1 by omega] at *
        rw [bk_X2_hasBreak_13]
        refine ⟨j1, jn_inside (d := d + 2 * n) (C := C) (L := L) Bs S ht (fun f e => lf t f h2 h3 e) (fun b1 Q' m H' => ?_) (fun v hv => ?_)⟩
        · have r1 := r.kid ht.1 ht.2 e21 h2 h3 m
          have c := (w4.le).2 b1 m
          have c2 := (WB.2.2.2.2 t h2 h3 e21).1
          exact ih b1 d Q' r1 (by omega) (fun t' f q1 q2 => lf t' f (by omega) (by omega)) H'
        · simp only [psh]
          rw [bk_X2_hasBreak_16, b2i_0]
          refine ⟨fun y => ?_, fun y => yes (Or.inr (hv.mp (bt y)))⟩
          have nP : ¬ (ai R 19 t = 7 ∨ PBK (pcl R C L) R G t) := fun q => q.elim z (fun q => by rw [hv.mpr q] at y; cases y)
          rw [bk_X2_hasBreak_19, nn_some, show fP h 30804 (G 0 t) = _ from nx]
          refine ⟨i1, ?_⟩
          obtain ⟨c1, c2, c3⟩ := WB.2.2.2.2 t h2 h3 e21
          rw [c2]
          by_cases q : G 3 t = G 5 b
          · rw [if_pos q, oN_m1]
            refine no (fun t' q1 q2 q3 => ?_)
            rcases Nat.lt_trichotomy t' t with p | p | p
            · exact nb t' q1 p q3
            · rw [p]; exact nP
            · have := dir_next TR r h2 p q2 e21 q3; omega
          · rw [if_neg q, oN_nI (by omega)]
            refine ihf (G 3 t) (by omega) (by omega) (by omega) (c3 (by omega)) (fun t' q1 q2 q3 => ?_)
            rcases Nat.lt_trichotomy t' t with p | p | p
            · exact nb t' q1 p q3
            · rw [p]; exact nP
            · have := dir_next TR r h2 p (by omega) e21 q3; omega
    by_cases z : G 4 b = G 5 b
    · rw [(WB.2.2.1 z).1, oN_m1]
      exact no (fun t q1 q2 => by omega)
    · have le := WB.2.1
      obtain ⟨c1, c2, -⟩ := WB.2.2.2.1 (by omega)
      rw [c1, oN_nI (by omega)]
      exact LP _ (G 4 b) (Nat.le_refl _) (Nat.le_refl _) (by omega) c2 (fun t' q1 q2 => by omega)
end
