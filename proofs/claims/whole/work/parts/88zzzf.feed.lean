/-! The class's feed -/
theorem c_byte (x : Int32) {k : Nat} (hk : k = 0 ∨ k = 8 ∨ k = 16 ∨ k = 24) : ((Int32.toInt8 ((Int32.toUInt32 x >>> (Int32.toUInt32 (nI k) &&& Int32.toUInt32 31)).toInt32)).toInt32) &&& 255 = (x >>> (nI k &&& 31)) &&& 255 := by
  have e : ((Int32.toUInt32 x >>> (Int32.toUInt32 (nI k) &&& Int32.toUInt32 31)).toInt32).toBitVec = x.toBitVec >>> k := by
    rcases hk with hk | hk | hk | hk <;> subst hk <;> rfl
  have k25 : k < 25 := by omega
  apply hasB_ext
  intro i hi
  rw [hasB_and _ _ hi, hasB_and _ _ hi]
  by_cases y : i < 8
  · refine congrArg (fun b => b && hasB 255 i) ?_
    rw [hasB_bit hi, hasB_bit hi, Int8.toBitVec_toInt32, Int32.toBitVec_toInt8, e, Int32.toBitVec_shiftRight, BitVec.sshiftRight', BitVec.getLsbD_sshiftRight, show ((nI k &&& 31).toBitVec.smod 32).toNat = k from smod32 k (by omega), BitVec.getLsbD_signExtend, BitVec.getLsbD_signExtend, BitVec.getLsbD_ushiftRight, if_pos y, if_pos hi, if_pos (show k + i < 32 by omega), decide_eq_true hi, decide_eq_true y, decide_eq_false (show ¬ 32 ≤ i by omega)]
    rfl
  · have z : ∀ i, i < 32 → ¬ i < 8 → hasB 255 i = false := by decide +kernel
    rw [z i hi y, Bool.and_false, Bool.and_false]
theorem and255 (z : Int32) : ∃ b, b < 256 ∧ z &&& 255 = nI b := by
  refine ⟨z.toBitVec.toNat % 256, by omega, ?_⟩
  apply Int32.toBitVec_inj.mp
  show z.toBitVec &&& 255#32 = BitVec.ofNat 32 (z.toBitVec.toNat % 256)
  apply BitVec.eq_of_toNat_eq
  rw [BitVec.toNat_and, BitVec.toNat_ofNat (z.toBitVec.toNat % 256) 32]
  show z.toBitVec.toNat &&& (2 ^ 8 - 1) = _
  rw [Nat.and_two_pow_sub_one_eq_mod]
  omega
theorem TS.cg {h : AH} {T n : Nat} {t t' : Nat → Int32} (a : TS h T t n) (e : ∀ i, i < n → t i = t' i) : TS h T t' n := by
  obtain ⟨a1, a2, a3, a4, a5, a6, a7, a8, a9, a10, a11, a12⟩ := a
  exact ⟨a1, a2, a3, a4, a5, a6, a7, a8, a9, a10, fun i hi => by rw [← e i hi]; exact a11 i hi, a12⟩
/-- what feeding may change -/
def EFD (T g y : Nat) : Prop := (y = T ∧ g = 902) ∨ (y = T + 1 ∧ g = 90001)
def FDW (T : Nat) (h h' : AH) : Prop := FX (EFD T) h h' ∧ tp h' = tp h ∧ rc h' = rc h ∧ rs h' = rs h
theorem FDW.tr {T : Nat} {h h' h'' : AH} (a : FDW T h h') (b : FDW T h' h'') : FDW T h h'' := ⟨a.1.tr b.1, b.2.1.trans a.2.1, b.2.2.1.trans a.2.2.1, b.2.2.2.trans a.2.2.2⟩
section
variable {d : Nat} {h : AH} {Q : Option V → AH → Prop} {a T W U n : Nat} {t : Nat → Int32}
/-- a byte is put -/
theorem TS.put {v : Int32} (S : TS h T t n) (hn : n < 2000) (hv : ∃ b, b < 256 ∧ v &&& 255 = nI b) : TS (setFI (setAI h (T + 1) n v) 902 T (nI (n + 1))) T (fun i => if i = n then v &&& 255 else t i) (n + 1) := by
  obtain ⟨a1, a2, a3, a4, a5, a6, a7, a8, a9, a10, a11, a12, s, vv, a13⟩ := S
  refine ⟨a1, a2, a3, a4, a5, a6, a7, a8, if_pos ⟨rfl, rfl⟩, by omega, fun i hi => ?_, a12, s, vv, ?_⟩
  · show (if T + 1 = T + 1 ∧ i = n then v else aI h (T + 1) i) &&& 255 = (if i = n then v &&& 255 else t i) ∧ ∃ b, b < 256 ∧ (if i = n then v &&& 255 else t i) = nI b
    by_cases y : i = n
    · rw [if_pos ⟨rfl, y⟩, if_pos y]
      exact ⟨rfl, hv⟩
    · rw [if_neg (fun z => y z.2), if_neg y]
      exact a11 i (by omega)
  · have v5 := a13.2.2.2.2.1
    have v9 := a13.2.2.2.2.2.2.2.2.1
    have ne : ¬ vv = T + 1 := fun z => by
      have l1 := a13.2.2.2.2.2.1
      rw [z, a5] at l1
      omega
    have x : FX (fun g y => (y = T ∧ g = 902) ∨ (y = T + 1 ∧ g = 90001)) h (setFI (setAI h (T + 1) n v) 902 T (nI (n + 1))) := (FX.AI (a := T + 1) (j := n) (v := v) (Or.inr ⟨rfl, rfl⟩)).tr (FX.FI (Or.inl ⟨rfl, rfl⟩))
    exact a13.fx x (fun y z => by omega) (fun y z => by omega) (fun y z => by omega) (fun y z => by omega) (fun z => by omega) (fun y z => by omega)
theorem p_append (S : TS h T t n) (hn : n + 4 ≤ 2000) (x : Int32) (H : ∀ h', TS h' T (fun i => if i < n then t i else (x >>> (nI (24 - 8 * (i - n)) &&& 31)) &&& 255) (n + 4) → FDW T h h' → Q none h') : wp d K_X7_append 0 [] [(0, vr (some T)), (1, vi x)] h Q := by
  have one : ∀ k m (h1 : AH) t1, k = 0 ∨ k = 8 ∨ k = 16 ∨ k = 24 → m < 2000 → TS h1 T t1 m → (∀ h', TS h' T (fun i => if i = m then (x >>> (nI k &&& 31)) &&& 255 else t1 i) (m + 1) → FDW T h1 h' → wp d K_X7_append 28 [] [(0, vr (some T)), (1, vi x), (2, vi (nI k))] h' Q) → wp d K_X7_append 2 [] [(0, vr (some T)), (1, vi x), (2, vi (nI k))] h1 Q := fun k m h1 t1 hk hm S1 H1 => by
    have t9 := S1.2.2.2.2.2.2.2.2.1
    have a3 := S1.2.2.1
    have a4 := S1.2.2.2.1
    have a5 := S1.2.2.2.2.1
    rw [bk_X7_append_2]
    refine ⟨fun z => absurd z (nI_pos (by omega)), fun _ => ?_⟩
    rw [bk_X7_append_4, t9]
    refine ⟨S1.1, fun z => absurd z (nI_pos (by omega)), fun _ => ?_⟩
    rw [bk_X7_append_7, a3, nn_some, t9, a5]
    refine ⟨S1.1, S1.1, Or.inr (Or.inr (Or.inr (Or.inr (Or.inr (Or.inl a4))))), fun z => ?_, fun _ => ?_⟩
    · rw [show Int32.ofNat 2000 = nI 2000 from rfl, nI_leI (by omega) (by omega)] at z
      omega
    · rw [bk_X7_append_13, a3, nn_some, t9, nI_clamp (by omega)]
      have b8 := c_byte x hk
      have bb := and255 (x >>> (nI k &&& 31))
      rw [← b8] at bb
      have P := S1.put hm bb
      have W : FDW T h1 (setFI (setAI h1 (T + 1) m ((Int32.toInt8 ((Int32.toUInt32 x >>> (Int32.toUInt32 (nI k) &&& Int32.toUInt32 31)).toInt32)).toInt32)) 902 T (nI (m + 1))) := ⟨(FX.AI (a := T + 1) (j := m) (v := (Int32.toInt8 ((Int32.toUInt32 x >>> (Int32.toUInt32 (nI k) &&& Int32.toUInt32 31)).toInt32)).toInt32) (Or.inr ⟨rfl, rfl⟩)).tr (FX.FI (Or.inl ⟨rfl, rfl⟩)), rfl, rfl, rfl⟩
      have t9' : fI (setAI h1 (T + 1) m ((Int32.toInt8 ((Int32.toUInt32 x >>> (Int32.toUInt32 (nI k) &&& Int32.toUInt32 31)).toInt32)).toInt32)) 902 T = nI m := t9
      rw [t9', nI_1]
      rw [b8] at P
      refine ⟨S1.1, S1.1, Or.inl ⟨a4, ?_⟩, by rw [a5]; exact pk_in m 2000 (by omega), S1.1, S1.1, H1 _ P W⟩
      generalize Int32.toInt8 ((Int32.toUInt32 x >>> (Int32.toUInt32 (nI k) &&& Int32.toUInt32 31)).toInt32) = z
      rw [Int8.toInt8_toInt32]
  rw [bk_X7_append_0, show vi 24 = vi (nI 24) from rfl]
  refine one 24 n h t (by omega) (by omega) S (fun h1 S1 W1 => ?_)
  rw [bk_X7_append_28, show nI 24 + (-8) = nI 16 by decide]
  refine one 16 (n + 1) h1 _ (by omega) (by omega) S1 (fun h2 S2 W2 => ?_)
  rw [bk_X7_append_28, show nI 16 + (-8) = nI 8 by decide]
  refine one 8 (n + 1 + 1) h2 _ (by omega) (by omega) S2 (fun h3 S3 W3 => ?_)
  rw [bk_X7_append_28, show nI 8 + (-8) = nI 0 by decide]
  refine one 0 (n + 1 + 1 + 1) h3 _ (by omega) (by omega) S3 (fun h4 S4 W4 => ?_)
  rw [bk_X7_append_28, show nI 0 + (-8) = -8 by decide, bk_X7_append_2]
  refine ⟨fun _ => ?_, fun z => absurd (by decide) z⟩
  rw [bk_X7_append_30]
  refine H h4 (S4.cg (fun i hi => ?_)) (W1.tr (W2.tr (W3.tr W4)))
  by_cases y : i < n
  · rw [if_pos y, if_neg (by omega), if_neg (by omega), if_neg (by omega), if_neg (by omega)]
  · rw [if_neg y]
    rcases (show i = n ∨ i = n + 1 ∨ i = n + 1 + 1 ∨ i = n + 1 + 1 + 1 by omega) with z | z | z | z
    · rw [if_neg (by omega), if_neg (by omega), if_neg (by omega), if_pos z, show 24 - 8 * (i - n) = 24 by omega]
    · rw [if_neg (by omega), if_neg (by omega), if_pos z, show 24 - 8 * (i - n) = 16 by omega]
    · rw [if_neg (by omega), if_pos z, show 24 - 8 * (i - n) = 8 by omega]
    · rw [if_pos z, show 24 - 8 * (i - n) = 0 by omega]
theorem fd_at (r : RV) (n : Nat) (x1 x2 x3 x4 x5 : Int32) (i : Nat) : ai (fdF r n x1 x2 x3 x4 x5) 1 i = if n ≤ i ∧ i < n + 20 then fdB x1 x2 x3 x4 x5 (i - n) else ai r 1 i := by
  have G : ∀ m, ai (fup (fun k r => tI r 1 (n + k) (fdB x1 x2 x3 x4 x5 k)) m 0 r) 1 i = if n ≤ i ∧ i < n + m then fdB x1 x2 x3 x4 x5 (i - n) else ai r 1 i := by
    intro m
    induction m with
    | zero => rw [if_neg (by omega)]; rfl
    | succ m ih =>
      rw [fup_snoc, Nat.zero_add, ai_tI]
      by_cases y : i = n + m
      · rw [if_pos ⟨rfl, y⟩, if_pos (by omega), y, Nat.add_sub_cancel_left]
      · rw [if_neg (fun z => y z.2), ih]
        by_cases z : n ≤ i ∧ i < n + m
        · rw [if_pos z, if_pos (by omega)]
        · rw [if_neg z, if_neg (by omega)]
  exact G 20
theorem c_feed {r : RV} (O : COB h a T W U) (TT : TS h T (ai r 1) n) (x1 x2 x3 x4 x5 : Int32) (H1 : 2000 < n + 20 → Q (some (vi (-3))) h) (H2 : n + 20 ≤ 2000 → ∀ h', TS h' T (ai (fdF r n x1 x2 x3 x4 x5) 1) (n + 20) → COB h' a T W U → FDW T h h' → Q (some (vi (nI (n + 20)))) h') : wp (d + 1) K_X11_feed 0 [] [(0, vr (some a)), (1, vi x1), (2, vi x2), (3, vi x3), (4, vi x4), (5, vi x5)] h Q := by
  have n2 := TT.2.2.2.2.2.2.2.2.2.1
  have t9 := TT.2.2.2.2.2.2.2.2.1
  have keep : ∀ {h1 h2 : AH}, COB h1 a T W U → FDW T h1 h2 → COB h2 a T W U := fun O1 W1 => O1.fx W1.1 (fun g hg z => by unfold EFD at z; omega)
  rw [bk_X11_feed_0, O.2.2.1, nn_some, t9, show (20 : Int32) = nI 20 from rfl, nI_add, show (2000 : Int32) = nI 2000 from rfl, nI_leI (by omega) (by omega)]
  refine ⟨O.1, TT.1, fun z => ?_, fun z => ?_⟩
  · rw [bk_X11_feed_9, O.2.2.1, nn_some]
    refine ⟨O.1, TT.1, p_append TT (by omega) x1 (fun h1 S1 W1 => ?_)⟩
    have O1 := keep O W1
    simp only [psh]
    rw [bk_X11_feed_13, O1.2.2.1, nn_some]
    refine ⟨O1.1, S1.1, p_append S1 (by omega) x2 (fun h2 S2 W2 => ?_)⟩
    have O2 := keep O1 W2
    simp only [psh]
    rw [bk_X11_feed_17, O2.2.2.1, nn_some]
    refine ⟨O2.1, S2.1, p_append S2 (by omega) x3 (fun h3 S3 W3 => ?_)⟩
    have O3 := keep O2 W3
    simp only [psh]
    rw [bk_X11_feed_21, O3.2.2.1, nn_some]
    refine ⟨O3.1, S3.1, p_append S3 (by omega) x4 (fun h4 S4 W4 => ?_)⟩
    have O4 := keep O3 W4
    simp only [psh]
    rw [bk_X11_feed_25, O4.2.2.1, nn_some]
    refine ⟨O4.1, S4.1, p_append S4 (by omega) x5 (fun h5 S5 W5 => ?_)⟩
    have O5 := keep O4 W5
    simp only [psh]
    rw [bk_X11_feed_29, O5.2.2.1, nn_some, S5.2.2.2.2.2.2.2.2.1, show n + 4 + 4 + 4 + 4 + 4 = n + 20 by omega]
    rw [show n + 4 + 4 + 4 + 4 + 4 = n + 20 by omega] at S5
    refine ⟨O5.1, S5.1, H2 z h5 (S5.cg (fun i hi => ?_)) O5 (W1.tr (W2.tr (W3.tr (W4.tr W5))))⟩
    rw [fd_at]
    by_cases y : i < n
    · rw [if_neg (show ¬ (n ≤ i ∧ i < n + 20) by omega), if_pos (show i < n + 4 + 4 + 4 + 4 by omega), if_pos (show i < n + 4 + 4 + 4 by omega), if_pos (show i < n + 4 + 4 by omega), if_pos (show i < n + 4 by omega), if_pos y]
    · rw [if_pos (show n ≤ i ∧ i < n + 20 by omega)]
      unfold fdB fdX
      by_cases y1 : i < n + 4
      · rw [if_pos (show i < n + 4 + 4 + 4 + 4 by omega), if_pos (show i < n + 4 + 4 + 4 by omega), if_pos (show i < n + 4 + 4 by omega), if_pos y1, if_neg y, if_pos (show i - n < 4 by omega), show 24 - 8 * (i - n) = 24 - 8 * ((i - n) % 4) by omega]
      by_cases y2 : i < n + 4 + 4
      · rw [if_pos (show i < n + 4 + 4 + 4 + 4 by omega), if_pos (show i < n + 4 + 4 + 4 by omega), if_pos y2, if_neg y1, if_neg (show ¬ i - n < 4 by omega), if_pos (show i - n < 8 by omega), show 24 - 8 * (i - (n + 4)) = 24 - 8 * ((i - n) % 4) by omega]
      by_cases y3 : i < n + 4 + 4 + 4
      · rw [if_pos (show i < n + 4 + 4 + 4 + 4 by omega), if_pos y3, if_neg y2, if_neg (show ¬ i - n < 4 by omega), if_neg (show ¬ i - n < 8 by omega), if_pos (show i - n < 12 by omega), show 24 - 8 * (i - (n + 4 + 4)) = 24 - 8 * ((i - n) % 4) by omega]
      by_cases y4 : i < n + 4 + 4 + 4 + 4
      · rw [if_pos y4, if_neg y3, if_neg (show ¬ i - n < 4 by omega), if_neg (show ¬ i - n < 8 by omega), if_neg (show ¬ i - n < 12 by omega), if_pos (show i - n < 16 by omega), show 24 - 8 * (i - (n + 4 + 4 + 4)) = 24 - 8 * ((i - n) % 4) by omega]
      · rw [if_neg y4, if_neg (show ¬ i - n < 4 by omega), if_neg (show ¬ i - n < 8 by omega), if_neg (show ¬ i - n < 12 by omega), if_neg (show ¬ i - n < 16 by omega), show 24 - 8 * (i - (n + 4 + 4 + 4 + 4)) = 24 - 8 * ((i - n) % 4) by omega]
  · rw [bk_X11_feed_7]
    exact H1 (by omega)
end
