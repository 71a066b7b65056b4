/-! The class's judging: what is not told; what a parameter can be -/
theorem bnt {b : Bool} (h : ¬ b = true) : b = false := by cases b <;> simp_all
theorem fup_add {α : Type} {f : Nat → α → α} : ∀ m n k x, fup f (m + n) k x = fup f n (k + m) (fup f m k x) := by
  intro m
  induction m with
  | zero => intro n k x; rw [Nat.zero_add]; rfl
  | succ m ih => intro n k x; rw [show m + 1 + n = (m + n) + 1 by omega, fup, ih, fup, show k + 1 + m = k + (m + 1) by omega]
theorem fup_id {α : Type} {f : Nat → α → α} : ∀ m k x, (∀ i x, k ≤ i → i < k + m → f i x = x) → fup f m k x = x := by
  intro m
  induction m with
  | zero => intro k x _; rfl
  | succ m ih => intro k x h; rw [fup, h k x (Nat.le_refl _) (by omega)]; exact ih (k + 1) x (fun i x h1 h2 => h i x (by omega) (by omega))
theorem flr_nil {f : Nat → List Nat} : ∀ m k, (∀ i, k ≤ i → i < k + m → f i = []) → flr f m k = [] := by
  intro m
  induction m with
  | zero => intro k _; rfl
  | succ m ih => intro k h; rw [flr, h k (Nat.le_refl _) (by omega), ih (k + 1) (fun i h1 h2 => h i (by omega) (by omega))]; rfl
theorem hasB_only {o : Option Nat} {k : Nat} (ho : ∀ j, o = some j → j < 32) (hk : k < 32) : hasB (onlyO o) k = decide (o = some k) := by
  cases o with
  | none => rw [show onlyO none = 0 from rfl, hasB_zero hk]; rfl
  | some j =>
    rw [show onlyO (some j) = one j from rfl, hasB_one (ho j rfl) hk]
    exact decide_eq_decide.mpr ⟨fun e => by rw [e], fun e => Option.some.inj e⟩
/-- the bits of a set of names -/
theorem hasB_nsS {mt : Nat → Option Nat} {k : Nat} (hk : k < 32) : ∀ m, (∀ i j, i < m → mt i = some j → j < 32) → (hasB (nsS mt m) k = true ↔ ∃ i, i < m ∧ mt i = some k) := by
  have G : ∀ m a x, (∀ i j, a ≤ i → i < a + m → mt i = some j → j < 32) → (hasB (fup (fun i x => x ||| onlyO (mt i)) m a x) k = true ↔ hasB x k = true ∨ ∃ i, a ≤ i ∧ i < a + m ∧ mt i = some k) := by
    intro m
    induction m with
    | zero =>
      intro a x _
      rw [fup]
      exact ⟨fun h => Or.inl h, fun h => h.elim id (fun ⟨i, h1, h2, _⟩ => by omega)⟩
    | succ m ih =>
      intro a x h
      rw [fup, ih (a + 1) _ (fun i j h1 h2 h3 => h i j (by omega) (by omega) h3), hasB_or _ _ hk, Bool.or_eq_true, hasB_only (fun j e => h a j (Nat.le_refl _) (by omega) e) hk, decide_eq_true_eq]
      constructor
      · rintro ((q | q) | ⟨i, h1, h2, h3⟩)
        · exact Or.inl q
        · exact Or.inr ⟨a, Nat.le_refl _, by omega, q⟩
        · exact Or.inr ⟨i, by omega, by omega, h3⟩
      · rintro (q | ⟨i, h1, h2, h3⟩)
        · exact Or.inl (Or.inl q)
        · by_cases y : i = a
          · rw [y] at h3; exact Or.inl (Or.inr h3)
          · exact Or.inr ⟨i, by omega, by omega, h3⟩
  intro m h
  have := G m 0 0 (fun i j _ h2 h3 => h i j (by omega) h3)
  rw [hasB_zero hk] at this
  show hasB (fup (fun i x => x ||| onlyO (mt i)) m 0 0) k = true ↔ _
  rw [this]
  constructor
  · rintro (q | ⟨i, -, h2, h3⟩)
    · cases q
    · exact ⟨i, by omega, h3⟩
  · rintro ⟨i, h2, h3⟩; exact Or.inr ⟨i, Nat.zero_le _, by omega, h3⟩
theorem un_nil (r : RV) (w nk : Nat) (t : Int32) (p : Nat) (h16 : nk ≤ 16) : flr (unL r w nk 0 t p) nk 0 = [] := flr_nil _ _ (fun i _ hi => by
  unfold unL
  rw [hasB_zero (by omega), Bool.false_and]; rfl)
section
variable {d : Nat} {h0 h : AH} {Q : Option V → AH → Prop} {T U a0 e0 J : Nat} {R : RV} {G : Nat → Nat → Nat} {nm : Nat} {fW : Nat → Nat} {nk : Nat} {par : Nat → Nat} {wk : Nat → Int64} {pk : Nat → Int32} {ns : Nat} {fS : Nat → Nat} {ks : List Nat} {B : Nat} {C L : Nat → Int32}
theorem jn_untold (Bs : JBS h0 U a0 J R G nm fW) (K : KEQ R nk par) {o : Option Nat} {can : Int32} {N n : Nat} {wd : Nat → Int64} {pc : Nat → Int32} {mt : Nat → Option Nat} {p : Nat} (S : JST h0 T U e0 R G nm fW nk par wk pk ns fS h ks (B + (flr (unL (pcl R C L) (wN R) nk can (nsS mt n) p) nk 0).length)) (ho : ∀ b, o = some b → tg h b = 3 ∧ fI h 202 b = can) (h0' : o = none → can = 0) (D : ND h N n wd pc mt) (hp : 0 < p) (hp2 : p < 4096)
    (H : ∀ h' ks', JST h0 T U e0 R G nm fW nk par wk pk ns fS h' ks' B → CTK ks' (flr (unL (pcl R C L) (wN R) nk can (nsS mt n) p) nk 0) ks → FX (ELs U e0) h h' → Q none h') : wp (d + 8) K_X2_noteUntold 0 [] [(0, vr (some J)), (1, vr o), (2, vr (some N)), (3, vi (nI p))] h Q := by
  have h16 := K.2.1
  rw [bk_X2_noteUntold_0]
  cases o with
  | none =>
    refine ⟨fun _ => ?_, fun z => absurd rfl z⟩
    rw [bk_X2_noteUntold_4]
    have e0' := h0' rfl
    rw [e0', un_nil _ _ _ _ _ h16] at S H
    exact H h ks S CTK.rf FX.rf
  | some b =>
    refine ⟨fun z => (by cases z), fun _ => ?_⟩
    obtain ⟨tb, cb⟩ := ho b rfl
    obtain ⟨j1, j2, j3, j4⟩ := Bs.jo S.2.2.2
    have kt : tg h (U + 1) = 6 := S.2.1.1
    rw [bk_X2_noteUntold_2]
    refine ⟨fun _ => ?_, fun z => by cases z⟩
    rw [bk_X2_noteUntold_5, nn_some, j4, nn_some, k_checkedOf S.2.1, cb]
    refine ⟨j1, j1, tb, kt, ?_⟩
    simp only [psh]
    rw [bk_X2_noteUntold_12, nn_some, n_asSet D]
    refine ⟨D.1, ?_⟩
    simp only [psh]
    rw [bk_X2_noteUntold_14, nn_some, k_notUnder S.2.1]
    refine ⟨kt, ?_⟩
    simp only [psh]
    rw [bk_X2_noteUntold_15]
    have eF : ∀ k, k < 32 → hasB (mask (fun k => hasB (mask (fun k => hasB can k && ckP par k) nk) k && !undP par nk k (nsS mt n)) nk) k = (decide (k < nk) && (hasB can k && (chk (pcl R C L) (wN R) nk k && !und (pcl R C L) (wN R) nk k (nsS mt n)))) := fun k hk => by
      rw [hasB_mask _ nk (by omega) k hk, hasB_mask _ nk (by omega) k hk]
      by_cases y : k < nk
      · rw [decide_eq_true y, Bool.true_and, Bool.true_and, Bool.true_and, K.ck (C := C) (L := L) y, K.ud (C := C) (L := L) y, Bool.and_assoc]
      · rw [decide_eq_false y, Bool.false_and, Bool.false_and]
    generalize mask (fun k => hasB (mask (fun k => hasB can k && ckP par k) nk) k && !undP par nk k (nsS mt n)) nk = un at eF ⊢
    have eL : flr (fun k => lif (hasB un k) (keyN p 9 (k + 1))) 16 0 = flr (unL (pcl R C L) (wN R) nk can (nsS mt n) p) nk 0 := by
      rw [show 16 = nk + (16 - nk) by omega, flr_add, flr_nil (16 - nk) _ (fun i h1 h2 => by rw [eF i (by omega), decide_eq_false (by omega), Bool.false_and]; rfl), List.append_nil]
      refine flr_cg _ _ (fun i _ h2 => ?_)
      rw [eF i (by omega), decide_eq_true (by omega), Bool.true_and]
      rfl
    rw [← eL] at S H
    have LP : ∀ f k (h1 : AH) ks1, k + f = 16 → JST h0 T U e0 R G nm fW nk par wk pk ns fS h1 ks1 (B + (flr (fun k => lif (hasB un k) (keyN p 9 (k + 1))) f k).length) → (∀ h' ks', JST h0 T U e0 R G nm fW nk par wk pk ns fS h' ks' B → CTK ks' (flr (fun k => lif (hasB un k) (keyN p 9 (k + 1))) f k) ks1 → FX (ELs U e0) h1 h' → Q none h') → wp (d + 8) K_X2_noteUntold 18 [] [(0, vr (some J)), (1, vr (some b)), (2, vr (some N)), (3, vi (nI p)), (4, vi un), (5, vi (nI k))] h1 Q := by
      intro f
      induction f with
      | zero =>
        intro k h1 ks1 e S1 H1
        rw [bk_X2_noteUntold_18, lt16, nI_leI (by omega) (by omega)]
        refine ⟨fun _ => ?_, fun z => by omega⟩
        rw [bk_X2_noteUntold_36]
        exact H1 h1 ks1 S1 CTK.rf FX.rf
      | succ f ih =>
        intro k h1 ks1 e S1 H1
        rw [bk_X2_noteUntold_18, lt16, nI_leI (by omega) (by omega)]
        refine ⟨fun z => by omega, fun _ => ?_⟩
        rw [bk_X2_noteUntold_21, hasB_def]
        rw [show flr (fun k => lif (hasB un k) (keyN p 9 (k + 1))) (f + 1) k = lif (hasB un k) (keyN p 9 (k + 1)) ++ flr (fun k => lif (hasB un k) (keyN p 9 (k + 1))) f (k + 1) from rfl] at S1 H1
        refine ⟨fun z => ?_, fun z => ?_⟩
        · have z := bnt z
          rw [z, lif_f, List.nil_append] at S1 H1
          rw [bk_X2_noteUntold_34, nI_1]
          exact ih (k + 1) h1 ks1 (by omega) S1 H1
        · have z := Classical.not_not.mp z
          rw [z, lif_t] at S1 H1
          obtain ⟨i1, i2, i3, i4⟩ := Bs.jo S1.2.2.2
          have ut : tg h1 U = 11 := S1.1.2.2.2.1
          rw [bk_X2_noteUntold_28, i3, nn_some, show (9 : Int32) = nI 9 from rfl, show vi (nI k) = vi (kI (k + 1)) by rw [kI_1]]
          refine ⟨i1, ut, j_noteL (d := d) (c := 9) (k := k + 1) S1 hp hp2 (by omega) (by omega) (fun h2 ks2 S2 c2 x2 => ?_)⟩
          simp only [psh]
          rw [bk_X2_noteUntold_34, kI_1, nI_1]
          exact ih (k + 1) h2 ks2 (by omega) S2 (fun h3 ks3 S3 c3 x3 => H1 h3 ks3 S3 (c2.tr c3) (x2.tr x3))
    exact LP 16 0 h ks rfl S H
/-- what a parameter can be -/
theorem jn_canBe (Bs : JBS h0 U a0 J R G nm fW) (K : KEQ R nk par) {x N n : Nat} {wd : Nat → Int64} {pc : Nat → Int32} {mt : Nat → Option Nat} {ins ah : Int32} (S : JST h0 T U e0 R G nm fW nk par wk pk ns fS h ks B) (tx : tg h x = 4) (hi : fI h 307 x = ins) (ha : fI h 308 x = ah) (pN : fP h 30300 x = some N) (D : ND h N n wd pc mt) (mk : ∀ i k, i < n → mt i = some k → k < nk)
    (H : Q (some (vi (agT (pcl R C L) (wN R) nk (mask (fun k => hasB (ins ||| 12) k && !und (pcl R C L) (wN R) nk k ah) nk) (nsS mt n)))) h) : wp (d + 2) K_X2_canBe 0 [] [(0, vr (some J)), (1, vr (some x))] h Q := by
  have h16 := K.2.1
  obtain ⟨j1, j2, j3, j4⟩ := Bs.jo S.2.2.2
  have kt : tg h (U + 1) = 6 := S.2.1.1
  rw [bk_X2_canBe_0, nn_some, nn_some, j4, nn_some, hi, ha, k_notUnder S.2.1]
  refine ⟨j1, tx, tx, kt, ?_⟩
  simp only [psh]
  rw [bk_X2_canBe_9, nn_some, pN, nn_some, n_asSet D]
  refine ⟨tx, D.1, ?_⟩
  simp only [psh]
  rw [bk_X2_canBe_13]
  have eM : mask (fun k => hasB (ins ||| 12) k && !undP par nk k ah) nk = mask (fun k => hasB (ins ||| 12) k && !und (pcl R C L) (wN R) nk k ah) nk := by
    refine fup_cg _ _ _ (fun k x _ hk => ?_)
    show (if (hasB (ins ||| 12) k && !undP par nk k ah) then x ||| one k else x) = (if (hasB (ins ||| 12) k && !und (pcl R C L) (wN R) nk k ah) then x ||| one k else x)
    rw [K.ud (C := C) (L := L) (by omega)]
  rw [eM]
  have hiT : ∀ k, k < 32 → nk ≤ k → hasB (mask (fun k => hasB (ins ||| 12) k && !und (pcl R C L) (wN R) nk k ah) nk) k = false := fun k h1 h2 => by
    rw [hasB_mask _ nk (by omega) k h1, decide_eq_false (by omega), Bool.false_and]
  have hiU : ∀ k, k < 32 → nk ≤ k → hasB (nsS mt n) k = false := fun k h1 h2 => by
    refine bnt (fun z => ?_)
    obtain ⟨i, i1, i2⟩ := (hasB_nsS h1 n (fun i j h1 h2 => by have := mk i j h1 h2; omega)).mp z
    have := mk i k i1 i2; omega
  generalize mask (fun k => hasB (ins ||| 12) k && !und (pcl R C L) (wN R) nk k ah) nk = t at *
  generalize nsS mt n = u at *
  have eA : agT (pcl R C L) (wN R) nk t u = fup (fun k x => fup (fun q x => agF (pcl R C L) (wN R) nk t u k q x) 16 0 x) 16 0 0 := by
    have i1 : ∀ k x, fup (fun q x => agF (pcl R C L) (wN R) nk t u k q x) 16 0 x = fup (fun q x => agF (pcl R C L) (wN R) nk t u k q x) nk 0 x := fun k x => by
      rw [show 16 = nk + (16 - nk) by omega, fup_add]
      refine fup_id _ _ _ (fun q x h1 h2 => ?_)
      show (if (hasB t k && hasB u q) then _ else x) = x
      rw [hiU q (by omega) (by omega), Bool.and_false, if_neg (by decide)]
    rw [show 16 = nk + (16 - nk) by omega, fup_add (m := nk), ← show 16 = nk + (16 - nk) by omega]
    rw [fup_id (16 - nk) _ _ (fun k x h1 h2 => by
      rw [i1]
      refine fup_id _ _ _ (fun q x h3 h4 => ?_)
      show (if (hasB t k && hasB u q) then _ else x) = x
      rw [hiT k (by omega) (by omega), Bool.false_and, if_neg (by decide)])]
    exact fup_cg _ _ _ (fun k x _ _ => (i1 k x).symm)
  rw [eA] at H
  -- the inner loop
  have I : ∀ f q k v x6, q + f = 16 → k < 16 → (∀ x6', wp (d + 2) K_X2_canBe 50 [] [(0, vr (some J)), (1, vr (some x)), (2, vi t), (3, vi u), (4, vi (fup (fun q x => agF (pcl R C L) (wN R) nk t u k q x) f q v)), (5, vi (nI k)), (6, vi x6')] h Q) → x6 = nI q → wp (d + 2) K_X2_canBe 23 [] [(0, vr (some J)), (1, vr (some x)), (2, vi t), (3, vi u), (4, vi v), (5, vi (nI k)), (6, vi x6)] h Q := by
    intro f
    induction f with
    | zero =>
      intro q k v x6 e hk H1 ex
      rw [ex, bk_X2_canBe_23, lt16, nI_leI (by omega) (by omega)]
      exact ⟨fun _ => H1 _, fun z => by omega⟩
    | succ f ih =>
      intro q k v x6 e hk H1 ex
      rw [ex, bk_X2_canBe_23, lt16, nI_leI (by omega) (by omega)]
      refine ⟨fun z => by omega, fun _ => ?_⟩
      rw [fup] at H1
      have skip : (hasB t k && hasB u q) = false → wp (d + 2) K_X2_canBe 48 [] [(0, vr (some J)), (1, vr (some x)), (2, vi t), (3, vi u), (4, vi v), (5, vi (nI k)), (6, vi (nI q))] h Q := fun z => by
        rw [bk_X2_canBe_48, nI_1]
        refine ih (q + 1) k v _ (by omega) hk (fun x6' => ?_) rfl
        have := H1 x6'
        rw [show agF (pcl R C L) (wN R) nk t u k q v = v from by unfold agF; rw [z, if_neg (by decide)]] at this
        exact this
      rw [bk_X2_canBe_26, hasB_def]
      refine ⟨fun z => skip (by rw [bnt z]; rfl), fun z => ?_⟩
      have z := Classical.not_not.mp z
      rw [bk_X2_canBe_33, hasB_def]
      refine ⟨fun z2 => skip (by rw [bnt z2, Bool.and_false]), fun z2 => ?_⟩
      have z2 := Classical.not_not.mp z2
      have kk : k < nk := Nat.lt_of_not_le (fun y => by rw [hiT k (by omega) y] at z; cases z)
      have qq : q < nk := Nat.lt_of_not_le (fun y => by rw [hiU q (by omega) y] at z2; cases z2)
      rw [bk_X2_canBe_40, j4, nn_some, k_lowerOf S.2.1 kk qq]
      refine ⟨j1, kt, ?_⟩
      simp only [psh]
      rw [bk_X2_canBe_46, bk_X2_canBe_48, nI_1]
      refine ih (q + 1) k _ _ (by omega) hk (fun x6' => ?_) rfl
      have := H1 x6'
      rw [show agF (pcl R C L) (wN R) nk t u k q v = v ||| (if belP par k q then one k else if belP par q k then one q else 0) from by unfold agF lowK; rw [z, z2, ← K.bl kk, ← K.bl qq]; rfl] at this
      exact this
  have O : ∀ f k v, k + f = 16 → Q (some (vi (fup (fun k x => fup (fun q x => agF (pcl R C L) (wN R) nk t u k q x) 16 0 x) f k v))) h → wp (d + 2) K_X2_canBe 18 [] [(0, vr (some J)), (1, vr (some x)), (2, vi t), (3, vi u), (4, vi v), (5, vi (nI k))] h Q := by
    intro f
    induction f with
    | zero =>
      intro k v e H1
      rw [bk_X2_canBe_18, lt16, nI_leI (by omega) (by omega)]
      refine ⟨fun _ => ?_, fun z => by omega⟩
      rw [bk_X2_canBe_52]; exact H1
    | succ f ih =>
      intro k v e H1
      rw [bk_X2_canBe_18, lt16, nI_leI (by omega) (by omega)]
      refine ⟨fun z => by omega, fun _ => ?_⟩
      rw [bk_X2_canBe_21]
      refine I 16 0 k v _ rfl (by omega) (fun x6' => ?_) rfl
      rw [bk_X2_canBe_50, nI_1]
      refine wp_cut 6 ?_
      rw [fup] at H1
      exact ih (k + 1) _ (by omega) H1
  exact O 16 0 0 rfl H
end
