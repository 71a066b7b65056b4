/-! A lambda's block -/
abbrev MK (U g y : Nat) : Prop := y = U + 9 ∧ (g = 703 ∨ g = 704 ∨ g = 10705 ∨ g = 30706)
theorem st_lambda {D : Nat} (HB : BLC D) {d : Nat} {h h3 h5 : AH} {Q : Option V → AH → Prop} {T U e0 l : Nat} {il : Bool} {so : Option Nat} {sc : List Nat} {r R X1 : RV} {nk : Nat} {par : Nat → Nat} {wk : Nat → Int64} {pk : Nat → Int32} {nm : Nat} {fW fS : Nat → Nat} {ks4 : List Nat} {B B0 : Nat} {G : Nat → Nat → Nat} {what : Int32} {c : Nat} (hd : 20 * (9 - D) ≤ d) (A : RIL r) (hr : rng r) (hD : dN r = D) (D0 : 0 < D) (d1 : ¬ gi r 1451 = 125) (hl : l ≤ D) (M : MD r (dN r) c (rsN r + 1) X1) (O : OWN X1 what (nI (rsN r))) (hw : what = 1 ∨ what = 8) (st : stpF r = opB X1 26 (rsN r) what) (E5 : ES h5 T U e0 1 X1 D l il so) (CH : CHN h5 U sc so) (K : KD h5 (U + 1) nk par wk pk) (L5 : LST h5 U e0 nm fW (nsC r + 1) (up1 fS (nsC r) (tp h)) ks4 (B + 1)) (cr : B0 ≤ B + 2 + 3 * qN X1) (hB0 : 3 * tn (gi r 1448) + 100 ≤ B0) (hsc : ∀ a, a ∈ sc → U + 10 ≤ a)
    (DP : ENR r R → DPR h3 R G r (rsB r) sc l il nk wk nm (nsC r) fS) (DS : ENR r R → ∀ c, c ∈ cch R (rsB r) → SCF h5 R G c)
    (H1 : ∀ h4 h' h1 rc x ks' B' ns' fS' n, FX (MK U) h5 h4 → tp h4 = tp h5 → OPD r X1 D what → goL D n (stpF r) rc → RIL rc → gi rc 1452 = -1 → gi rc 1451 = 125 → dN rc = D + 1 → FX (EPa T U e0 sc) h4 h' → FX (MK U) h' h1 → tp h1 = tp h' → ES h1 T U e0 1 (clA rc) D l il so → LST h1 U e0 nm fW ns' fS' ks' B' → ns' = nsC rc → (∀ k, k < nsC r → fS' k = fS k) → B0 ≤ B' + 3 * qN (clA rc) → (tg h' x = 3 ∧ x < tp h' ∧ tp h4 ≤ x) → (ENR r R → ENR rc R ∧ ∃ G', BPO h4 h' U R (fun q i => if q = 0 ∧ i = rsN r then tp h else G q i) G' (stpF r) rc (nbN r) x ks4 ks' fS' ∧ cch R (nbN r) = cch R (rsB r)) → Q (some (vr (some x))) h1)
    (H2 : ∀ h1 rw x ks' B' ns' fS' n, goK D n (stpF r) rw → ¬ gi rw 1452 = -1 → FX (EPa T U e0 sc) h5 h1 → ES h1 T U e0 1 rw D l il so → LST h1 U e0 nm fW ns' fS' ks' B' → (∀ k, k < nsC r → fS' k = fS k) → B0 + D + 1 ≤ B' + 3 * tn (gi r 1448) + 20 → (tg h1 x = 3 ∧ x < tp h1 ∧ tp h5 ≤ x) → Q (some (vr (some x))) h1) : wp (d + 1) K_X5_takeLambda 0 [] [(0, vr (some (U + 9)))] h5 Q := by
  have c9 := E5.1.2.2.2.2.2.2.2.2.1
  have ps := E5.2.2.1
  have l4 := ps.2.2.1
  have il4 := ps.2.2.2.1
  have g704 : fI (setFI h5 10705 (U + 9) 0) 704 (U + 9) = nI l := by rw [fI_setFI, if_neg (by omega)]; exact l4
  rw [bk_X5_takeLambda_0, il4, g704, lt1, nI_add]
  have x1 : FX (MK U) h5 (setFI h5 10705 (U + 9) 0) := FX.FI ⟨rfl, by omega⟩
  have xs : FX (MK U) h5 (setFI (setFI h5 10705 (U + 9) 0) 704 (U + 9) (nI (l + 1))) := x1.toFI _ ⟨rfl, by omega⟩
  have EM : ES (setFI (setFI h5 10705 (U + 9) 0) 704 (U + 9) (nI (l + 1))) T U e0 1 X1 D (1 + l) false so := E5.ps xs ⟨by rw [fI_setFI, if_neg (by omega), fI_setFI, if_neg (by omega)]; exact ps.2.1, by rw [fFI_same, Nat.add_comm l 1], by rw [fI_setFI, if_neg (by omega)]; exact fFI_same _ _ _ _, ps.2.2.2.2⟩
  have LM : LST (setFI (setFI h5 10705 (U + 9) 0) 704 (U + 9) (nI (l + 1))) U e0 nm fW (nsC r + 1) (up1 fS (nsC r) (tp h)) ks4 (B + 1) := LST.ps L5 xs rfl rfl
  have xa : FX (EPa T U e0 sc) h5 (setFI (setFI h5 10705 (U + 9) 0) 704 (U + 9) (nI (l + 1))) := xs.mono (fun g y z => Or.inr (Or.inr (Or.inr ⟨z.1, by omega⟩)))
  have CM := CHN.ep CH xa
  have KM : KD (setFI (setFI h5 10705 (U + 9) 0) 704 (U + 9) (nI (l + 1))) (U + 1) nk par wk pk := K.ep xa (by have := E5.1.2.1; omega) L5.e0 hsc
  have tpM : tp (setFI (setFI h5 10705 (U + 9) 0) 704 (U + 9) (nI (l + 1))) = tp h5 := rfl
  have sfM : ENR r R → ∀ c, c ∈ cch R (rsB r) → SCF (setFI (setFI h5 10705 (U + 9) 0) 704 (U + 9) (nI (l + 1))) R G c := fun EN c m => by
    obtain ⟨y1, y2, y3, y4, y5⟩ := DS EN c m
    refine ⟨y1, y2, ?_, ?_, y5⟩
    · rw [fI_setFI, if_neg (by omega), fI_setFI, if_neg (by omega)]; exact y3
    · rw [fI_setFI, if_neg (by omega), fI_setFI, if_neg (by omega)]; exact y4
  have c9M : tg (setFI (setFI h5 10705 (U + 9) 0) 704 (U + 9) (nI (l + 1))) (U + 9) = 8 := c9
  refine ⟨c9, c9, Or.inl rfl, c9, c9, c9M, ?_⟩
  generalize setFI (setFI h5 10705 (U + 9) 0) 704 (U + 9) (nI (l + 1)) = h4 at *
  have back : ∀ (h' : AH) a ks' B' ns' fS', ES h' T U e0 1 a D (1 + l) false so → LST h' U e0 nm fW ns' fS' ks' B' → tg h' (U + 9) = 8 ∧ fI h' 704 (U + 9) - 1 = nI l ∧ ES (setFI (setFI h' 704 (U + 9) (nI l)) 10705 (U + 9) (b2i il)) T U e0 1 a D l il so ∧ LST (setFI (setFI h' 704 (U + 9) (nI l)) 10705 (U + 9) (b2i il)) U e0 nm fW ns' fS' ks' B' ∧ FX (MK U) h' (setFI (setFI h' 704 (U + 9) (nI l)) 10705 (U + 9) (b2i il)) := fun h' a ks' B' ns' fS' E' L' => by
    have x1 : FX (MK U) h' (setFI h' 704 (U + 9) (nI l)) := FX.FI ⟨rfl, by omega⟩
    have xs : FX (MK U) h' (setFI (setFI h' 704 (U + 9) (nI l)) 10705 (U + 9) (b2i il)) := x1.toFI _ ⟨rfl, by omega⟩
    have ps := E'.2.2.1
    refine ⟨E'.1.2.2.2.2.2.2.2.2.1, by rw [ps.2.2.1, Nat.add_comm, nI_pred], E'.ps xs ⟨?_, ?_, fFI_same _ _ _ _, ps.2.2.2.2⟩, LST.ps L' xs rfl rfl, xs⟩
    · rw [fI_setFI, if_neg (by omega), fI_setFI, if_neg (by omega)]; exact ps.2.1
    · rw [fI_setFI, if_neg (by omega)]; exact fFI_same _ _ _ _
  have n0 : ¬ what = 0 := by rcases hw with hw | hw <;> rw [hw] <;> decide
  have n6 : ¬ what = 6 := by rcases hw with hw | hw <;> rw [hw] <;> decide
  refine st_block (R := R) (h := h) (h3 := h3) (G := G) (wk := wk) (l := l) (il := il) (fS := fS) (what := what) HB hd A hr hD D0 d1 (by omega) M O n0 n6 st EM CM KM LM cr hB0 (by rw [if_pos hw]) (by rw [if_pos hw]) DP sfM ?_ ?_
  · intro h' rc x ks' B' ns' fS' n OD g Ac ec c125 dc Ec Xc Lc ens fk crc tx BP
    obtain ⟨k1, k0, k2, k3, k4⟩ := back h' _ ks' B' ns' fS' Ec Lc
    simp only [psh]
    rw [bk_X5_takeLambda_14, k0]
    refine ⟨k1, k1, k1, b2i_sI il, ?_⟩
    exact H1 h4 h' _ rc x ks' B' ns' fS' n xs tpM OD g Ac ec c125 dc Xc k4 rfl k2 k3 ens fk crc tx BP
  · intro h' rw x ks' B' ns' fS' n gk bad Ew Xw Lw fk crw tx
    obtain ⟨k1, k0, k2, k3, k4⟩ := back h' _ ks' B' ns' fS' Ew Lw
    simp only [psh]
    rw [bk_X5_takeLambda_14, k0]
    refine ⟨k1, k1, k1, b2i_sI il, ?_⟩
    exact H2 _ rw x ks' B' ns' fS' n gk bad ((xa.tr Xw).tr (k4.mono (fun g y z => Or.inr (Or.inr (Or.inr ⟨z.1, by omega⟩))))) k2 k3 fk crw ⟨tx.1, tx.2.1, by omega⟩
