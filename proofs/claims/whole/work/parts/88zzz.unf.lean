/-! What the class holds of a text that was read and judged; the questions -/
def BND (U V : Nat) (R : RV) (G : Nat → Nat → Nat) (nm : Nat) (fW : Nat → Nat) : Prop := (∀ s, SRG R s → (U + 10 ≤ G 0 s ∧ G 0 s < V) ∧ (ai R 19 s = 9 ∨ ai R 19 s = 10 → U + 10 ≤ G 6 s ∧ G 6 s + 3 < V) ∧ ∀ i, i < tn (ai R 32 s) → U + 10 ≤ G 2 (4 * s + i) ∧ G 2 (4 * s + i) + 4 < V) ∧ (∀ b, wN R * 1024 ≤ b ∧ b < nbN R → U + 10 ≤ G 1 b ∧ G 1 b < V) ∧ (∀ m, m < nm → U + 10 ≤ fW m ∧ fW m + 4 < V) ∧ ∀ s t i j, SRG R s → SRG R t → i < tn (ai R 32 s) → j < tn (ai R 32 t) → G 2 (4 * s + i) = G 2 (4 * t + j) → s = t ∧ i = j
def UNF (h : AH) (U V e0 : Nat) (R : RV) (C L : Nat → Int32) (G : Nat → Nat → Nat) (nm : Nat) (fW : Nat → Nat) (nk : Nat) (par : Nat → Nat) (wk : Nat → Int64) (pk : Nat → Int32) (ns : Nat) (fS : Nat → Nat) (ks : List Nat) : Prop :=
  (tg h U = 11 ∧ fP h 31000 U = some (U + 1) ∧ fP h 31001 U = some (U + 6) ∧ fP h 31002 U = some (U + 7) ∧ fP h 31003 U = some (U + 8) ∧ U + 8 < V ∧ V ≤ tp h) ∧ KD h (U + 1) nk par wk pk ∧
  (∃ eW eS eM, AL h e0 (U + 6) eW nm fW ∧ AL h e0 (U + 7) eS ns fS ∧ ML h e0 (U + 8) eM ks ∧ (nm = 0 ∨ U ≤ eW ∧ eW < V) ∧ (ns = 0 ∨ U ≤ eS ∧ eS < V) ∧ (ks.length = 0 ∨ U ≤ eM ∧ eM < V)) ∧
  ((∀ i, i < nm → tg h (fW i) = 13) ∧ ∀ i, i < ns → tg h (fS i) = 9) ∧ (leL ks ∧ (∀ k, k ∈ ks → k < 2 ^ 31) ∧ ks.length ≤ 4000) ∧
  (KEQ R nk par ∧ ∀ k, k < nk → wk k = conv (al R 3 (wN R * 16 + k)) ∧ WV (al R 3 (wN R * 16 + k)) ∧ pk k = ai R 4 (wN R * 16 + k)) ∧
  (TRE R G nm ∧ nm = nmN R ∧ nm ≤ 12 ∧ ns = nsC R ∧ ns ≤ 120 ∧ ∀ k, k < ns → fS k = G 0 (wN R * 120 + k)) ∧
  (∀ s, SRG R s → SIM h U R G s ∧ JDS R C L G nm h s ∧ (L s = 0 ∨ L s = 1)) ∧ (∀ b, wN R * 1024 ≤ b ∧ b < nbN R → BIM h R G b) ∧ (∀ m, m < nm → WYJ h R G (wN R * 12 + m) (fW m) ∧ JDW R C L G nm fW h m) ∧ BND U V R G nm fW
/-- the class's object -/
def COB (h : AH) (a T W U : Nat) : Prop := tg h a = 14 ∧ a < tp h ∧ fP h 31300 a = some T ∧ fP h 31301 a = some W ∧ fP h 31302 a = some U ∧ tg h W = 12 ∧ W < tp h
theorem COB.fx {E : Nat → Nat → Prop} {h h' : AH} {a T W U : Nat} (O : COB h a T W U) (x : FX E h h') (n : ∀ g, g = 31300 ∨ g = 31301 ∨ g = 31302 → ¬ E g a) : COB h' a T W U := by
  obtain ⟨o1, o2, o3, o4, o5, o6, o7⟩ := O
  exact ⟨by rw [x.tg o2]; exact o1, by have := x.1; omega, by rw [x.fP o2 (n _ (by omega))]; exact o3, by rw [x.fP o2 (n _ (by omega))]; exact o4, by rw [x.fP o2 (n _ (by omega))]; exact o5, by rw [x.tg o7]; exact o6, by have := x.1; omega⟩
theorem nI_and15 (m : Nat) : nI m &&& 15 = nI (m % 16) := by
  apply Int32.toBitVec_inj.mp
  show BitVec.ofNat 32 m &&& 15#32 = BitVec.ofNat 32 (m % 16)
  apply BitVec.eq_of_toNat_eq
  rw [BitVec.toNat_and, BitVec.toNat_ofNat m 32, BitVec.toNat_ofNat (m % 16) 32]
  show (m % 2 ^ 32) &&& (2 ^ 4 - 1) = _
  rw [Nat.and_two_pow_sub_one_eq_mod]
  omega
theorem nI_and31 (m : Nat) : nI m &&& 31 = nI (m % 32) := by
  apply Int32.toBitVec_inj.mp
  show BitVec.ofNat 32 m &&& 31#32 = BitVec.ofNat 32 (m % 32)
  apply BitVec.eq_of_toNat_eq
  rw [BitVec.toNat_and, BitVec.toNat_ofNat m 32, BitVec.toNat_ofNat (m % 32) 32]
  show (m % 2 ^ 32) &&& (2 ^ 5 - 1) = _
  rw [Nat.and_two_pow_sub_one_eq_mod]
  omega
theorem c_bit {d : Nat} {h : AH} {Q : Option V → AH → Prop} (v : Bool) (H : Q (some (vi (b2i v))) h) : wp d K_X11_bit 0 [] [(0, vi (b2i v))] h Q := by
  rw [bk_X11_bit_0, b2i_0]
  refine ⟨fun z => ?_, fun z => ?_⟩
  · rw [bk_X11_bit_4, bk_X11_bit_5]; rw [z] at H; exact H
  · rw [bk_X11_bit_2, bk_X11_bit_5]; rw [bt z] at H; exact H
/-- a switch over few numbers -/
theorem sw_5 (x : Int32) : (x < 0 ∨ 0 + Int32.ofNat 5 ≤ x) ∨ (x = 0 ∨ x = 1 ∨ x = 2 ∨ x = 3 ∨ x = 4) := by
  have q : ∀ n : Int32, x.toInt = n.toInt → x = n := fun n e => Int32.toInt_inj.mp e
  rw [Int32.lt_iff_toInt_lt, Int32.le_iff_toInt_le]
  have e0 : (0 : Int32).toInt = 0 := by decide
  have e5 : (0 + Int32.ofNat 5 : Int32).toInt = 5 := by decide
  rw [e0, e5]
  have t : (x.toInt < 0 ∨ 5 ≤ x.toInt) ∨ (x.toInt = 0 ∨ x.toInt = 1 ∨ x.toInt = 2 ∨ x.toInt = 3 ∨ x.toInt = 4) := by omega
  exact t.imp id (fun t => t.imp (q 0) (fun t => t.imp (q 1) (fun t => t.imp (q 2) (fun t => t.imp (q 3) (q 4)))))
theorem sw_3 (x : Int32) : (x < 0 ∨ 0 + Int32.ofNat 3 ≤ x) ∨ (x = 0 ∨ x = 1 ∨ x = 2) := by
  have q : ∀ n : Int32, x.toInt = n.toInt → x = n := fun n e => Int32.toInt_inj.mp e
  rw [Int32.lt_iff_toInt_lt, Int32.le_iff_toInt_le]
  have e0 : (0 : Int32).toInt = 0 := by decide
  have e5 : (0 + Int32.ofNat 3 : Int32).toInt = 3 := by decide
  rw [e0, e5]
  have t : (x.toInt < 0 ∨ 3 ≤ x.toInt) ∨ (x.toInt = 0 ∨ x.toInt = 1 ∨ x.toInt = 2) := by omega
  exact t.imp id (fun t => t.imp (q 0) (fun t => t.imp (q 1) (q 2)))
theorem sw_7 (x : Int32) : (x < 0 ∨ 0 + Int32.ofNat 7 ≤ x) ∨ (x = 0 ∨ x = 1 ∨ x = 2 ∨ x = 3 ∨ x = 4 ∨ x = 5 ∨ x = 6) := by
  have q : ∀ n : Int32, x.toInt = n.toInt → x = n := fun n e => Int32.toInt_inj.mp e
  rw [Int32.lt_iff_toInt_lt, Int32.le_iff_toInt_le]
  have e0 : (0 : Int32).toInt = 0 := by decide
  have e5 : (0 + Int32.ofNat 7 : Int32).toInt = 7 := by decide
  rw [e0, e5]
  have t : (x.toInt < 0 ∨ 7 ≤ x.toInt) ∨ (x.toInt = 0 ∨ x.toInt = 1 ∨ x.toInt = 2 ∨ x.toInt = 3 ∨ x.toInt = 4 ∨ x.toInt = 5 ∨ x.toInt = 6) := by omega
  exact t.imp id (fun t => t.imp (q 0) (fun t => t.imp (q 1) (fun t => t.imp (q 2) (fun t => t.imp (q 3) (fun t => t.imp (q 4) (fun t => t.imp (q 5) (q 6)))))))
theorem out_ne {x : Int32} {n : Nat} (z : x < 0 ∨ 0 + Int32.ofNat n ≤ x) (hn : n < 100) (k : Nat) (hk : k < n) : ¬ x = nI k := fun e => by
  rw [e, show (0 : Int32) + Int32.ofNat n = nI n by rw [Int32.zero_add]; rfl, nI_leI (by omega) (by omega)] at z
  rcases z with z | z
  · exact nI_pos (by omega) z
  · omega
section
variable {d : Nat} {h : AH} {Q : Option V → AH → Prop} {a T W U V' e0 n : Nat} {t : Nat → Int32} {R : RV} {C L : Nat → Int32} {G : Nat → Nat → Nat} {nm : Nat} {fW : Nat → Nat} {nk : Nat} {par : Nat → Nat} {wk : Nat → Int64} {pk : Nat → Int32} {ns : Nat} {fS : Nat → Nat} {ks : List Nat}
theorem c_told (O : COB h a T W U) (N : UNF h U V' e0 R C L G nm fW nk par wk pk ns fS ks) (TT : TS h T t n) (x : Int32) (H : Q (some (vi (if x = 0 then nI nk else if x = 1 then nI nm else if x = 2 then nI ns else if x = 3 then nI ks.length else if x = 4 then nI n else -3))) h) : wp (d + 1) K_X11_told 0 [] [(0, vr (some a)), (1, vi x)] h Q := by
  obtain ⟨o1, o2, o3, o4, o5, o6⟩ := O
  obtain ⟨⟨u1, u2, u3, u4, u5, -⟩, K, ⟨eW, eS, eM, aW, aS, ⟨fM, aM, -⟩, -⟩, -⟩ := N
  have kt := K.1
  rw [bk_X11_told_0]
  refine ⟨fun z => ?_, fun j hj e => ?_⟩
  · have q := fun k hk => out_ne z (by omega) k hk
    rw [if_neg (show ¬ x = 0 from q 0 (by omega)), if_neg (show ¬ x = 1 from q 1 (by omega)), if_neg (show ¬ x = 2 from q 2 (by omega)), if_neg (show ¬ x = 3 from q 3 (by omega)), if_neg (show ¬ x = 4 from q 4 (by omega))] at H
    rw [bk_X11_told_26]; exact H
  · rcases (show j = 0 ∨ j = 1 ∨ j = 2 ∨ j = 3 ∨ j = 4 by omega) with y | y | y | y | y
    all_goals rw [y] at e ⊢; rw [e] at H
    · show wp _ K_X11_told 2 _ _ _ _
      rw [if_pos (by decide)] at H
      rw [bk_X11_told_2, o5, nn_some, u2, nn_some, K.2.2.2.2.2.2.1]
      exact ⟨o1, u1, kt, H⟩
    · show wp _ K_X11_told 7 _ _ _ _
      rw [if_neg (by decide), if_pos (by decide)] at H
      rw [bk_X11_told_7, o5, nn_some, u3, nn_some, l_size aW]
      refine ⟨o1, u1, aW.1, ?_⟩
      simp only [psh]
      rw [bk_X11_told_11]; exact H
    · show wp _ K_X11_told 12 _ _ _ _
      rw [if_neg (by decide), if_neg (by decide), if_pos (by decide)] at H
      rw [bk_X11_told_12, o5, nn_some, u4, nn_some, l_size aS]
      refine ⟨o1, u1, aS.1, ?_⟩
      simp only [psh]
      rw [bk_X11_told_16]; exact H
    · show wp _ K_X11_told 17 _ _ _ _
      rw [if_neg (by decide), if_neg (by decide), if_neg (by decide), if_pos (by decide)] at H
      rw [bk_X11_told_17, o5, nn_some, u5, nn_some, l_size aM]
      refine ⟨o1, u1, aM.1, ?_⟩
      simp only [psh]
      rw [bk_X11_told_21]; exact H
    · show wp _ K_X11_told 22 _ _ _ _
      rw [if_neg (by decide), if_neg (by decide), if_neg (by decide), if_neg (by decide), if_pos (by decide)] at H
      rw [bk_X11_told_22, o3, nn_some, TT.2.2.2.2.2.2.2.2.1]
      exact ⟨o1, TT.1, H⟩
/-- a mistake's numbers -/
def cmS (ks : List Nat) (x y : Int32) : Int32 := match ixO x ks.length with
  | none => -3
  | some j => if y = 0 then nI (ks.getD j 0 / 32 % 16) else if y = 1 then nI (ks.getD j 0 / 512) else if y = 2 then kI (ks.getD j 0 % 32) else -3
theorem c_mistake (O : COB h a T W U) (N : UNF h U V' e0 R C L G nm fW nk par wk pk ns fS ks) (x y : Int32) (H : Q (some (vi (cmS ks x y))) h) : wp (d + 3) K_X11_mistake 0 [] [(0, vr (some a)), (1, vi x), (2, vi y)] h Q := by
  obtain ⟨o1, o2, o3, o4, o5, o6⟩ := O
  obtain ⟨⟨u1, u2, u3, u4, u5, -⟩, K, ⟨eW, eS, eM, aW, aS, ⟨fM, aM, bM⟩, -⟩, -, ⟨-, k31, k4⟩, -⟩ := N
  unfold cmS at H
  have bad : ixO x ks.length = none → wp (d + 3) K_X11_mistake 8 [] [(0, vr (some a)), (1, vi x), (2, vi y)] h Q := fun e => by
    rw [e] at H
    rw [bk_X11_mistake_8]; exact H
  rw [bk_X11_mistake_0]
  rcases ixO_cases x (n := ks.length) (by omega) with ⟨e, z⟩ | ⟨j, hj, ej, e⟩
  · refine ⟨fun _ => bad e, fun q => ?_⟩
    rw [bk_X11_mistake_2, o5, nn_some, u5, nn_some, l_size aM]
    refine ⟨o1, u1, aM.1, ?_⟩
    simp only [psh]
    rw [bk_X11_mistake_7]
    refine ⟨fun y => ?_, fun _ => bad e⟩
    rcases z with z | z
    · exact absurd z q
    · exact absurd y (Int32.not_lt.mpr z.2)
  · have n0 : ¬ x < 0 := by rw [ej]; exact nI_pos (by omega)
    refine ⟨fun z => absurd z n0, fun _ => ?_⟩
    rw [bk_X11_mistake_2, o5, nn_some, u5, nn_some, l_size aM]
    refine ⟨o1, u1, aM.1, ?_⟩
    simp only [psh]
    rw [bk_X11_mistake_7, ej, nI_ltI (by omega) (by omega)]
    refine ⟨fun _ => ?_, fun z => absurd hj z⟩
    rw [bk_X11_mistake_10, o5, nn_some, u5, nn_some, l_get aM hj (by omega)]
    refine ⟨o1, u1, aM.1, ?_⟩
    simp only [psh]
    obtain ⟨m1, m2⟩ := bM j hj
    have kk : ks[j] < 2 ^ 31 := k31 _ (List.getElem_mem hj)
    have eg : ks.getD j 0 = ks[j] := by rw [List.getD_eq_getElem?_getD, List.getElem?_eq_getElem hj]; rfl
    rw [e] at H
    have H : Q (some (vi (if y = 0 then nI (ks.getD j 0 / 32 % 16) else if y = 1 then nI (ks.getD j 0 / 512) else if y = 2 then kI (ks.getD j 0 % 32) else -3))) h := H
    rw [eg] at H
    rw [bk_X11_mistake_15, nn_some, i_intValue m1, m2]
    refine ⟨fun a ea => (Option.some.inj ea) ▸ m1, m1, ?_⟩
    simp only [psh]
    rw [bk_X11_mistake_17]
    refine ⟨fun z => ?_, fun i hi ei => ?_⟩
    · have q := fun k hk => out_ne z (by omega) k hk
      rw [if_neg (show ¬ y = 0 from q 0 (by omega)), if_neg (show ¬ y = 1 from q 1 (by omega)), if_neg (show ¬ y = 2 from q 2 (by omega))] at H
      rw [bk_X11_mistake_29]; exact H
    · rcases (show i = 0 ∨ i = 1 ∨ i = 2 by omega) with z | z | z
      all_goals rw [z] at ei ⊢; rw [ei] at H ⊢
      · show wp _ K_X11_mistake 20 _ _ _ _
        rw [if_pos (by decide)] at H
        rw [bk_X11_mistake_20, bk_X8_codeIn_0, pk_shrN kk _ 5 (by decide), nI_and15]
        simp only [psh]
        rw [bk_X11_mistake_22]; exact H
      · show wp _ K_X11_mistake 23 _ _ _ _
        rw [if_neg (by decide), if_pos (by decide)] at H
        rw [bk_X11_mistake_23, bk_X8_placeIn_0, pk_shrN kk _ 9 (by decide)]
        simp only [psh]
        rw [bk_X11_mistake_25]; exact H
      · show wp _ K_X11_mistake 26 _ _ _ _
        rw [if_neg (by decide), if_neg (by decide), if_pos (by decide)] at H
        rw [bk_X11_mistake_26, bk_X8_kindIn_0, nI_and31]
        simp only [psh]
        rw [bk_X11_mistake_28]; exact H
end
