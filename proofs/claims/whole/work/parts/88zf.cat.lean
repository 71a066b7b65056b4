/-! A catch is read: what is common; a text that is wrong -/
def CO (h : AH) (U y : Nat) (so : Option Nat) : Prop := U + 10 ≤ y ∧ y + 4 < tp h ∧ tg h y = 4 ∧ fP h 30300 y = some (y + 1) ∧ tg h (y + 1) = 7 ∧ fP h 30301 y = so
theorem CO.fx {E : Nat → Nat → Prop} {h h' : AH} {U y : Nat} {so : Option Nat} (c : CO h U y so) (x : FX E h h') (n : ¬ E 30300 y ∧ ¬ E 30301 y) : CO h' U y so := by
  obtain ⟨c1, c2, c3, c4, c5, c6⟩ := c
  exact ⟨c1, by have := x.1; omega, by rw [x.tg (by omega)]; exact c3, by rw [x.fP (by omega) n.1]; exact c4, by rw [x.tg (by omega)]; exact c5, by rw [x.fP (by omega) n.2]; exact c6⟩
theorem CHN.fm {E : Nat → Nat → Prop} {h h' : AH} {U : Nat} (x : FX E h h') : ∀ {l o}, (∀ a, a ∈ l → ¬ E 30300 a ∧ ¬ E 30301 a) → CHN h U l o → CHN h' U l o := by
  intro l
  induction l with
  | nil => intro o _ c; exact c
  | cons a l ih =>
    intro o n1 c
    obtain ⟨c1, c2, c3, c4, c5, c6, c7⟩ := c
    have l0 : a < tp h := by omega
    have na := n1 a List.mem_cons_self
    refine ⟨c1, c2, Nat.lt_of_lt_of_le c3 x.1, by rw [x.tg l0]; exact c4, by rw [x.fP l0 na.1]; exact c5, by rw [x.tg c3]; exact c6, ?_⟩
    rw [x.fP l0 na.2]; exact ih (fun a m => n1 a (List.mem_cons_of_mem _ m)) c7
theorem CHN.push {h : AH} {U y : Nat} {so : Option Nat} {sc : List Nat} (c : CO h U y so) (C : CHN h U sc so) : CHN h U (y :: sc) (some y) :=
  ⟨rfl, c.1, by have := c.2.1; omega, c.2.2.1, c.2.2.2.1, c.2.2.2.2.1, by rw [c.2.2.2.2.2]; exact C⟩
theorem es_wrong {h h' : AH} {T U e0 : Nat} {r1 rw : RV} {D l : Nat} {il : Bool} {so : Option Nat} {sc : List Nat} {D' l' : Nat} {il' : Bool} {so' : Option Nat} (E : ES h T U e0 1 r1 D' l' il' so') (x : FX (EPa T U e0 sc) h h') (E' : ES h' T U e0 1 rw D l il so) (e : gi rw 1452 = gi r1 1452) (bad : ¬ gi r1 1452 = -1) : ES h' T U e0 1 r1 D l il so := by
  obtain ⟨c, e2, -⟩ := E
  obtain ⟨c', -, p', q', -⟩ := E'
  have no : ∀ g y, ¬ (g = 903 ∨ g = 904 ∨ g = 905 ∨ g = 20906 ∨ g = 100 ∨ g = 102 ∨ g = 30101 ∨ g = 90003 ∨ g = 10304 ∨ g = 702 ∨ g = 703 ∨ g = 704 ∨ g = 10705 ∨ g = 30706) → ¬ EPa T U e0 sc g y := fun g y hg z => by
    have := EPa_is z
    omega
  exact ⟨c', e2.fy c.1.2 x (no _ _ (by omega)) (no _ _ (by omega)) (no _ _ (by omega)) (no _ _ (by omega)) (no _ _ (by omega)) (fun y => ⟨no _ _ (by omega), no _ _ (by omega), no _ _ (by omega), no _ _ (by omega), no _ _ (by omega)⟩) (fun y _ => no _ _ (by omega)), by rw [← e]; exact p', q', fun z => absurd z bad⟩
/-- the scope is set -/
theorem ES.sco {h : AH} {T U e0 m : Nat} {r : RV} {D l : Nat} {il : Bool} {so : Option Nat} (s : ES h T U e0 m r D l il so) (so' : Option Nat) : ES (setFP h 30706 (U + 9) so') T U e0 m r D l il so' := by
  have p := s.2.2.1
  refine s.ps (FX.FP ⟨rfl, by omega⟩) ⟨p.2.1, p.2.2.1, p.2.2.2.1, ?_⟩
  show (if 30706 = 30706 ∧ U + 9 = U + 9 then so' else _) = so'
  rw [if_pos ⟨rfl, rfl⟩]
theorem sco_fx {h : AH} {T U e0 : Nat} {sc : List Nat} {so' : Option Nat} : FX (EPa T U e0 sc) h (setFP h 30706 (U + 9) so') := FX.FP (Or.inr (Or.inr (Or.inr ⟨rfl, by omega⟩)))
theorem LST.sco {h : AH} {U e0 nm ns B : Nat} {fW fS : Nat → Nat} {ks : List Nat} (s : LST h U e0 nm fW ns fS ks B) (so' : Option Nat) : LST (setFP h 30706 (U + 9) so') U e0 nm fW ns fS ks B := LST.ps s (FX.FP ⟨rfl, by omega⟩) rfl rfl
/-- fewer credits -/
theorem LST.dr {h : AH} {U e0 nm ns B : Nat} {fW fS : Nat → Nat} {ks : List Nat} (k : Nat) (l : LST h U e0 nm fW ns fS ks (B + k)) : LST h U e0 nm fW ns fS ks B := LST.fx k l (FX.rf (E := fun _ _ => False)) (fun _ _ => ⟨fun z => z, fun z => z⟩) (fun _ z => z) (fun _ z => z) (by omega) (by omega)
section
variable {D d : Nat} {h : AH} {Q : Option V → AH → Prop} {T U e0 l : Nat} {il : Bool} {so : Option Nat} {sc : List Nat} {rw : RV} {nk : Nat} {par : Nat → Nat} {wk : Nat → Int64} {pk : Nat → Int32} {nm ns : Nat} {fW fS : Nat → Nat} {ks : List Nat} {B B0 y p : Nat}
theorem ctw_34 (HB : BLC D) (hd : 20 * (9 - D) ≤ d + 9) (hl : l ≤ D + 1) (E : ES h T U e0 1 rw D l il so) (bad : ¬ gi rw 1452 = -1) (C : CHN h U sc so) (c : CO h U y so) (K : KD h (U + 1) nk par wk pk) (L : LST h U e0 nm fW ns fS ks (B + 2)) (cr : B0 + D + 1 ≤ B + 3 * tn (gi rw 1448) + 20) (hB0 : 3 * tn (gi rw 1448) + 100 ≤ B0) (hp : 0 < p ∧ p ≤ 2000) (H : ∀ h' ks' B' ns' fS', ES h' T U e0 1 rw D l il so → FX (EPn T U e0 y sc) h h' → LST h' U e0 nm fW ns' fS' ks' B' → (∀ k, k < ns → fS' k = fS k) → B0 + D + 1 ≤ B' + 3 * tn (gi rw 1448) + 20 → tg h' y = 4 → Q (some (vr (some y))) h') : wp (d + 10) K_X5_takeCatch 34 [] [(0, vr (some (U + 9))), (1, vr (some y)), (2, vi (nI p))] h Q := by
  have c9 := E.1.2.2.2.2.2.2.2.2.1
  have c11 := E.1.2.2.2.2.2.2.2.2.2.2
  have c4 := E.1.2.2.2.1
  have tT : T < U := by have := E.1.2.1; omega
  have he := L.e0
  have T45 : ∀ ha ksa, ES ha T U e0 1 rw D l il so → CHN ha U sc so → CO ha U y so → KD ha (U + 1) nk par wk pk → LST ha U e0 nm fW ns fS ksa (B + 1) → FX (EPn T U e0 y sc) h ha → wp (d + 10) K_X5_takeCatch 45 [] [(0, vr (some (U + 9))), (1, vr (some y)), (2, vi (nI p))] ha Q := by
    intro ha ksa Ea Ca ca Ka La Xa
    have c9a := Ea.1.2.2.2.2.2.2.2.2.1
    rw [bk_X5_takeCatch_45]
    have Eb := Ea.sco (some y)
    have Lb := La.sco (some y)
    have xb : FX (EPa T U e0 sc) ha (setFP ha 30706 (U + 9) (some y)) := sco_fx
    have Cb := CHN.ep Ca xb
    have cb := ca.fx xb ⟨EPa_no (by omega), EPa_no (by omega)⟩
    have Kb : KD (setFP ha 30706 (U + 9) (some y)) (U + 1) nk par wk pk := Ka.fx (FX.FP (E := fun g z => g = 30706 ∧ z = U + 9) ⟨rfl, rfl⟩) (fun g z => by omega) (fun z => by omega) (fun z => by omega) (fun z => by omega) (fun z => by omega)
    have c9b : tg (setFP ha 30706 (U + 9) (some y)) (U + 9) = 8 := c9a
    have Xb : FX (EPn T U e0 y sc) h (setFP ha 30706 (U + 9) (some y)) := Xa.tr (EPa_en xb)
    refine ⟨c9a, c9b, ?_⟩
    generalize setFP ha 30706 (U + 9) (some y) = hb at *
    refine HB (d + 9) hb _ T U e0 l il (some y) (y :: sc) rw rw rw 0 nk par wk pk nm fW ns fS ksa B B0 (fun _ _ => 0) hd hl Eb (CHN.push cb Cb) Kb Lb ⟨rfl, rfl, fun z => absurd z bad⟩ (fun z => absurd z bad) (fun _ => cr) hB0 (fun z => absurd z bad) (fun z => absurd z bad) ?_ ?_
    · intro _ _ _ _ _ _ _ _ z
      exact absurd z bad
    · intro h' rw' x ks' B' ns' fS' hh bad' E' X' L' fk cr' tx
      have e : gi rw' 1452 = gi rw 1452 := by
        rcases hh with ⟨-, z⟩ | ⟨z, -⟩
        · exact z
        · exact absurd z bad
      have E2 := es_wrong Eb X' E' e bad
      have c' := cb.fx X' ⟨EPa_no (by omega), EPa_no (by omega)⟩
      have c2 : CO (setFP h' 30305 y (some x)) U y so := c'.fx (FX.FP (E := fun g z => g = 30305 ∧ z = y) ⟨rfl, rfl⟩) ⟨fun z => by omega, fun z => by omega⟩
      have E3 := E2.fp (f := 30305) (x := y) (some x) ca.1 (by decide)
      have L3 := LST.fp L' (f := 30305) (x := y) (some x) ca.1 (by decide)
      have c93 := E3.1.2.2.2.2.2.2.2.2.1
      simp only [psh, bk_X5_takeCatch_51, nn_some]
      refine ⟨c'.2.2.1, c2.2.2.1, c93, ?_⟩
      rw [c2.2.2.2.2.2]
      have X2 : FX (EPn T U e0 y sc) hb h' := X'.mono (fun g z w => by
        rcases w with w | w | ⟨w, w2⟩ | w
        · exact Or.inl (Or.inl w)
        · exact Or.inl (Or.inr (Or.inl w))
        · rcases List.mem_cons.mp w with w | w
          · exact Or.inr ⟨by omega, by omega⟩
          · exact Or.inl (Or.inr (Or.inr (Or.inl ⟨w, w2⟩)))
        · exact Or.inl (Or.inr (Or.inr (Or.inr w))))
      exact H _ ks' B' ns' fS' (E3.sco so) (((Xb.tr X2).toFP _ (Or.inr ⟨Nat.le_refl _, by decide⟩)).toFP _ (Or.inl (Or.inr (Or.inr (Or.inr ⟨rfl, by omega⟩))))) (L3.sco so) fk cr' c2.2.2.1
  rw [bk_X5_takeCatch_34, nn_some]
  refine ⟨c.2.2.1, c9, ?_⟩
  rw [p_param c9 E.2.2.1.2.2.2.2 C]
  simp only [psh, bk_X5_takeCatch_38]
  refine ⟨fun _ => T45 h ks E C c K (LST.dr (B := B + 1) 1 L) FX.rf, fun _ => ?_⟩
  rw [bk_X5_takeCatch_39, c11, nn_some, show vi 2 = vi (nI 2) from rfl, show vi (-1) = vi (kI 0) from rfl]
  refine ⟨c9, c4, p_note (d := d + 2) E.1 L (by omega) (by omega) (by omega) (by omega) (fun ha ksa La pa xa ta => ?_)⟩
  simp only [psh]
  have xe : FX (EPa T U e0 sc) h ha := ELs_ep xa
  exact T45 ha ksa (E.ls xa) (CHN.ep C xe) (c.fx xe ⟨EPa_no (by omega), EPa_no (by omega)⟩) (K.fx xa (fun g z => by
    rcases z with z | z <;> omega) (ELs_no (by omega)) (ELs_no (by omega)) (ELs_no (by omega)) (ELs_no (by omega))) La (EPa_en xe)
theorem ctw_30 {v : Int64} (HB : BLC D) (hd : 20 * (9 - D) ≤ d + 9) (hl : l ≤ D + 1) (E : ES h T U e0 1 rw D l il so) (bad : ¬ gi rw 1452 = -1) (C : CHN h U sc so) (c : CO h U y so) (K : KD h (U + 1) nk par wk pk) (L : LST h U e0 nm fW ns fS ks (B + 2)) (cr : B0 + D + 1 ≤ B + 3 * tn (gi rw 1448) + 20) (hB0 : 3 * tn (gi rw 1448) + 100 ≤ B0) (hp : 0 < p ∧ p ≤ 2000) (H : ∀ h' ks' B' ns' fS', ES h' T U e0 1 rw D l il so → FX (EPn T U e0 y sc) h h' → LST h' U e0 nm fW ns' fS' ks' B' → (∀ k, k < ns → fS' k = fS k) → B0 + D + 1 ≤ B' + 3 * tn (gi rw 1448) + 20 → tg h' y = 4 → Q (some (vr (some y))) h') : wp (d + 10) K_X5_takeCatch 30 [vl v, vr (some y)] [(0, vr (some (U + 9))), (1, vr (some y)), (2, vi (nI p))] h Q := by
  have c9 := E.1.2.2.2.2.2.2.2.2.1
  have tT : T < U := by have := E.1.2.1; omega
  rw [bk_X5_takeCatch_30, nn_some, show vi 23 = vi (nI 23) from rfl]
  have xs : FX (fun g z => g = 20303 ∧ z = y) h (setFJ h 20303 y v) := FX.FJ ⟨rfl, rfl⟩
  have E1 := E.fj (f := 20303) (x := y) v c.1 (by decide)
  have L1 := LST.fj L (f := 20303) (x := y) v c.1 (by decide)
  have C1 := CHN.fx xs (fun a => ⟨fun z => by omega, fun z => by omega⟩) C
  have c1 := c.fx xs ⟨fun z => by omega, fun z => by omega⟩
  have cl := c.1
  have K1 := K.fx xs (fun g z => by omega) (fun z => by omega) (fun z => by omega) (fun z => by omega) (fun z => by omega)
  have c91 : tg (setFJ h 20303 y v) (U + 9) = 8 := c9
  have X1 : FX (EPn T U e0 y sc) h (setFJ h 20303 y v) := xs.mono (fun g z w => Or.inr ⟨by omega, by omega⟩)
  refine ⟨c.2.2.1, c91, ?_⟩
  generalize setFJ h 20303 y v = h1 at *
  refine p_take (d := d + 3) E1 (by omega) (fun h2 E2 w2 => ?_)
  rw [gT_w bad] at E2
  have xe : FX (EPa T U e0 sc) h1 h2 := w2.ep
  simp only [psh]
  exact ctw_34 HB hd hl E2 bad (CHN.ep C1 xe) (c1.fx xe ⟨EPa_no (by omega), EPa_no (by omega)⟩) (K1.fx w2.1 (fun g z => by
    rcases z with z | z
    · have := z.1; omega
    · omega) (EPW_no (by omega)) (EPW_no (by omega)) (EPW_no (by omega)) (EPW_no (by omega))) (L1.pw w2) cr hB0 hp (fun h' ks' B' ns' fS' E' X' L' fk cr' t' => H h' ks' B' ns' fS' E' ((X1.tr (EPa_en xe)).tr X') L' fk cr' t')
theorem ctw_19 {k : Nat} {wd : Nat → Int64} {pc : Nat → Int32} (HB : BLC D) (hd : 20 * (9 - D) ≤ d + 9) (hl : l ≤ D + 1) (E : ES h T U e0 1 rw D l il so) (bad : ¬ gi rw 1452 = -1) (C : CHN h U sc so) (c : CO h U y so) (K : KD h (U + 1) nk par wk pk) (N : NDr h (y + 1) k 1 wd pc) (L : LST h U e0 nm fW ns fS ks (B + 2 + k)) (cr : B0 + D + 1 ≤ B + 3 * tn (gi rw 1448) + 20) (hB0 : 3 * tn (gi rw 1448) + 100 ≤ B0) (H : ∀ h' ks' B' ns' fS', ES h' T U e0 1 rw D l il so → FX (EPn T U e0 y sc) h h' → LST h' U e0 nm fW ns' fS' ks' B' → (∀ k, k < ns → fS' k = fS k) → B0 + D + 1 ≤ B' + 3 * tn (gi rw 1448) + 20 → tg h' y = 4 → Q (some (vr (some y))) h') : wp (d + 10) K_X5_takeCatch 19 [] [(0, vr (some (U + 9))), (1, vr (some y))] h Q := by
  have c9 := E.1.2.2.2.2.2.2.2.2.1
  have tT : T < U := by have := E.1.2.1; omega
  have cl := c.1
  rw [bk_X5_takeCatch_19, nn_some, c.2.2.2.1]
  refine ⟨c.2.2.1, c9, p_know (d := d + 1) (by omega) (by omega) E K N L (fun h1 ks1 E1 N1 L1 pm x1 tp1 => ?_)⟩
  have c91 := E1.1.2.2.2.2.2.2.2.2.1
  have c10 := E1.1.2.2.2.2.2.2.2.2.2.1
  have tg1 : tg h1 T = 10 := E1.2.1.1
  obtain ⟨p, hp1, hp2, hp3⟩ := E1.pl
  have no : ∀ g z, ¬ g = 90001 → ¬ g = 100 ∧ ¬ g = 102 ∧ ¬ g = 30101 ∧ ¬ g = 90003 → ¬ (ELs U e0 g z ∨ (g = 90001 ∧ z = y + 1 + 3)) := fun g z h1 h2 w => by
    rcases w with w | w
    · exact ELs_no h2 w
    · omega
  have C1 := CHN.fx x1 (fun a => ⟨no _ _ (by omega) (by omega), no _ _ (by omega) (by omega)⟩) C
  have c1 := c.fx x1 ⟨no _ _ (by omega) (by omega), no _ _ (by omega) (by omega)⟩
  have he := L.e0
  have K1 := K.fx x1 (fun g z => by
    rcases z with z | z
    · rcases z with z | z <;> omega
    · omega) (fun z => by
    rcases z with z | z
    · exact ELs_no (by omega) z
    · omega) (fun z => by
    rcases z with z | z
    · exact ELs_no (by omega) z
    · omega) (fun z => by
    rcases z with z | z
    · exact ELs_no (by omega) z
    · omega) (fun z => by
    rcases z with z | z
    · exact ELs_no (by omega) z
    · omega)
  have X1 : FX (EPn T U e0 y sc) h h1 := x1.mono (fun g z w => by
    rcases w with w | w
    · exact Or.inl (Or.inr (Or.inl w))
    · exact Or.inr ⟨by omega, by omega⟩)
  simp only [psh]
  rw [bk_X5_takeCatch_23, c10, nn_some, hp1]
  refine ⟨c91, tg1, c91, p_takeName (d := d + 3) E1 (fun h2 x E2 w2 val => ?_)⟩
  rw [gT_w bad] at E2
  have xe : FX (EPa T U e0 sc) h1 h2 := w2.ep
  simp only [psh]
  exact ctw_30 HB hd hl E2 bad (CHN.ep C1 xe) (c1.fx xe ⟨EPa_no (by omega), EPa_no (by omega)⟩) (K1.fx w2.1 (fun g z => by
    rcases z with z | z
    · have := z.1; omega
    · omega) (EPW_no (by omega)) (EPW_no (by omega)) (EPW_no (by omega)) (EPW_no (by omega))) (L1.pw w2) cr hB0 ⟨by omega, hp3⟩ (fun h' ks' B' ns' fS' E' X' L' fk cr' t' => H h' ks' B' ns' fS' E' ((X1.tr (EPa_en xe)).tr X') L' fk cr' t')
end
