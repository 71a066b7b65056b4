/-! The reference's reading: statements -/
def isSt (r : RV) : Bool := decide (gi r 1451 = 123 ∨ gl r 21450 = 25711 ∨ gl r 21450 = 1667329132 ∨ gl r 21450 = 499968536439 ∨ gl r 21450 = 7562612 ∨ gl r 21450 = 26982 ∨ gl r 21450 = 512852847717 ∨ gl r 21450 = 1819242352 ∨ gl r 21450 = 422826041707 ∨ gl r 21450 = 125780071117422 ∨ gl r 21450 = 7631481 ∨ gl r 21450 = 7501166)
/-- the next statement's number -/
def rsN (r : RV) : Nat := wN r * 120 + tn (ai r 18 (wN r))
/-- the innermost open block -/
def rsB (r : RV) : Nat := tn (ai r 46 (tn (gi r 1455) - 1))
def rsA1 (r : RV) (s : Nat) : RV := tI (tI (tI r 18 (wN r) (ai r 18 (wN r) + 1)) 20 s (gi r 1449)) 21 s (ai r 46 (tn (gi r 1455) - 1))
def rsA2 (r : RV) (s : Nat) : RV := tL (tI (tI r 22 s (ai r 8 (wN r) - 1)) 23 s (-1)) 24 s 0
def rsA3 (r : RV) (s : Nat) : RV := tI (tI (tI (tI (tI r 26 s (-1)) 27 s (-1)) 28 s (-1)) 29 s 0) 32 s 0
def rsL (r : RV) (s b : Nat) : RV := tI (if ai r 45 b = -1 then tI r 44 b (nI s) else tI r 23 (tn (ai r 45 b)) (nI s)) 45 b (nI s)
/-- a new statement stands in its block -/
def rsA (r : RV) : RV := rsL (rsA3 (rsA2 (rsA1 r (rsN r)) (rsN r)) (rsN r)) (rsN r) (rsB r)
def takF (r : RV) (c : Int32) : RV := if gi r 1451 = c then advF r else faiF r
/-- a block of statement s -/
def opB (r : RV) (q s : Nat) (what : Int32) : RV := tI (opF r what (nI s) 0) q s (opV r)
def arF (r : RV) (s : Nat) (c : Int32) : RV × Bool := if (nlF 29 30 31 s 44 5 r).2 = false then ((nlF 29 30 31 s 44 5 r).1, false) else (takF (nlF 29 30 31 s 44 5 r).1 c, decide (gi (nlF 29 30 31 s 44 5 r).1 1451 = c))
def rsW (r : RV) (s : Nat) : RV := tI (tL r 24 s (gl r 21453)) 25 s (gi r 1454)
def rsK1 (r : RV) (s : Nat) (x : Int64) : RV := takF (tI r 19 s (if x = 25711 then 0 else if x = 422826041707 then 7 else 8)) 59
def rsK2b (r : RV) (s : Nat) (x : Int64) : RV := if x = 1667329132 ∧ gi r 1451 = 123 then opB r 26 s 1 else takF r 59
def rsK2 (r : RV) (s : Nat) (x : Int64) : RV := if okN r = false then faiF (tI r 19 s (if x = 499968536439 then 2 else if x = 7562612 then 3 else 1)) else rsK2b (rsW (namF (tI r 19 s (if x = 499968536439 then 2 else if x = 7562612 then 3 else 1))) s) s x
def rsK3 (r : RV) (s : Nat) (x : Int64) : RV := opB (tI r 19 s (if x = 26982 then 4 else 10)) 26 s (if x = 26982 then 2 else 8)
def rsK4 (r : RV) (s : Nat) (x : Int64) : RV := opB (tI r 19 s (if x = 512852847717 then 5 else 6)) 26 s 4
def rsK5 (r : RV) (s : Nat) : RV := if gi r 1451 = 40 then (if (arF (tI r 19 s 9) s 41).2 = false then (arF (tI r 19 s 9) s 41).1 else opB (arF (tI r 19 s 9) s 41).1 26 s 5) else opB (tI r 19 s 9) 26 s 5
def rsK (r : RV) (s : Nat) (x : Int64) : RV := if x = 25711 ∨ x = 422826041707 ∨ x = 125780071117422 then rsK1 r s x else if x = 499968536439 ∨ x = 7562612 ∨ x = 1667329132 then rsK2 r s x else if x = 26982 ∨ x = 7501166 then rsK3 r s x else if x = 512852847717 ∨ x = 1819242352 then rsK4 r s x else rsK5 r s
/-- a statement is read -/
def rsF (r : RV) : RV := if isSt r = false ∨ ai r 18 (wN r) = 120 then faiF r else if gi r 1451 = 123 then opB (tI (rsA r) 19 (rsN r) 11) 26 (rsN r) 9 else rsK (advF (rsA r)) (rsN r) (gl r 21450)
theorem OB_t {r : RV} {q i : Nat} {v : Int32} (B : OB r) (hq : ¬ q = 39 := by decide) : OB (tI r q i v) := OB_of B B.1 rfl rfl (by funext j; rw [ai_tI, if_neg (fun z => hq z.1.symm)])
theorem OB_tl {r : RV} {q i : Nat} {v : Int64} (B : OB r) : OB (tL r q i v) := OB_of B B.1 rfl rfl rfl
theorem OB_rsA1 {r : RV} {s : Nat} (B : OB r) : OB (rsA1 r s) := OB_t (OB_t (OB_t B))
theorem OB_rsA2 {r : RV} {s : Nat} (B : OB r) : OB (rsA2 r s) := OB_tl (OB_t (OB_t B))
theorem OB_rsA3 {r : RV} {s : Nat} (B : OB r) : OB (rsA3 r s) := OB_t (OB_t (OB_t (OB_t (OB_t B))))
theorem OB_rsL {r : RV} {s b : Nat} (B : OB r) : OB (rsL r s b) := by
  unfold rsL
  refine OB_t ?_
  split
  · exact OB_t B
  · exact OB_t B
theorem OB_rsW {r : RV} {s : Nat} (B : OB r) : OB (rsW r s) := OB_t (OB_tl B)
theorem gi_rsL (r : RV) (s b : Nat) : gi (rsL r s b) = gi r := by
  unfold rsL
  rw [gi_tI]
  split <;> rfl
theorem gl_rsL (r : RV) (s b : Nat) : gl (rsL r s b) = gl r := by
  unfold rsL
  rw [gl_tI]
  split <;> rfl
theorem gi_rsA (r : RV) : gi (rsA r) = gi r := by unfold rsA; rw [gi_rsL]; rfl
theorem gl_rsA (r : RV) : gl (rsA r) = gl r := by unfold rsA; rw [gl_rsL]; rfl
section
variable {d : Nat} {h : AH} {a : Nat} {r : RV} {Q : Option V → AH → Prop}
/-- the names in ( ), or behind throws -/
theorem c_areNames {s : Nat} (hs : s < 240) (x : Int32) (R : RW r h a) (P : PT r) (h0 : ai r 29 s = nI 0) (H1 : ∀ h', (arF r s x).2 = false → RW (arF r s x).1 h' a → Q (some (vi (b2i false))) h') (H2 : ∀ h', (arF r s x).2 = true → RW (arF r s x).1 h' a → Q (some (vi (b2i true))) h') : wp (d + 3) K_X12_areNames 0 [] [(0, vr (some a)), (1, vi (nI s)), (2, vi x)] h Q := by
  have L : ∀ f (r : RV) (h : AH) (x3 : Int32) c, ¬ x3 = 0 → RW r h a → PT r → ai r 29 s = nI c → c ≤ 4 → 5 ≤ f + c → (∀ h', (nlF 29 30 31 s 44 f r).2 = false → RW (nlF 29 30 31 s 44 f r).1 h' a → Q (some (vi (b2i false))) h') → (∀ h' x3, (nlF 29 30 31 s 44 f r).2 = true → RW (nlF 29 30 31 s 44 f r).1 h' a → PT (nlF 29 30 31 s 44 f r).1 → wp (d + 3) K_X12_areNames 63 [] [(0, vr (some a)), (1, vi (nI s)), (2, vi x), (3, vi x3)] h' Q) → wp (d + 3) K_X12_areNames 2 [] [(0, vr (some a)), (1, vi (nI s)), (2, vi x), (3, vi x3)] h Q := by
    intro f
    induction f with
    | zero => intro r h x2 c _ _ _ _ h4 h5; omega
    | succ f ih =>
      intro r h x2 c hx R P hc h4 h5 H1 H2
      rw [bk_X12_areNames_2]
      refine ⟨fun z => absurd z hx, fun _ => ?_⟩
      rw [rb_X12_areNames_4 _ _ _ _ R.1]
      refine c_advance R P (fun h1 R1 => ?_)
      rw [nlF] at H1 H2
      have P1 := PT_adv P
      have a1 : ai (advF r) 29 s = nI c := by rw [ai_adv]; exact hc
      generalize advF r = r1 at *
      simp only [psh]
      rw [rb_X12_areNames_6 _ _ _ _ R1.1]
      simp (disch := omega) only [nI_clamp, nI_leI, nI_ltI, nI_eq, nI_add, pk_mul, vp_in_nI, nI_1, true_and, and_true, true_implies, implies_true, not_true_eq_false, not_false_eq_true, false_implies, psh, nn_some, forall_const]
      rw [R1.ai, a1]
      rw [hc] at H1 H2
      refine ⟨fun z => ?_, fun z => ?_⟩
      · rw [if_neg z] at H1 H2
        have c4 : ¬ c = 4 := fun q => z (by rw [q]; rfl)
        rw [rb_X12_areNames_15 _ _ _ _ R1.1]
        refine c_takeName R1 P1 (fun ok h2 R2 => ?_) (fun no h2 R2 => ?_)
        · rw [if_neg (by rw [ok]; decide)] at H1 H2
          have P2 := PT_nam P1
          have a2 : ai (namF r1) 29 s = nI c := by rw [ai_nam]; exact a1
          generalize namF r1 = r2 at *
          simp only [psh, bk_X12_areNames_17, b2i_0]
          refine ⟨fun _ => ?_, fun q => absurd (Classical.not_not.mp q) (by decide)⟩
          rw [rb_X12_areNames_20 _ _ _ _ R2.1, lt4]
          simp (disch := omega) only [nI_clamp, nI_leI, nI_ltI, nI_eq, nI_add, pk_mul, vp_in_nI, nI_1, true_and, and_true, true_implies, implies_true, not_true_eq_false, not_false_eq_true, false_implies, psh, nn_some, forall_const, fI_setAJ, aI_setAJ]
          rw [R2.ai, a2]
          simp (disch := omega) only [nI_clamp, nI_leI, nI_ltI, nI_eq, nI_add, pk_mul, vp_in_nI, nI_1, true_and, and_true, true_implies, implies_true, not_true_eq_false, not_false_eq_true, false_implies, psh, nn_some, forall_const, fI_setAJ, aI_setAJ]
          rw [aI_neq _ _ (by decide)]
          simp only [aI_setAJ]
          rw [R2.ai, a2, R2.gi, R2.gl]
          have R3 := RW_nlS (qc := 29) (qw := 30) (qa := 31) (i := s) R2
          rw [a2, tn_nI (by omega), nI_1] at R3
          have P3 : PT (nlS 29 30 31 s r2) := PT_nlS P2
          have g3 : gi (nlS 29 30 31 s r2) 1451 = gi r2 1451 := rfl
          have a3 : ai (nlS 29 30 31 s r2) 29 s = nI (c + 1) := by rw [aiq_nlS, a2, nI_1]
          rw [← g3] at H1 H2
          rw [nI_1]
          generalize nlS 29 30 31 s r2 = r3 at *
          rw [rb_X12_areNames_54 _ _ _ _ R3.1, R3.gi]
          refine ⟨fun z2 => ?_, fun z2 => ?_⟩
          · rw [if_neg z2] at H1 H2
            rw [bk_X12_areNames_60, bk_X12_areNames_61, bk_X12_areNames_2]
            exact ⟨fun _ => H2 _ _ rfl R3 P3, fun q => absurd rfl q⟩
          · rw [if_pos (Classical.not_not.mp z2)] at H1 H2
            rw [bk_X12_areNames_58, bk_X12_areNames_61]
            exact ih r3 _ 1 (c + 1) (by decide) R3 P3 a3 (by omega) (by omega) H1 H2
        · rw [if_pos no] at H1 H2
          simp only [psh, bk_X12_areNames_17, b2i_0, bk_X12_areNames_18]
          exact ⟨fun q => absurd trivial q, fun _ => ⟨Or.inl trivial, H1 h2 rfl R2⟩⟩
      · rw [if_pos (Classical.not_not.mp z)] at H1 H2
        rw [rb_X12_areNames_12 _ _ _ _ R1.1]
        refine c_fails R1 (fun h2 R2 => ?_)
        simp only [psh, bk_X12_areNames_14, b2i_ok, true_and]
        exact H1 h2 rfl R2
  rw [bk_X12_areNames_0]
  refine L 5 r h 1 0 (by decide) R P h0 (by omega) (by omega) (fun h' e R' => ?_) (fun h' x3 e R' P' => ?_)
  · unfold arF at H1
    rw [if_pos e] at H1
    exact H1 h' rfl R'
  · unfold arF at H1 H2
    rw [if_neg (by rw [e]; decide)] at H1 H2
    unfold takF at H1 H2
    rw [rb_X12_areNames_63 _ _ _ _ R'.1]
    refine c_take R' P' x (fun z h2 R2 => ?_) (fun z h2 R2 => ?_)
    · rw [if_pos z, decide_eq_true z] at H2
      simp only [psh, bk_X12_areNames_66, b2i_ok, true_and]
      exact H2 h2 rfl R2
    · rw [if_neg z, decide_eq_false z] at H1
      simp only [psh, bk_X12_areNames_66, b2i_ok, true_and]
      exact H1 h2 rfl R2
theorem c_isSt (R : RW r h a) : wp (d + 1) K_X12_readStatement 0 [] [(0, vr (some a))] h Q = wp (d + 1) K_X12_readStatement 51 [vi (b2i (isSt r))] [(0, vr (some a))] h Q := by
  have e48 : wp (d + 1) K_X12_readStatement 48 [] [(0, vr (some a))] h Q = (fun b => wp (d + 1) K_X12_readStatement 51 [vi (b2i b)] [(0, vr (some a))] h Q) true := by rw [bk_X12_readStatement_48]; rfl
  have e50 : wp (d + 1) K_X12_readStatement 50 [] [(0, vr (some a))] h Q = (fun b => wp (d + 1) K_X12_readStatement 51 [vi (b2i b)] [(0, vr (some a))] h Q) false := by rw [bk_X12_readStatement_50]; rfl
  have fl : ∀ {c : Prop} [Decidable c] {A B : Prop}, ((¬ decide c = false → A) ∧ (¬ ¬ decide c = false → B)) = ((c → A) ∧ (¬ c → B)) := fun {c} _ {A B} => by
    by_cases z : c <;> simp [z]
  unfold isSt
  rw [rb_X12_readStatement_0 _ R.1, R.gi, e48]
  refine kwstep (F := fun b => wp (d + 1) K_X12_readStatement 51 [vi (b2i b)] [(0, vr (some a))] h Q) ?_
  rw [rb_X12_readStatement_4 _ R.1, c_isWord R]; simp only [psh, bk_X12_readStatement_7, b2i_0]; rw [fl, e48]
  refine kwstep (F := fun b => wp (d + 1) K_X12_readStatement 51 [vi (b2i b)] [(0, vr (some a))] h Q) ?_
  rw [rb_X12_readStatement_8 _ R.1, c_isWord R]; simp only [psh, bk_X12_readStatement_11, b2i_0]; rw [fl, e48]
  refine kwstep (F := fun b => wp (d + 1) K_X12_readStatement 51 [vi (b2i b)] [(0, vr (some a))] h Q) ?_
  rw [rb_X12_readStatement_12 _ R.1, c_isWord R]; simp only [psh, bk_X12_readStatement_15, b2i_0]; rw [fl, e48]
  refine kwstep (F := fun b => wp (d + 1) K_X12_readStatement 51 [vi (b2i b)] [(0, vr (some a))] h Q) ?_
  rw [rb_X12_readStatement_16 _ R.1, c_isWord R]; simp only [psh, bk_X12_readStatement_19, b2i_0]; rw [fl, e48]
  refine kwstep (F := fun b => wp (d + 1) K_X12_readStatement 51 [vi (b2i b)] [(0, vr (some a))] h Q) ?_
  rw [rb_X12_readStatement_20 _ R.1, c_isWord R]; simp only [psh, bk_X12_readStatement_23, b2i_0]; rw [fl, e48]
  refine kwstep (F := fun b => wp (d + 1) K_X12_readStatement 51 [vi (b2i b)] [(0, vr (some a))] h Q) ?_
  rw [rb_X12_readStatement_24 _ R.1, c_isWord R]; simp only [psh, bk_X12_readStatement_27, b2i_0]; rw [fl, e48]
  refine kwstep (F := fun b => wp (d + 1) K_X12_readStatement 51 [vi (b2i b)] [(0, vr (some a))] h Q) ?_
  rw [rb_X12_readStatement_28 _ R.1, c_isWord R]; simp only [psh, bk_X12_readStatement_31, b2i_0]; rw [fl, e48]
  refine kwstep (F := fun b => wp (d + 1) K_X12_readStatement 51 [vi (b2i b)] [(0, vr (some a))] h Q) ?_
  rw [rb_X12_readStatement_32 _ R.1, c_isWord R]; simp only [psh, bk_X12_readStatement_35, b2i_0]; rw [fl, e48]
  refine kwstep (F := fun b => wp (d + 1) K_X12_readStatement 51 [vi (b2i b)] [(0, vr (some a))] h Q) ?_
  rw [rb_X12_readStatement_36 _ R.1, c_isWord R]; simp only [psh, bk_X12_readStatement_39, b2i_0]; rw [fl, e48]
  refine kwstep (F := fun b => wp (d + 1) K_X12_readStatement 51 [vi (b2i b)] [(0, vr (some a))] h Q) ?_
  rw [rb_X12_readStatement_40 _ R.1, c_isWord R]; simp only [psh, bk_X12_readStatement_43, b2i_0]; rw [fl, e48]
  refine kwstep (F := fun b => wp (d + 1) K_X12_readStatement 51 [vi (b2i b)] [(0, vr (some a))] h Q) ?_
  rw [rb_X12_readStatement_44 _ R.1, c_isWord R]; simp only [psh, bk_X12_readStatement_47, b2i_0]; rw [e48, e50]
  by_cases z : gl r 21450 = 7501166 <;> simp [z]
end
