/-! What can be left: the equations -/
theorem fup_cg {α : Type} {f g : Nat → α → α} : ∀ m k x, (∀ i x, k ≤ i → i < k + m → f i x = g i x) → fup f m k x = fup g m k x := by
  intro m
  induction m with
  | zero => intro k x _; rfl
  | succ m ih =>
    intro k x h
    rw [fup, fup, h k x (Nat.le_refl _) (by omega)]
    exact ih (k + 1) _ (fun i x h1 h2 => h i x (by omega) (by omega))
theorem kidC {R : RV} {s i b : Nat} (hi : i < tn (ai R 32 s)) (e : ai R 33 (4 * s + i) = nI b) (hb : b < 2 ^ 31) : b ∈ kids R s := by
  have := kid33 (R := R) hi
  rw [e, tn_nI hb] at this
  exact this
section
variable {R : RV} {G : Nat → Nat → Nat} {nm : Nat}
theorem RCH.top {x : Nat} (T : TRE R G nm) (r : RCH R G nm x) (h : ai R 41 x = -1) : ai R 40 x = 0 := by
  have rg := r.rg T
  rcases T.2.2.2.1.2.2.1 x rg.1 rg.2 with ⟨-, y⟩ | ⟨-, s, j, y, y2, y3, y4, -⟩
  · exact y
  · rw [h] at y; exact absurd y.symm (nI_ne_m1 (by omega))
theorem lfB_pcl (C L : Nat → Int32) (b : Nat) : lfB (pcl R C L) (some b) = match oN (ai R 45 b) with
    | none => true
    | some s => decide (¬ L s = 0) := rfl
theorem lfB_cg (T : TRE R G nm) {C L C' L' : Nat → Int32} {o : Option Nat} (h : ∀ b, o = some b → (wN R * 1024 ≤ b ∧ b < nbN R) ∧ ∀ t, G 4 b ≤ t → t < G 5 b → L t = L' t) : lfB (pcl R C L) o = lfB (pcl R C' L') o := by
  cases o with
  | none => rfl
  | some b =>
    obtain ⟨rg, h⟩ := h b rfl
    obtain ⟨WB, l1, l2⟩ := T.2.2.1 b rg.1 rg.2
    rw [lfB_pcl, lfB_pcl]
    by_cases y : G 4 b = G 5 b
    · rw [(WB.2.2.1 y).2]; rfl
    · obtain ⟨-, -, e, e1, e2, e3, -⟩ := WB.2.2.2.1 (by have := WB.2.1; omega)
      have s2 := T.2.2.2.2.1
      rw [e1, oN_nI (by omega)]
      show decide (¬ L e = 0) = decide (¬ L' e = 0)
      rw [h e e2 e3]
theorem tgF_pcl (C L : Nat → Int32) (f b : Nat) : tgF (pcl R C L) f b = tgF R f b := tgF_of (r := R) (r' := pcl R C L) rfl rfl rfl f b
theorem tgS_pcl (C L : Nat → Int32) (s : Nat) : tgS (pcl R C L) s = tgS R s := tgF_pcl C L 2048 _
/-- a loop begins ahead of what lies in it -/
theorem tg_lo (T : TRE R G nm) {s : Nat} : ∀ f j, RCH R G nm j → tgF R f j = some s → s < G 4 j := by
  intro f
  induction f with
  | zero => intro j r e; cases e
  | succ f ih =>
    intro j r e
    rw [tgF] at e
    by_cases z : ai R 40 j = 0 ∨ ai R 40 j = 1 ∨ ai R 40 j = 8
    · rw [if_pos z] at e; cases e
    · rw [if_neg z] at e
      rcases r.up T with ⟨y, y2⟩ | ⟨o, i, ri, ho, e1, e2, e3, e4, e5, e6, e7, e8⟩
      · exact absurd (Or.inl (r.top T y2)) z
      · have s2 := T.2.2.2.2.1
        by_cases z2 : ai R 40 j = 4
        · rw [if_pos z2, e1, tn_nI (by omega)] at e
          cases e; omega
        · rw [if_neg z2, e3] at e
          have := ih i ri e
          omega
theorem hlF_pcl (C L : Nat → Int32) (t f b : Nat) (p : Bool) : hlF (pcl R C L) t (f + 1) b p = if ai R 41 b = nI t then p else match upB R b with
    | none => p
    | some j => hlF (pcl R C L) t f j (p || hlP (pcl R C L) b) := rfl
theorem hlP_pcl (C L : Nat → Int32) (b : Nat) : hlP (pcl R C L) b = (decide (ai R 19 (tn (ai R 41 b)) = 9) && (!decide (ai R 40 b = 7) && match oN (ai R 28 (tn (ai R 41 b))) with
    | none => false
    | some l => !lfB (pcl R C L) (some l))) := rfl
theorem hl_cg (T : TRE R G nm) {C L C' L' : Nat → Int32} {s : Nat} (h : ∀ t, s < t → t < rsN R → L t = L' t) : ∀ f x p, RCH R G nm x → tgF R f x = some s → hlF (pcl R C L) s f x p = hlF (pcl R C' L') s f x p := by
  intro f
  induction f with
  | zero => intro x p r e; cases e
  | succ f ih =>
    intro x p r e
    rw [tgF] at e
    by_cases z : ai R 40 x = 0 ∨ ai R 40 x = 1 ∨ ai R 40 x = 8
    · rw [if_pos z] at e; cases e
    · rw [if_neg z] at e
      rw [hlF_pcl, hlF_pcl]
      by_cases z1 : ai R 41 x = nI s
      · rw [if_pos z1, if_pos z1]
      · rw [if_neg z1, if_neg z1]
        rcases r.up T with ⟨y, y2⟩ | ⟨o, i, ri, ho, e1, e2, e3, e4, e5, e6, e7, e8⟩
        · exact absurd (Or.inl (r.top T y2)) z
        · have s2 := T.2.2.2.2.1
          by_cases z2 : ai R 40 x = 4
          · rw [if_pos z2, e1, tn_nI (by omega)] at e
            cases e
            exact absurd e1 z1
          · rw [if_neg z2, e3] at e
            have lo := tg_lo T f i ri e
            rw [e3]
            show hlF (pcl R C L) s f i (p || hlP (pcl R C L) x) = hlF (pcl R C' L') s f i (p || hlP (pcl R C' L') x)
            have eP : hlP (pcl R C L) x = hlP (pcl R C' L') x := by
              rw [hlP_pcl, hlP_pcl, e1, tn_nI (by omega)]
              cases e28 : oN (ai R 28 o) with
              | none => rfl
              | some l =>
                have kl := kid28 e28
                obtain ⟨⟨w1, w2, w3, w4, w5, w6⟩, wk⟩ := T.2.1 o ho.1 ho.2
                have rl := wk l kl
                have cl := (w4.le).2 l kl
                have ll := (T.2.2.1 l rl.1 rl.2).2.2
                have : lfB (pcl R C L) (some l) = lfB (pcl R C' L') (some l) := lfB_cg T (fun b eb => by cases eb; exact ⟨rl, fun t h1 h2 => h t (by omega) (by omega)⟩)
                show (_ && (_ && !lfB (pcl R C L) (some l))) = (_ && (_ && !lfB (pcl R C' L') (some l)))
                rw [this]
            rw [eP]
            exact ih i _ ri e
theorem lvL_pcl (C L : Nat → Int32) (w ns s : Nat) : lvL (pcl R C L) w ns s = fup (fun k b => b || (decide (ai R 19 (w * 120 + k) = 7) && (decide (tgS (pcl R C L) (w * 120 + k) = some s) && !hlF (pcl R C L) s 2048 (tn (ai R 21 (w * 120 + k))) false))) ns 0 false := rfl
theorem lvL_cg (T : TRE R G nm) {C L C' L' : Nat → Int32} {s : Nat} (h : ∀ t, s < t → t < rsN R → L t = L' t) : lvL (pcl R C L) (wN R) (nsC R) s = lvL (pcl R C' L') (wN R) (nsC R) s := by
  rw [lvL_pcl, lvL_pcl]
  refine fup_cg _ _ _ (fun k b h1 h2 => ?_)
  rw [tgS_pcl, tgS_pcl]
  by_cases z : tgS R (wN R * 120 + k) = some s
  · have er : rsN R = wN R * 120 + nsC R := rfl
    obtain ⟨x, x1, x2, x3, x4⟩ := home T (s := wN R * 120 + k) (by omega) (by omega)
    have rx := x1.rg T
    have s3 := T.2.2.2.2.2
    unfold tgS at z
    rw [x2, tn_nI (by omega)] at z ⊢
    rw [hl_cg T h 2048 x false x1 z (C := C) (C' := C')]
  · rw [decide_eq_false z, Bool.false_and, Bool.false_and]
theorem lvS_cg (T : TRE R G nm) {C L C' L' : Nat → Int32} {s : Nat} (h1 : wN R * 120 ≤ s) (h2 : s < rsN R) (h : ∀ t, s < t → t < rsN R → L t = L' t) : lvS (pcl R C L) (wN R) (nsC R) s = lvS (pcl R C' L') (wN R) (nsC R) s := by
  obtain ⟨⟨w1, w2, w3, w4, w5, w6⟩, wk⟩ := T.2.1 s h1 h2
  have K : ∀ o : Option Nat, (∀ b, o = some b → b ∈ kids R s) → lfB (pcl R C L) o = lfB (pcl R C' L') o := fun o ho => lfB_cg T (fun b eb => by
    have kb := ho b eb
    have rb := wk b kb
    have cb := (w4.le).2 b kb
    have lb := (T.2.2.1 b rb.1 rb.2).2.2
    exact ⟨rb, fun t h1 h2 => h t (by omega) (by omega)⟩)
  have e26 := K (oN (ai R 26 s)) (fun b e => kid26 e)
  have e27 := K (oN (ai R 27 s)) (fun b e => kid27 e)
  have e28 := K (oN (ai R 28 s)) (fun b e => kid28 e)
  have eT : lvT (pcl R C L) s = lvT (pcl R C' L') s := by
    show (fup (fun k b => b || lfB (pcl R C L) (oN (ai R 33 (4 * s + k)))) (tn (ai R 32 s)) 0 (lfB (pcl R C L) (oN (ai R 26 s))) && (decide (oN (ai R 28 s) = none) || lfB (pcl R C L) (oN (ai R 28 s)))) = (fup (fun k b => b || lfB (pcl R C' L') (oN (ai R 33 (4 * s + k)))) (tn (ai R 32 s)) 0 (lfB (pcl R C' L') (oN (ai R 26 s))) && (decide (oN (ai R 28 s) = none) || lfB (pcl R C' L') (oN (ai R 28 s))))
    rw [e26, e28]
    congr 1
    refine fup_cg _ _ _ (fun i b h3 h4 => ?_)
    rw [K (oN (ai R 33 (4 * s + i))) (fun b e => ?_)]
    obtain ⟨k, k1, k2, b6, b7, b8, b3, -⟩ := w5
    have := (b3 i (by omega)).1.some T.2.2.2.2.2 e
    have s3 := T.2.2.2.2.2
    exact kidC (by omega) this.1 (by omega)
  show (if ai R 19 s = 2 ∨ ai R 19 s = 7 ∨ ai R 19 s = 8 then false else if ai R 19 s = 4 then decide (oN (ai R 27 s) = none) || (lfB (pcl R C L) (oN (ai R 26 s)) || lfB (pcl R C L) (oN (ai R 27 s))) else if ai R 19 s = 6 then lvL (pcl R C L) (wN R) (nsC R) s else if ai R 19 s = 9 then lvT (pcl R C L) s else if ai R 19 s = 11 then lfB (pcl R C L) (oN (ai R 26 s)) else true) = (if ai R 19 s = 2 ∨ ai R 19 s = 7 ∨ ai R 19 s = 8 then false else if ai R 19 s = 4 then decide (oN (ai R 27 s) = none) || (lfB (pcl R C' L') (oN (ai R 26 s)) || lfB (pcl R C' L') (oN (ai R 27 s))) else if ai R 19 s = 6 then lvL (pcl R C' L') (wN R) (nsC R) s else if ai R 19 s = 9 then lvT (pcl R C' L') s else if ai R 19 s = 11 then lfB (pcl R C' L') (oN (ai R 26 s)) else true)
  rw [e26, e27, eT, lvL_cg T h]
/-- the first loop's end -/
theorem le_eq (T : TRE R G nm) : ∀ j g, j ≤ nsC R → (∀ t, wN R * 120 + j ≤ t → t < rsN R → g.1 t = 0 ∧ g.2 t = b2i (lvS (pcl R g.1 g.2) (wN R) (nsC R) t)) → ∀ t, wN R * 120 ≤ t → t < rsN R → (fdn (leF R (wN R) (nsC R)) j g).1 t = 0 ∧ (fdn (leF R (wN R) (nsC R)) j g).2 t = b2i (lvS (pcl R (fdn (leF R (wN R) (nsC R)) j g).1 (fdn (leF R (wN R) (nsC R)) j g).2) (wN R) (nsC R) t) := by
  intro j
  have er : rsN R = wN R * 120 + nsC R := rfl
  induction j with
  | zero => intro g hj h; exact h
  | succ j ih =>
    intro g hj h
    rw [fdn]
    refine ih _ (by omega) (fun t h1 h2 => ?_)
    have e1 : (leF R (wN R) (nsC R) j g).1 = up1 g.1 (wN R * 120 + j) 0 := rfl
    have e2 : (leF R (wN R) (nsC R) j g).2 = up1 g.2 (wN R * 120 + j) (b2i (lvS (pcl R g.1 g.2) (wN R) (nsC R) (wN R * 120 + j))) := rfl
    rw [e1, e2]
    have cg : lvS (pcl R (up1 g.1 (wN R * 120 + j) 0) (up1 g.2 (wN R * 120 + j) (b2i (lvS (pcl R g.1 g.2) (wN R) (nsC R) (wN R * 120 + j))))) (wN R) (nsC R) t = lvS (pcl R g.1 g.2) (wN R) (nsC R) t := lvS_cg T (by omega) h2 (fun u h3 h4 => if_neg (by omega))
    rw [cg]
    by_cases y : t = wN R * 120 + j
    · rw [y]
      exact ⟨if_pos rfl, if_pos rfl⟩
    · rw [show up1 g.1 (wN R * 120 + j) 0 t = g.1 t from if_neg y, show up1 g.2 (wN R * 120 + j) (b2i (lvS (pcl R g.1 g.2) (wN R) (nsC R) (wN R * 120 + j))) t = g.2 t from if_neg y]
      exact h t (by omega) h2
theorem leA_eq (T : TRE R G nm) (C : Nat → Int32) {t : Nat} (h1 : wN R * 120 ≤ t) (h2 : t < rsN R) : (leA R (wN R) (nsC R)).1 t = 0 ∧ (leA R (wN R) (nsC R)).2 t = b2i (lvS (pcl R C (leA R (wN R) (nsC R)).2) (wN R) (nsC R) t) := by
  have er : rsN R = wN R * 120 + nsC R := rfl
  obtain ⟨a, b⟩ := le_eq T (nsC R) (ai R 47, ai R 48) (Nat.le_refl _) (fun t h1 h2 => by omega) t h1 h2
  refine ⟨a, ?_⟩
  have b : (leA R (wN R) (nsC R)).2 t = b2i (lvS (pcl R (leA R (wN R) (nsC R)).1 (leA R (wN R) (nsC R)).2) (wN R) (nsC R) t) := b
  rw [b]
  exact congrArg b2i (lvS_cg T h1 h2 (fun _ _ _ => rfl))
end
