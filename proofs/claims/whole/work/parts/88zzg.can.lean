/-! What can be thrown: the sweeps end, and what they leave -/
section
variable {R : RV} {w nk nm ns : Nat} {L : Nat → Int32}
/-- a sweep that changes nothing -/
theorem sw_same : ∀ j C b, (fdn (swF R w nk nm ns L) j (C, b)).2 = false → b = false ∧ (fdn (swF R w nk nm ns L) j (C, b)).1 = C ∧ ∀ i, i < j → C (w * 120 + i) = canS (pcl R C L) w nk nm ns (w * 120 + i) := by
  intro j
  induction j with
  | zero => intro C b h; exact ⟨h, rfl, fun i hi => by omega⟩
  | succ j ih =>
    intro C b h
    have e : fdn (swF R w nk nm ns L) (j + 1) (C, b) = fdn (swF R w nk nm ns L) j (up1 C (w * 120 + j) (canS (pcl R C L) w nk nm ns (w * 120 + j)), b || decide (¬ canS (pcl R C L) w nk nm ns (w * 120 + j) = C (w * 120 + j))) := rfl
    rw [e] at h ⊢
    obtain ⟨h1, h2, h3⟩ := ih _ _ h
    rw [Bool.or_eq_false_iff, decide_eq_false_iff_not, Classical.not_not] at h1
    have eC : up1 C (w * 120 + j) (canS (pcl R C L) w nk nm ns (w * 120 + j)) = C := by
      funext t
      unfold up1
      by_cases y : t = w * 120 + j
      · rw [if_pos y, h1.2, y]
      · rw [if_neg y]
    rw [eC] at h2 h3 ⊢
    refine ⟨h1.1, h2, fun i hi => ?_⟩
    by_cases y : i = j
    · rw [y]; exact h1.2.symm
    · exact h3 i (by omega)
theorem swA_same {C : Nat → Int32} (h : (swA R w nk nm ns L C).2 = false) : (swA R w nk nm ns L C).1 = C ∧ ∀ i, i < ns → C (w * 120 + i) = canS (pcl R C L) w nk nm ns (w * 120 + i) := (sw_same ns C false h).2
theorem sw_out : ∀ j C b t, (t < w * 120 ∨ w * 120 + j ≤ t) → (fdn (swF R w nk nm ns L) j (C, b)).1 t = C t := by
  intro j
  induction j with
  | zero => intro C b t _; rfl
  | succ j ih =>
    intro C b t h
    have e : fdn (swF R w nk nm ns L) (j + 1) (C, b) = fdn (swF R w nk nm ns L) j (up1 C (w * 120 + j) (canS (pcl R C L) w nk nm ns (w * 120 + j)), b || decide (¬ canS (pcl R C L) w nk nm ns (w * 120 + j) = C (w * 120 + j))) := rfl
    rw [e, ih _ _ t (by omega)]
    exact if_neg (by omega)
/-- what a sweep writes -/
theorem sw_val : ∀ j C b i, i < j → ∃ M : Nat → Int32, (fdn (swF R w nk nm ns L) j (C, b)).1 (w * 120 + i) = canS (pcl R M L) w nk nm ns (w * 120 + i) ∧ ∀ t, M t = C t ∨ M t = (fdn (swF R w nk nm ns L) j (C, b)).1 t := by
  intro j
  induction j with
  | zero => intro C b i hi; omega
  | succ j ih =>
    intro C b i hi
    have e : fdn (swF R w nk nm ns L) (j + 1) (C, b) = fdn (swF R w nk nm ns L) j (up1 C (w * 120 + j) (canS (pcl R C L) w nk nm ns (w * 120 + j)), b || decide (¬ canS (pcl R C L) w nk nm ns (w * 120 + j) = C (w * 120 + j))) := rfl
    rw [e]
    by_cases y : i = j
    · refine ⟨C, ?_, fun t => Or.inl rfl⟩
      rw [sw_out _ _ _ _ (by omega), y]
      exact if_pos rfl
    · obtain ⟨M, m1, m2⟩ := ih (up1 C (w * 120 + j) (canS (pcl R C L) w nk nm ns (w * 120 + j))) (b || decide (¬ canS (pcl R C L) w nk nm ns (w * 120 + j) = C (w * 120 + j))) i (by omega)
      refine ⟨M, m1, fun t => ?_⟩
      rcases m2 t with z | z
      · by_cases y2 : t = w * 120 + j
        · refine Or.inr ?_
          rw [z, sw_out _ _ _ _ (by omega)]
        · exact Or.inl (by rw [z]; exact if_neg y2)
      · exact Or.inr z
theorem sw_flag : ∀ j C b, (∀ i, i < j → (fdn (swF R w nk nm ns L) j (C, b)).1 (w * 120 + i) = C (w * 120 + i)) → (fdn (swF R w nk nm ns L) j (C, b)).2 = b := by
  intro j
  induction j with
  | zero => intro C b _; rfl
  | succ j ih =>
    intro C b h
    have e : fdn (swF R w nk nm ns L) (j + 1) (C, b) = fdn (swF R w nk nm ns L) j (up1 C (w * 120 + j) (canS (pcl R C L) w nk nm ns (w * 120 + j)), b || decide (¬ canS (pcl R C L) w nk nm ns (w * 120 + j) = C (w * 120 + j))) := rfl
    rw [e] at h ⊢
    have h0 := h j (by omega)
    rw [sw_out _ _ _ _ (by omega), show up1 C (w * 120 + j) (canS (pcl R C L) w nk nm ns (w * 120 + j)) (w * 120 + j) = canS (pcl R C L) w nk nm ns (w * 120 + j) from if_pos rfl] at h0
    rw [ih _ _ (fun i hi => by
      rw [h i (by omega)]
      exact (if_neg (by omega)).symm)]
    rw [decide_eq_false (fun q => q h0), Bool.or_false]
theorem itr_succ : ∀ m C, itr R w nk nm ns L (m + 1) C = (swA R w nk nm ns L (itr R w nk nm ns L m C)).1 := by
  intro m
  induction m with
  | zero => intro C; rfl
  | succ m ih => intro C; exact ih _
/-- the sweeps end, if each statement needs only those of less weight -/
theorem sw_conv {p : Nat → Nat} {N : Nat} (hp : ∀ i, i < ns → p (w * 120 + i) < N) (cg : ∀ s C C', w * 120 ≤ s → s < w * 120 + ns → (∀ t, w * 120 ≤ t → t < w * 120 + ns → p t < p s → C t = C' t) → canS (pcl R C L) w nk nm ns s = canS (pcl R C' L) w nk nm ns s) (C0 : Nat → Int32) : (swA R w nk nm ns L (itr R w nk nm ns L N C0)).2 = false := by
  have S : ∀ n m, n ≤ m → ∀ s, w * 120 ≤ s → s < w * 120 + ns → p s < n → itr R w nk nm ns L (m + 1) C0 s = itr R w nk nm ns L m C0 s := by
    intro n
    induction n with
    | zero => intro m _ s _ _ h; omega
    | succ n ih =>
      intro m hm s h1 h2 h3
      obtain ⟨m, rfl⟩ : ∃ k, m = k + 1 := ⟨m - 1, by omega⟩
      have es : s = w * 120 + (s - w * 120) := by omega
      obtain ⟨M2, a1, a2⟩ := sw_val (R := R) (w := w) (nk := nk) (nm := nm) (ns := ns) (L := L) ns (itr R w nk nm ns L (m + 1) C0) false (s - w * 120) (by omega)
      obtain ⟨M1, b1, b2⟩ := sw_val (R := R) (w := w) (nk := nk) (nm := nm) (ns := ns) (L := L) ns (itr R w nk nm ns L m C0) false (s - w * 120) (by omega)
      rw [← es] at a1 b1
      have a1 : itr R w nk nm ns L (m + 1 + 1) C0 s = canS (pcl R M2 L) w nk nm ns s := by rw [itr_succ]; exact a1
      have b1 : itr R w nk nm ns L (m + 1) C0 s = canS (pcl R M1 L) w nk nm ns s := by rw [itr_succ]; exact b1
      rw [a1, b1]
      refine cg s M2 M1 h1 h2 (fun t t1 t2 t3 => ?_)
      have i1 := ih (m + 1) (by omega) t t1 t2 (by omega)
      have i2 := ih m (by omega) t t1 t2 (by omega)
      have c2 : M2 t = itr R w nk nm ns L (m + 1) C0 t ∨ M2 t = itr R w nk nm ns L (m + 1 + 1) C0 t := by
        have := a2 t
        rw [itr_succ (m := m + 1)]; exact this
      have c1 : M1 t = itr R w nk nm ns L m C0 t ∨ M1 t = itr R w nk nm ns L (m + 1) C0 t := by
        have := b2 t
        rw [itr_succ (m := m)]; exact this
      rcases c2 with c2 | c2 <;> rcases c1 with c1 | c1 <;> rw [c2, c1] <;> simp only [i1, i2]
  refine sw_flag ns _ false (fun i hi => ?_)
  have := S N N (Nat.le_refl _) (w * 120 + i) (by omega) (by omega) (hp i hi)
  rw [itr_succ] at this
  exact this
end
section
variable {R : RV} {G : Nat → Nat → Nat} {nm nk : Nat}
theorem bcS_cg (T : TRE R G nm) {C L C' L' : Nat → Int32} {o : Option Nat} (h : ∀ b, o = some b → (wN R * 1024 ≤ b ∧ b < nbN R) ∧ ∀ t, G 4 b ≤ t → t < G 5 b → ai R 21 t = nI b → C t = C' t) : bcS (pcl R C L) o = bcS (pcl R C' L') o := by
  cases o with
  | none => rfl
  | some b =>
    obtain ⟨rg, h⟩ := h b rfl
    obtain ⟨WB, l1, l2⟩ := T.2.2.1 b rg.1 rg.2
    have s2 := T.2.2.2.2.1
    have I : ∀ f o x, (∀ t, o = some t → G 4 b ≤ t ∧ t < G 5 b ∧ ai R 21 t = nI b) → chn (pcl R C L) f o x = chn (pcl R C' L') f o x := by
      intro f
      induction f with
      | zero => intro o x _; rfl
      | succ f ih =>
        intro o x ho
        cases o with
        | none => rfl
        | some t =>
          obtain ⟨t1, t2, t3⟩ := ho t rfl
          show chn (pcl R C L) f (oN (ai R 23 t)) (x ||| C t) = chn (pcl R C' L') f (oN (ai R 23 t)) (x ||| C' t)
          rw [h t t1 t2 t3]
          obtain ⟨c1, c2, c3⟩ := WB.2.2.2.2 t t1 t2 t3
          refine ih _ _ (fun u hu => ?_)
          rw [c2] at hu
          by_cases y : G 3 t = G 5 b
          · rw [if_pos y] at hu; cases hu
          · rw [if_neg y, oN_nI (by omega)] at hu
            cases hu
            obtain ⟨⟨w1, w2, w3, w4, w5, w6⟩, -⟩ := T.2.1 t (by omega) (by omega)
            exact ⟨by omega, by omega, c3 (by omega)⟩
    show chn (pcl R C L) 240 (oN (ai R 44 b)) 0 = chn (pcl R C' L') 240 (oN (ai R 44 b)) 0
    refine I _ _ _ (fun t ht => ?_)
    by_cases y : G 4 b = G 5 b
    · rw [(WB.2.2.1 y).1] at ht; cases ht
    · obtain ⟨e1, e2, -⟩ := WB.2.2.2.1 (by have := WB.2.1; omega)
      rw [e1, oN_nI (by have := WB.2.1; omega)] at ht
      cases ht
      exact ⟨Nat.le_refl _, by have := WB.2.1; omega, e2⟩
/-- what a statement can throw needs only those that end ahead, or lie in it -/
theorem canS_cg (T : TRE R G nm) {C C' L : Nat → Int32} {nm' : Nat} {s : Nat} (h1 : wN R * 120 ≤ s) (h2 : s < rsN R) (h : ∀ t, wN R * 120 ≤ t → t < rsN R → (G 3 t < G 3 s ∨ (G 3 t = G 3 s ∧ s < t)) → C t = C' t) : canS (pcl R C L) (wN R) nk nm' (nsC R) s = canS (pcl R C' L) (wN R) nk nm' (nsC R) s := by
  obtain ⟨⟨w1, w2, w3, w4, w5, w6⟩, wk⟩ := T.2.1 s h1 h2
  have s3 := T.2.2.2.2.2
  have K : ∀ o : Option Nat, (∀ b, o = some b → b ∈ kids R s) → bcS (pcl R C L) o = bcS (pcl R C' L) o := fun o ho => bcS_cg T (fun b eb => by
    have kb := ho b eb
    have rb := wk b kb
    have cb := (w4.le).2 b kb
    obtain ⟨WB, l1, l2⟩ := T.2.2.1 b rb.1 rb.2
    exact ⟨rb, fun t g1 g2 g3 => h t (by omega) (by omega) (by
      have := (WB.2.2.2.2 t g1 g2 g3).1
      omega)⟩)
  have e26 := K (oN (ai R 26 s)) (fun b e => kid26 e)
  have e27 := K (oN (ai R 27 s)) (fun b e => kid27 e)
  have e28 := K (oN (ai R 28 s)) (fun b e => kid28 e)
  have eM : trM (pcl R C L) s (tn (ai R 32 s)) = trM (pcl R C' L) s (tn (ai R 32 s)) := by
    refine fup_cg _ _ _ (fun i x h3 h4 => ?_)
    show x ||| bcS (pcl R C L) (oN (ai R 33 (4 * s + i))) = x ||| bcS (pcl R C' L) (oN (ai R 33 (4 * s + i)))
    rw [K (oN (ai R 33 (4 * s + i))) (fun b e => ?_)]
    obtain ⟨k, k1, k2, b6, b7, b8, b3, -⟩ := w5
    have := (b3 i (by omega)).1.some s3 e
    exact kidC (by omega) this.1 (by omega)
  have eC : calS (pcl R C L) (wN R) nk nm' s = calS (pcl R C' L) (wN R) nk nm' s := by
    unfold calS
    rw [show bcS (pcl R C L) (oN (ai (pcl R C L) 26 s)) = bcS (pcl R C' L) (oN (ai (pcl R C' L) 26 s)) from e26]
    rfl
  have eI : insS (pcl R C L) (wN R) nk nm' s = insS (pcl R C' L) (wN R) nk nm' s := by
    unfold insS
    rw [show bcS (pcl R C L) (oN (ai (pcl R C L) 26 s)) = bcS (pcl R C' L) (oN (ai (pcl R C' L) 26 s)) from e26]
    rfl
  have eS : trS (pcl R C L) (wN R) nk nm' s = trS (pcl R C' L) (wN R) nk nm' s := by
    unfold trS
    rw [eI, show trM (pcl R C L) s (tn (ai (pcl R C L) 32 s)) = trM (pcl R C' L) s (tn (ai (pcl R C' L) 32 s)) from eM]
    rfl
  have eT : triS (pcl R C L) (wN R) nk nm' s = triS (pcl R C' L) (wN R) nk nm' s := by
    show (match oN (ai R 28 s) with
      | none => trS (pcl R C L) (wN R) nk nm' s
      | some b => if lfB (pcl R C L) (some b) then trS (pcl R C L) (wN R) nk nm' s ||| bcS (pcl R C L) (some b) else bcS (pcl R C L) (some b)) = (match oN (ai R 28 s) with
      | none => trS (pcl R C' L) (wN R) nk nm' s
      | some b => if lfB (pcl R C' L) (some b) then trS (pcl R C' L) (wN R) nk nm' s ||| bcS (pcl R C' L) (some b) else bcS (pcl R C' L) (some b))
    rw [eS]
    cases e : oN (ai R 28 s) with
    | none => rfl
    | some b =>
      rw [e] at e28
      show (if lfB (pcl R C L) (some b) then _ ||| bcS (pcl R C L) (some b) else bcS (pcl R C L) (some b)) = (if lfB (pcl R C' L) (some b) then _ ||| bcS (pcl R C' L) (some b) else bcS (pcl R C' L) (some b))
      rw [e28]
      rfl
  have prP : ∀ D, prS (pcl R D L) s = prS R s := fun D => by
    unfold prS
    rw [prF_of (r := R) (r' := pcl R D L) rfl rfl rfl rfl rfl]
    rfl
  have stP : ∀ D c, stS (pcl R D L) (wN R) (nsC R) c = stS R (wN R) (nsC R) c := fun D c => by
    unfold stS
    refine fup_cg _ _ _ (fun i x _ _ => ?_)
    have : prS (pcl R D L) (wN R * 120 + i) = prS R (wN R * 120 + i) := by
      unfold prS
      rw [prF_of (r := R) (r' := pcl R D L) rfl rfl rfl rfl rfl]
      rfl
    rw [this]
    rfl
  have eW : thwS (pcl R C L) (wN R) nk nm' (nsC R) s = thwS (pcl R C' L) (wN R) nk nm' (nsC R) s := by
    unfold thwS
    rw [prP, prP]
    cases e : prS R s with
    | none => rfl
    | some c =>
      show (if stS (pcl R C L) (wN R) (nsC R) c then cgS (pcl R C L) (wN R) nk c else agS (pcl R C L) (wN R) nk nm' (c / 4) (c % 4)) = (if stS (pcl R C' L) (wN R) (nsC R) c then cgS (pcl R C' L) (wN R) nk c else agS (pcl R C' L) (wN R) nk nm' (c / 4) (c % 4))
      rw [stP, stP]
      obtain ⟨o, i, q, c1, c2, c3, c4, c5, c6, c7, c8, c9, c10⟩ := pr_in T h1 h2 e
      have eo : c / 4 = o := by omega
      rw [eo]
      obtain ⟨⟨v1, v2, v3, v4, v5, v6⟩, vk⟩ := T.2.1 o c6.1 (by omega)
      have eB : bcS (pcl R C L) (oN (ai R 26 o)) = bcS (pcl R C' L) (oN (ai R 26 o)) := bcS_cg T (fun b eb => by
        have kb := kid26 eb
        have rb := vk b kb
        obtain ⟨WB, l1, l2⟩ := T.2.2.1 b rb.1 rb.2
        have l3 : G 5 b ≤ G 4 q := by
          have ek : kids R o = b :: ((oN (ai R 27 o)).toList ++ ((List.range (tn (ai R 32 o))).map (fun i => tn (ai R 33 (4 * o + i))) ++ (oN (ai R 28 o)).toList)) := by
            unfold kids; rw [eb]; rfl
          rw [ek] at v4
          obtain ⟨x1, x2, x3⟩ := v4
          refine ((x3.le).2 q ?_).1
          rw [List.mem_append, List.mem_append]
          exact Or.inr (Or.inl (List.mem_map.mpr ⟨i, List.mem_range.mpr c2, by rw [c4, tn_nI (by have := c5.rg T; omega)]⟩))
        exact ⟨rb, fun t g1 g2 g3 => h t (by omega) (by omega) (by
          have := (WB.2.2.2.2 t g1 g2 g3).1
          omega)⟩)
      have eI2 : insS (pcl R C L) (wN R) nk nm' o = insS (pcl R C' L) (wN R) nk nm' o := by
        unfold insS
        rw [show bcS (pcl R C L) (oN (ai (pcl R C L) 26 o)) = bcS (pcl R C' L) (oN (ai (pcl R C' L) 26 o)) from eB]
        rfl
      have eA : agS (pcl R C L) (wN R) nk nm' o (c % 4) = agS (pcl R C' L) (wN R) nk nm' o (c % 4) := by
        unfold agS
        rw [eI2]
        rfl
      rw [eA]
      rfl
  show (if ai R 19 s = 1 then calS (pcl R C L) (wN R) nk nm' s else if ai R 19 s = 2 then thwS (pcl R C L) (wN R) nk nm' (nsC R) s else if ai R 19 s = 4 ∨ ai R 19 s = 5 ∨ ai R 19 s = 6 ∨ ai R 19 s = 11 then bcS (pcl R C L) (oN (ai R 26 s)) ||| bcS (pcl R C L) (oN (ai R 27 s)) else if ai R 19 s = 9 then triS (pcl R C L) (wN R) nk nm' s else 0) = (if ai R 19 s = 1 then calS (pcl R C' L) (wN R) nk nm' s else if ai R 19 s = 2 then thwS (pcl R C' L) (wN R) nk nm' (nsC R) s else if ai R 19 s = 4 ∨ ai R 19 s = 5 ∨ ai R 19 s = 6 ∨ ai R 19 s = 11 then bcS (pcl R C' L) (oN (ai R 26 s)) ||| bcS (pcl R C' L) (oN (ai R 27 s)) else if ai R 19 s = 9 then triS (pcl R C' L) (wN R) nk nm' s else 0)
  rw [eC, eW, e26, e27, eT]
/-- the sweeps end -/
theorem sweeps_end (T : TRE R G nm) {L : Nat → Int32} {nm' : Nat} (C0 : Nat → Int32) : ∃ n, (swA R (wN R) nk nm' (nsC R) L (itr R (wN R) nk nm' (nsC R) L n C0)).2 = false := by
  have s2 := T.2.2.2.2.1
  have er : rsN R = wN R * 120 + nsC R := rfl
  refine ⟨300 * 300, sw_conv (p := fun s => 300 * G 3 s + (299 - s)) (fun i hi => ?_) (fun s C C' h1 h2 h => canS_cg T h1 (by omega) (fun t t1 t2 t3 => h t t1 (by omega) (by omega))) C0⟩
  obtain ⟨x, x1, x2, x3, x4⟩ := home T (s := wN R * 120 + i) (by omega) (by omega)
  have rx := x1.rg T
  obtain ⟨WB, l1, l2⟩ := T.2.2.1 x rx.1 rx.2
  have := (WB.2.2.2.2 _ x3 x4 x2).1
  omega
end
