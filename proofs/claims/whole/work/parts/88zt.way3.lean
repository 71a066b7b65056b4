/-! A method is told: the parts -/
/-- the object of a method while its head is read -/
def WYP (h hc : AH) (T U e0 nk : Nat) (par : Nat → Nat) (wk : Nat → Int64) (pk : Nat → Int32) (nm : Nat) (fW : Nat → Nat) (ns : Nat) (fS : Nat → Nat) (ks : List Nat) (b : Nat) (v : Nat → Int32) (u : Nat → Int64) (p : Nat → Option Nat) : Prop := FX (ENX T U e0 (tp h)) h hc ∧ KD hc (U + 1) nk par wk pk ∧ tg hc (tp h) = 13 ∧ FO hc 12 (tp h) v u p ∧ LST hc U e0 nm fW ns fS ks b ∧ tp h + 5 ≤ tp hc
section
variable {h hc h' : AH} {T U e0 nk : Nat} {par : Nat → Nat} {wk : Nat → Int64} {pk : Nat → Int32} {nm : Nat} {fW : Nat → Nat} {ns : Nat} {fS : Nat → Nat} {ks : List Nat} {b : Nat} {v : Nat → Int32} {u : Nat → Int64} {p : Nat → Option Nat}
theorem WYP.pw (w : WYP h hc T U e0 nk par wk pk nm fW ns fS ks b v u p) (x : PW T U hc h') (hT : T < U) : WYP h h' T U e0 nk par wk pk nm fW ns fS ks b v u p := by
  obtain ⟨w1, w2, w3, w4, w5, w6⟩ := w
  exact ⟨w1.tr (x.1.mono (fun _ _ z => Or.inl z)), w2.pw x hT, by rw [x.1.tg (by omega)]; exact w3, w4.fx x.1 (by omega) (fun f hf => EPW_no (by omega)), w5.pw x, by rw [x.2.1]; exact w6⟩
theorem WYP.fi (w : WYP h hc T U e0 nk par wk pk nm fW ns fS ks b v u p) (hU : U + 10 ≤ tp h) (f : Nat) (hf : f / 100 % 100 = 12) (y : Int32) : WYP h (setFI hc f (tp h) y) T U e0 nk par wk pk nm fW ns fS ks b (up1 v f y) u p := by
  obtain ⟨w1, w2, w3, w4, w5, w6⟩ := w
  exact ⟨w1.toFI _ (Or.inr (Or.inr ⟨Nat.le_refl _, by omega⟩)), w2.fx (FX.FI (E := fun g z => g = f ∧ z = tp h) ⟨rfl, rfl⟩) (fun g z => by omega) (fun z => by omega) (fun z => by omega) (fun z => by omega) (fun z => by omega), w3, w4.sI f y, LST.fi w5 y hU (by omega), w6⟩
theorem WYP.fj (w : WYP h hc T U e0 nk par wk pk nm fW ns fS ks b v u p) (hU : U + 10 ≤ tp h) (f : Nat) (hf : f / 100 % 100 = 12) (y : Int64) : WYP h (setFJ hc f (tp h) y) T U e0 nk par wk pk nm fW ns fS ks b v (up1 u f y) p := by
  obtain ⟨w1, w2, w3, w4, w5, w6⟩ := w
  exact ⟨w1.toFJ _ (Or.inr (Or.inr ⟨Nat.le_refl _, by omega⟩)), w2.fx (FX.FJ (E := fun g z => g = f ∧ z = tp h) ⟨rfl, rfl⟩) (fun g z => by omega) (fun z => by omega) (fun z => by omega) (fun z => by omega) (fun z => by omega), w3, w4.sJ f y, LST.fj w5 y hU (by omega), w6⟩
theorem WYP.ls {ks' : List Nat} {b' nm' ns' : Nat} {fW' fS' : Nat → Nat} (w : WYP h hc T U e0 nk par wk pk nm fW ns fS ks b v u p) (x : FX (ELs U e0) hc h') (L : LST h' U e0 nm' fW' ns' fS' ks' b') (he : e0 < U) : WYP h h' T U e0 nk par wk pk nm' fW' ns' fS' ks' b' v u p := by
  obtain ⟨w1, w2, w3, w4, w5, w6⟩ := w
  exact ⟨w1.tr (x.mono (fun _ _ z => Or.inr (Or.inl z))), w2.ls x he, by rw [x.tg (by omega)]; exact w3, w4.fx x (by omega) (fun f hf => ELs_no (by omega)), L, by have := x.1; omega⟩
end
/-- what the object holds of what the reference has -/
def VB (y : Nat) (v : Nat → Int32) (u : Nat → Int64) (p : Nat → Option Nat) (X : RV) (m : Nat) : Prop := v 1202 = ai X 10 m ∧ plp (ai X 10 m) ∧ u 21201 = conv (al X 9 m) ∧ WV (al X 9 m) ∧ v 11203 = b2i (decide (¬ al X 11 m = 0)) ∧ (¬ al X 11 m = 0 → u 21204 = conv (al X 11 m) ∧ WV (al X 11 m) ∧ v 1205 = ai X 12 m ∧ plp (ai X 12 m)) ∧ v 1206 = -1 ∧ p 31200 = some (y + 1) ∧ p 31208 = none
theorem VB.cg {y : Nat} {v : Nat → Int32} {u : Nat → Int64} {p : Nat → Option Nat} {X X' : RV} {m : Nat} (h : VB y v u p X m) (e : ∀ q, 9 ≤ q → q ≤ 12 → ai X' q m = ai X q m ∧ al X' q m = al X q m) : VB y v u p X' m := by
  unfold VB at h ⊢
  rw [(e 10 (by omega) (by omega)).1, (e 9 (by omega) (by omega)).2, (e 11 (by omega) (by omega)).2, (e 12 (by omega) (by omega)).1]
  exact h
theorem wyf_mk {hc : AH} {U y x k : Nat} {R : RV} {G : Nat → Nat → Nat} {v : Nat → Int32} {u : Nat → Int64} {p p' : Nat → Option Nat} {wd : Nat → Int64} {pc : Nat → Int32} {mt : Nat → Option Nat} (hU : U + 10 ≤ y) (t : tg hc y = 13) (F : FO hc 12 y v u p') (ep : ∀ f, ¬ f = 31208 → p' f = p f) (N : ND hc (y + 1) k wd pc mt) (B : VB y v u p R x) (c14 : ai R 14 x = nI k) (k4 : k ≤ 4) (da : ∀ j, j < k → wd j = conv (al R 15 (4 * x + j)) ∧ WV (al R 15 (4 * x + j)) ∧ pc j = ai R 16 (4 * x + j) ∧ plp (pc j) ∧ mt j = kN R (wN R) (nkN R) (al R 15 (4 * x + j)) (ai R 16 (4 * x + j))) (v13 : v 11207 = ai R 13 x) (b13 : ai R 13 x = 0 ∨ ai R 13 x = 1) (v17 : p' 31208 = (oN (ai R 17 x)).map (G 1)) : WYF hc U R G x y := by
  obtain ⟨b1, b2, b3, b4, b5, b6, b7, b8, b9⟩ := B
  have f := fun g hg => F g hg
  have tk : tn (ai R 14 x) = k := by rw [c14, tn_nI (by omega)]
  unfold WYF
  rw [tk]
  refine ⟨⟨hU, t, by rw [(f 31200 (by decide)).2.2, ep _ (by decide)]; exact b8⟩, N.cg (fun i hi => ?_), fun i hi => ?_, ⟨by rw [(f 21201 (by decide)).2.1]; exact b3, b4⟩, ⟨by rw [(f 1202 (by decide)).1]; exact b1, b2⟩, by rw [(f 11203 (by decide)).1]; exact b5, fun z => ?_, by rw [(f 1206 (by decide)).1]; exact b7, ⟨by rw [(f 11207 (by decide)).1]; exact v13, b13⟩, by rw [(f 31208 (by decide)).2.2]; exact v17, ?_⟩
  · obtain ⟨d1, d2, d3, d4, d5⟩ := da i hi
    exact ⟨d1, d3, d5⟩
  · obtain ⟨d1, d2, d3, d4, d5⟩ := da i hi
    exact ⟨d2, by rw [← d3]; exact d4⟩
  · obtain ⟨e1, e2, e3, e4⟩ := b6 z
    exact ⟨by rw [(f 21204 (by decide)).2.1]; exact e1, e2, by rw [(f 1205 (by decide)).1]; exact e3, e4⟩
  · rw [c14]; exact ⟨by rw [tn_nI (by omega)], by rw [tn_nI (by omega)]; exact k4⟩
theorem bods_succ (R : RV) (w nm : Nat) : bods R w (nm + 1) = bods R w nm ++ (oN (ai R 17 (w * 12 + nm))).toList := by
  unfold bods
  rw [List.range_succ, List.flatMap_append]
  simp
/-- whether the name of a method was there before -/
theorem mN_new {R : RV} {w nm nR : Nat} {x : Int64} (h : nm < nR) (e : al R 9 (w * 12 + nm) = x) : (¬ mN R w nR x = some nm) ↔ ¬ ffst (fun m => decide (al R 9 (w * 12 + m) = x)) nm 0 = none := by
  unfold mN
  cases q : ffst (fun m => decide (al R 9 (w * 12 + m) = x)) nm 0 with
  | none =>
    have g := ffst_none q
    have : ffst (fun m => decide (al R 9 (w * 12 + m) = x)) nR 0 = some nm := ffst_is (by omega) (by omega) (decide_eq_true e) (fun i h1 h2 => g i h1 (by omega))
    rw [this]; simp
  | some j =>
    obtain ⟨g1, g2, g3, g4⟩ := ffst_some q
    have : ffst (fun m => decide (al R 9 (w * 12 + m) = x)) nR 0 = some j := ffst_is (by omega) (by omega) g3 (fun i h1 h2 => g4 i h1 h2)
    rw [this]
    constructor
    · intro _ z; cases z
    · intro _ z
      have := Option.some.inj z
      omega
