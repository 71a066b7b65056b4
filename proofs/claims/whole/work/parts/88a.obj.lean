/-! Objects by their fields; what may change while a statement is read -/
/-- the fields of the object x of class c -/
def FO (h : AH) (c x : Nat) (v : Nat → Int32) (u : Nat → Int64) (p : Nat → Option Nat) : Prop := ∀ f, f / 100 % 100 = c → fI h f x = v f ∧ fJ h f x = u f ∧ fP h f x = p f
section
variable {h h' : AH} {c x : Nat} {v : Nat → Int32} {u : Nat → Int64} {p : Nat → Option Nat}
theorem FO.fx {E : Nat → Nat → Prop} (o : FO h c x v u p) (a : FX E h h') (hx : x < tp h) (n : ∀ f, f / 100 % 100 = c → ¬ E f x) : FO h' c x v u p := fun f hf => by
  rw [a.fI hx (n f hf), a.fJ hx (n f hf), a.fP hx (n f hf)]
  exact o f hf
theorem FO.sI (o : FO h c x v u p) (f : Nat) (y : Int32) : FO (setFI h f x y) c x (up1 v f y) u p := fun g hg => by
  refine ⟨?_, (o g hg).2.1, (o g hg).2.2⟩
  rw [fI_setFI]
  unfold up1
  by_cases z : g = f
  · rw [if_pos ⟨z, rfl⟩, if_pos z]
  · rw [if_neg (fun e => z e.1), if_neg z]; exact (o g hg).1
theorem FO.sJ (o : FO h c x v u p) (f : Nat) (y : Int64) : FO (setFJ h f x y) c x v (up1 u f y) p := fun g hg => by
  refine ⟨(o g hg).1, ?_, (o g hg).2.2⟩
  rw [fJ_setFJ]
  unfold up1
  by_cases z : g = f
  · rw [if_pos ⟨z, rfl⟩, if_pos z]
  · rw [if_neg (fun e => z e.1), if_neg z]; exact (o g hg).2.1
theorem FO.sP (o : FO h c x v u p) (f : Nat) (y : Option Nat) : FO (setFP h f x y) c x v u (up1 p f y) := fun g hg => by
  refine ⟨(o g hg).1, (o g hg).2.1, ?_⟩
  show (if g = f ∧ x = x then y else fP h g x) = _
  unfold up1
  by_cases z : g = f
  · rw [if_pos ⟨z, rfl⟩, if_pos z]
  · rw [if_neg (fun e => z e.1), if_neg z]; exact (o g hg).2.2
theorem FO.new (h : AH) (c n : Nat) : FO (newO h c n) c (tp h) (fun _ => 0) (fun _ => 0) (fun _ => none) := fun f hf => by
  rw [fI_newO, fJ_newO, fP_newO, if_pos ⟨rfl, hf⟩, if_pos ⟨rfl, hf⟩, if_pos ⟨rfl, hf⟩]
  exact ⟨rfl, rfl, rfl⟩
end
/-- what may change since a time when b was the next address -/
def EPn (T U e0 b : Nat) (sc : List Nat) (g x : Nat) : Prop := EPa T U e0 sc g x ∨ (b ≤ x ∧ g / 100 % 100 < 20)
theorem EPn_end {T U e0 : Nat} {sc : List Nat} {h h' : AH} (x : FX (EPn T U e0 (tp h) sc) h h') : FX (EPa T U e0 sc) h h' := x.less (fun g y hy z => by
    rcases z with z | ⟨z1, z2⟩
    · exact z
    · omega) (fun y hy z => by
    rcases z with z | ⟨z1, z2⟩
    · exact z
    · omega) (fun y hy z => by
    rcases z with z | ⟨z1, z2⟩
    · exact z
    · omega)
theorem EPW_a {T U e0 : Nat} {sc : List Nat} {g x : Nat} (z : EPW T U g x) : EPa T U e0 sc g x := by
  rcases z with z | ⟨z1, z2⟩
  · exact Or.inl z
  · exact Or.inr (Or.inr (Or.inr ⟨z1, Or.inl z2⟩))
theorem PW.ep {T U e0 : Nat} {sc : List Nat} {h h' : AH} (a : PW T U h h') : FX (EPa T U e0 sc) h h' := a.1.mono (fun _ _ z => EPW_a z)
theorem PW.en {T U e0 b : Nat} {sc : List Nat} {h h' : AH} (a : PW T U h h') : FX (EPn T U e0 b sc) h h' := a.1.mono (fun _ _ z => Or.inl (EPW_a z))
theorem ELs_ep {T U e0 : Nat} {sc : List Nat} {h h' : AH} (a : FX (ELs U e0) h h') : FX (EPa T U e0 sc) h h' := a.mono (fun _ _ z => Or.inr (Or.inl z))
theorem ELs_en {T U e0 b : Nat} {sc : List Nat} {h h' : AH} (a : FX (ELs U e0) h h') : FX (EPn T U e0 b sc) h h' := a.mono (fun _ _ z => Or.inl (Or.inr (Or.inl z)))
theorem EPa_en {T U e0 b : Nat} {sc : List Nat} {h h' : AH} (a : FX (EPa T U e0 sc) h h') : FX (EPn T U e0 b sc) h h' := a.mono (fun _ _ z => Or.inl z)
/-- what can be said of an exception -/
theorem EPa_is {T U e0 : Nat} {sc : List Nat} {g x : Nat} (z : EPa T U e0 sc g x) : (x = T ∧ (g = 903 ∨ g = 904 ∨ g = 905 ∨ g = 20906)) ∨ ((x = U + 6 ∨ x = U + 7 ∨ x = U + 8) ∧ (g = 100 ∨ g = 102 ∨ g = 30101)) ∨ (g = 90003 ∧ (U + 10 ≤ x ∨ x = e0)) ∨ (x ∈ sc ∧ g = 10304) ∨ (x = U + 9 ∧ (g = 702 ∨ g = 703 ∨ g = 704 ∨ g = 10705 ∨ g = 30706)) := by
  rcases z with ⟨z1, z2⟩ | (z | z) | z | z
  · exact Or.inl ⟨z1, z2⟩
  · exact Or.inr (Or.inl z)
  · exact Or.inr (Or.inr (Or.inl z))
  · exact Or.inr (Or.inr (Or.inr (Or.inl z)))
  · exact Or.inr (Or.inr (Or.inr (Or.inr z)))
/-- fields of classes that reading leaves alone -/
theorem EPa_no {T U e0 : Nat} {sc : List Nat} {g x : Nat} (h : g / 100 % 100 = 2 ∨ g / 100 % 100 = 5 ∨ g / 100 % 100 = 6 ∨ g / 100 % 100 = 8 ∨ g / 100 % 100 = 10 ∨ g / 100 % 100 = 12 ∨ (g / 100 % 100 = 3 ∧ ¬ g = 10304) ∨ g = 90001 ∨ g = 0) : ¬ EPa T U e0 sc g x := fun z => by
  have := EPa_is z
  omega
section
variable {T U e0 : Nat} {sc : List Nat} {h h' : AH}
theorem KD.ep {nk : Nat} {par : Nat → Nat} {wk : Nat → Int64} {pk : Nat → Int32} (K : KD h (U + 1) nk par wk pk) (x : FX (EPa T U e0 sc) h h') (ht : T < U) (he : e0 < U) (hs : ∀ a, a ∈ sc → U + 10 ≤ a) : KD h' (U + 1) nk par wk pk :=
  K.fx x (fun g z => by
    have := EPa_is z
    rcases this with y | y | y | ⟨y, -⟩ | y
    · omega
    · omega
    · omega
    · have := hs _ y; omega
    · omega) (EPa_no (by omega)) (EPa_no (by omega)) (EPa_no (by omega)) (EPa_no (by omega))
theorem CHN.ep {l : List Nat} {o : Option Nat} (C : CHN h U l o) (x : FX (EPa T U e0 sc) h h') : CHN h' U l o := CHN.fx x (fun a => ⟨EPa_no (by omega), EPa_no (by omega)⟩) C
theorem ND.ep {N n : Nat} {wd : Nat → Int64} {pc : Nat → Int32} {mt : Nat → Option Nat} (D : ND h N n wd pc mt) (x : FX (EPa T U e0 sc) h h') : ND h' N n wd pc mt := D.fx x (fun g hg => EPa_no (by omega)) (EPa_no (by omega)) (EPa_no (by omega)) (EPa_no (by omega))
end
/-- a field of the new object x is set -/
theorem en_FI {T U e0 b x f : Nat} {sc : List Nat} {h : AH} {y : Int32} (hb : b ≤ x) (hf : f / 100 % 100 < 20) : FX (EPn T U e0 b sc) h (setFI h f x y) := FX.FI (Or.inr ⟨hb, hf⟩)
theorem en_FJ {T U e0 b x f : Nat} {sc : List Nat} {h : AH} {y : Int64} (hb : b ≤ x) (hf : f / 100 % 100 < 20) : FX (EPn T U e0 b sc) h (setFJ h f x y) := FX.FJ (Or.inr ⟨hb, hf⟩)
theorem en_FP {T U e0 b x f : Nat} {sc : List Nat} {h : AH} {y : Option Nat} (hb : b ≤ x) (hf : f / 100 % 100 < 20) : FX (EPn T U e0 b sc) h (setFP h f x y) := FX.FP (Or.inr ⟨hb, hf⟩)
theorem en_nw {U b x f : Nat} (hb : U + 10 ≤ x) (hf : f / 100 % 100 = 2 ∨ f / 100 % 100 = 3 ∨ f / 100 % 100 = 6 ∨ f / 100 % 100 = 8 ∨ f / 100 % 100 = 12) : NWE U (fun g y => g = f ∧ y = x) := fun g y z => by
  obtain ⟨z1, z2⟩ := z
  subst z1 z2
  exact ⟨hb, by omega⟩
/-- the state after one field of a new object was set -/
theorem ES.fi {h : AH} {T U e0 m : Nat} {r : RV} {D l : Nat} {il : Bool} {so : Option Nat} (s : ES h T U e0 m r D l il so) {f x : Nat} (y : Int32) (hb : U + 10 ≤ x) (hf : f / 100 % 100 = 2 ∨ f / 100 % 100 = 3 ∨ f / 100 % 100 = 6 ∨ f / 100 % 100 = 8 ∨ f / 100 % 100 = 12) : ES (setFI h f x y) T U e0 m r D l il so := s.nw (FX.FI (E := fun g y => g = f ∧ y = x) ⟨rfl, rfl⟩) (en_nw (b := 0) hb hf)
theorem ES.fj {h : AH} {T U e0 m : Nat} {r : RV} {D l : Nat} {il : Bool} {so : Option Nat} (s : ES h T U e0 m r D l il so) {f x : Nat} (y : Int64) (hb : U + 10 ≤ x) (hf : f / 100 % 100 = 2 ∨ f / 100 % 100 = 3 ∨ f / 100 % 100 = 6 ∨ f / 100 % 100 = 8 ∨ f / 100 % 100 = 12) : ES (setFJ h f x y) T U e0 m r D l il so := s.nw (FX.FJ (E := fun g y => g = f ∧ y = x) ⟨rfl, rfl⟩) (en_nw (b := 0) hb hf)
theorem ES.fp {h : AH} {T U e0 m : Nat} {r : RV} {D l : Nat} {il : Bool} {so : Option Nat} (s : ES h T U e0 m r D l il so) {f x : Nat} (y : Option Nat) (hb : U + 10 ≤ x) (hf : f / 100 % 100 = 2 ∨ f / 100 % 100 = 3 ∨ f / 100 % 100 = 6 ∨ f / 100 % 100 = 8 ∨ f / 100 % 100 = 12) : ES (setFP h f x y) T U e0 m r D l il so := s.nw (FX.FP (E := fun g y => g = f ∧ y = x) ⟨rfl, rfl⟩) (en_nw (b := 0) hb hf)
section
variable {h : AH} {U e0 nm ns B : Nat} {fW fS : Nat → Nat} {ks : List Nat}
theorem LST.fi (s : LST h U e0 nm fW ns fS ks B) {f x : Nat} (y : Int32) (hb : U + 10 ≤ x) (hf : f / 100 % 100 = 2 ∨ f / 100 % 100 = 3 ∨ f / 100 % 100 = 6 ∨ f / 100 % 100 = 8 ∨ f / 100 % 100 = 12) : LST (setFI h f x y) U e0 nm fW ns fS ks B := LST.nw 0 s (FX.FI (E := fun g y => g = f ∧ y = x) ⟨rfl, rfl⟩) (en_nw (b := 0) hb hf) (Nat.le_refl _) (Nat.le_refl _)
theorem LST.fj (s : LST h U e0 nm fW ns fS ks B) {f x : Nat} (y : Int64) (hb : U + 10 ≤ x) (hf : f / 100 % 100 = 2 ∨ f / 100 % 100 = 3 ∨ f / 100 % 100 = 6 ∨ f / 100 % 100 = 8 ∨ f / 100 % 100 = 12) : LST (setFJ h f x y) U e0 nm fW ns fS ks B := LST.nw 0 s (FX.FJ (E := fun g y => g = f ∧ y = x) ⟨rfl, rfl⟩) (en_nw (b := 0) hb hf) (Nat.le_refl _) (Nat.le_refl _)
theorem LST.fp (s : LST h U e0 nm fW ns fS ks B) {f x : Nat} (y : Option Nat) (hb : U + 10 ≤ x) (hf : f / 100 % 100 = 2 ∨ f / 100 % 100 = 3 ∨ f / 100 % 100 = 6 ∨ f / 100 % 100 = 8 ∨ f / 100 % 100 = 12) : LST (setFP h f x y) U e0 nm fW ns fS ks B := LST.nw 0 s (FX.FP (E := fun g y => g = f ∧ y = x) ⟨rfl, rfl⟩) (en_nw (b := 0) hb hf) (Nat.le_refl _) (Nat.le_refl _)
end
/-- new objects change nothing that is old -/
theorem ES.newO {h : AH} {T U e0 m : Nat} {r : RV} {D l : Nat} {il : Bool} {so : Option Nat} (s : ES h T U e0 m r D l il so) (c n : Nat) (hc : c < 90) : ES (newO h c n) T U e0 m r D l il so := s.nw (FX.O (E := fun _ _ => False) hc) (fun _ _ z => z.elim)
theorem LST.newO {h : AH} {U e0 nm ns B : Nat} {fW fS : Nat → Nat} {ks : List Nat} (s : LST h U e0 nm fW ns fS ks (B + 1)) (c n : Nat) (hc : c < 90) (hn : n ≤ 60) : LST (newO h c n) U e0 nm fW ns fS ks B := by
  have room := s.room
  refine LST.nw 1 s (FX.O (E := fun _ _ => False) hc) (fun _ _ z => z.elim) ?_ ?_
  · rw [rc_newO]; omega
  · rw [rs_newO]; omega
