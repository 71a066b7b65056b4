/-! Views with other mistakes: what questions do not look at -/
/-- the reference's view with other mistakes (and another note of a lambda that was passed) -/
def put (r : RV) (p c : Int32) (x y z : Nat → Int32) : RV := (fun f => if f = 11457 then p else if f = 1460 then c else r.1 f, r.2.1, fun q => if q = 49 then x else if q = 50 then y else if q = 51 then z else r.2.2.1 q, r.2.2.2)
theorem put_self (r : RV) : put r (gi r 11457) (gi r 1460) (ai r 49) (ai r 50) (ai r 51) = r := by
  have e1 : (fun f => if f = 11457 then gi r 11457 else if f = 1460 then gi r 1460 else r.1 f) = r.1 := by
    funext f
    by_cases c : f = 11457
    · rw [if_pos c, c]; rfl
    · rw [if_neg c]
      by_cases c : f = 1460
      · rw [if_pos c, c]; rfl
      · rw [if_neg c]
  have e2 : (fun q => if q = 49 then ai r 49 else if q = 50 then ai r 50 else if q = 51 then ai r 51 else r.2.2.1 q) = r.2.2.1 := by
    funext q
    by_cases c : q = 49
    · rw [if_pos c, c]; rfl
    · rw [if_neg c]
      by_cases c : q = 50
      · rw [if_pos c, c]; rfl
      · rw [if_neg c]
        by_cases c : q = 51
        · rw [if_pos c, c]; rfl
        · rw [if_neg c]
  unfold put
  rw [e1, e2]
theorem put_put (r : RV) (p c : Int32) (x y z : Nat → Int32) (p' c' : Int32) (x' y' z' : Nat → Int32) : put (put r p c x y z) p' c' x' y' z' = put r p' c' x' y' z' := by
  have e1 : (fun f => if f = 11457 then p' else if f = 1460 then c' else if f = 11457 then p else if f = 1460 then c else r.1 f) = (fun f => if f = 11457 then p' else if f = 1460 then c' else r.1 f) := by
    funext f
    by_cases c : f = 11457
    · rw [if_pos c, if_pos c]
    · rw [if_neg c, if_neg c, if_neg c]
      by_cases c : f = 1460
      · rw [if_pos c, if_pos c]
      · rw [if_neg c, if_neg c, if_neg c]
  have e2 : (fun q => if q = 49 then x' else if q = 50 then y' else if q = 51 then z' else if q = 49 then x else if q = 50 then y else if q = 51 then z else r.2.2.1 q) = (fun q => if q = 49 then x' else if q = 50 then y' else if q = 51 then z' else r.2.2.1 q) := by
    funext q
    by_cases c : q = 49 <;> by_cases c1 : q = 50 <;> by_cases c2 : q = 51 <;> simp [c, c1, c2]
  show (_, _, _, _) = (_, _, _, _)
  exact congr (congrArg Prod.mk e1) (congrArg (Prod.mk r.2.1) (congr (congrArg Prod.mk e2) rfl))
theorem put_sP (r : RV) (p c : Int32) (x y z : Nat → Int32) (v : Int32) : sI (put r p c x y z) 11457 v = put r v c x y z := by
  have e : up1 (put r p c x y z).1 11457 v = (put r v c x y z).1 := by
    funext f
    show (if f = 11457 then v else if f = 11457 then p else _) = if f = 11457 then v else _
    by_cases c : f = 11457
    · rw [if_pos c, if_pos c]
    · rw [if_neg c, if_neg c, if_neg c]
  show (_, _) = (_, _)
  rw [e]
  rfl
theorem put_sC (r : RV) (p c : Int32) (x y z : Nat → Int32) (v : Int32) : sI (put r p c x y z) 1460 v = put r p v x y z := by
  have e : up1 (put r p c x y z).1 1460 v = (put r p v x y z).1 := by
    funext f
    show (if f = 1460 then v else if f = 11457 then p else if f = 1460 then c else _) = if f = 11457 then p else if f = 1460 then v else _
    by_cases c : f = 1460
    · rw [if_pos c, if_neg (show ¬ f = 11457 by omega), if_pos c]
    · rw [if_neg c, if_neg c, if_neg c]
  show (_, _) = (_, _)
  rw [e]
  rfl
theorem put_t49 (r : RV) (p c : Int32) (x y z : Nat → Int32) (i : Nat) (v : Int32) : tI (put r p c x y z) 49 i v = put r p c (up1 x i v) y z := by
  have e : up2 (put r p c x y z).2.2.1 49 i v = (put r p c (up1 x i v) y z).2.2.1 := by
    funext q j
    show (if q = 49 ∧ j = i then v else (if q = 49 then x else if q = 50 then y else if q = 51 then z else r.2.2.1 q) j) = (if q = 49 then up1 x i v else if q = 50 then y else if q = 51 then z else r.2.2.1 q) j
    by_cases c : q = 49
    · rw [if_pos c, if_pos c]; subst c; simp [up1]
    · rw [if_neg (fun z => c z.1), if_neg c, if_neg c]
  show (_, _, _, _) = (_, _, _, _)
  rw [e]
  rfl
theorem put_t50 (r : RV) (p c : Int32) (x y z : Nat → Int32) (i : Nat) (v : Int32) : tI (put r p c x y z) 50 i v = put r p c x (up1 y i v) z := by
  have e : up2 (put r p c x y z).2.2.1 50 i v = (put r p c x (up1 y i v) z).2.2.1 := by
    funext q j
    show (if q = 50 ∧ j = i then v else (if q = 49 then x else if q = 50 then y else if q = 51 then z else r.2.2.1 q) j) = (if q = 49 then x else if q = 50 then up1 y i v else if q = 51 then z else r.2.2.1 q) j
    by_cases c : q = 50
    · subst c; simp [up1]
    · rw [if_neg (fun z => c z.1), if_neg c, if_neg c]
  show (_, _, _, _) = (_, _, _, _)
  rw [e]
  rfl
theorem put_t51 (r : RV) (p c : Int32) (x y z : Nat → Int32) (i : Nat) (v : Int32) : tI (put r p c x y z) 51 i v = put r p c x y (up1 z i v) := by
  have e : up2 (put r p c x y z).2.2.1 51 i v = (put r p c x y (up1 z i v)).2.2.1 := by
    funext q j
    show (if q = 51 ∧ j = i then v else (if q = 49 then x else if q = 50 then y else if q = 51 then z else r.2.2.1 q) j) = (if q = 49 then x else if q = 50 then y else if q = 51 then up1 z i v else r.2.2.1 q) j
    by_cases c : q = 51
    · subst c; simp [up1]
    · rw [if_neg (fun z => c z.1), if_neg c, if_neg c]
  show (_, _, _, _) = (_, _, _, _)
  rw [e]
  rfl
theorem vP (h : AH) (a : Nat) (v : Int32) : view (setFI h 11457 a v) a = put (view h a) v (gi (view h a) 1460) (ai (view h a) 49) (ai (view h a) 50) (ai (view h a) 51) := by
  rw [view_FI]
  have := put_sP (view h a) (gi (view h a) 11457) (gi (view h a) 1460) (ai (view h a) 49) (ai (view h a) 50) (ai (view h a) 51) v
  rw [put_self] at this
  exact this
section
variable (r : RV) (p c : Int32) (x y z : Nat → Int32)
theorem chn_put : ∀ f o t, chn (put r p c x y z) f o t = chn r f o t := by
  intro f
  induction f with
  | zero => intro o t; rfl
  | succ f ih =>
    intro o t
    cases o with
    | none => rfl
    | some s => exact ih _ _
theorem bcS_put (o : Option Nat) : bcS (put r p c x y z) o = bcS r o := by
  cases o with
  | none => rfl
  | some b => exact chn_put r p c x y z 240 _ _
theorem insS_put (w nk nm s : Nat) : insS (put r p c x y z) w nk nm s = insS r w nk nm s := by
  unfold insS
  rw [bcS_put]
  rfl
theorem agS_put (w nk nm s i : Nat) : agS (put r p c x y z) w nk nm s i = agS r w nk nm s i := by
  unfold agS
  rw [insS_put]
  rfl
theorem calS_put (w nk nm s : Nat) : calS (put r p c x y z) w nk nm s = calS r w nk nm s := by
  unfold calS
  rw [bcS_put]
  rfl
theorem trM_put (s n : Nat) : trM (put r p c x y z) s n = trM r s n := by
  unfold trM
  simp only [bcS_put]
  rfl
theorem trS_put (w nk nm s : Nat) : trS (put r p c x y z) w nk nm s = trS r w nk nm s := by
  unfold trS
  rw [insS_put, trM_put]
  rfl
theorem triS_put (w nk nm s : Nat) : triS (put r p c x y z) w nk nm s = triS r w nk nm s := by
  unfold triS
  simp only [trS_put, bcS_put]
  rfl
end
