/-! What no turn of the reading touches: the half, the tape's length, the mistakes' number, the steps -/
def FKO (f : Nat) : Prop := f = 1401 ∨ f = 1402 ∨ f = 1460 ∨ f = 1465
def GK (f : Nat) (r r' : RV) : Prop := gi r' f = gi r f
section
variable {f : Nat} {r r1 : RV}
theorem GK.rf : GK f r r := rfl
theorem GK.adv (hf : FKO f) (a : GK f r r1) : GK f r (advF r1) := by
  unfold FKO at hf
  exact (gi_adv r1 (by omega) (by omega) (by omega)).trans a
theorem GK.nam (hf : FKO f) (a : GK f r r1) : GK f r (namF r1) := by
  unfold FKO at hf
  exact (gi_nam r1 (by omega) (by omega) (by omega) (by omega)).trans a
theorem GK.s (a : GK f r r1) {g : Nat} {v : Int32} (h : ¬ f = g) : GK f r (sI r1 g v) := by
  unfold GK
  rw [gi_sI, if_neg h]; exact a
theorem GK.fai (hf : FKO f) (a : GK f r r1) : GK f r (faiF r1) := by
  unfold FKO at hf
  exact a.s (by omega)
theorem GK.tak (hf : FKO f) (a : GK f r r1) (c : Int32) : GK f r (takF r1 c) := by
  unfold takF; split
  · exact a.adv hf
  · exact a.fai hf
theorem GK.op (hf : FKO f) (a : GK f r r1) (x y z : Int32) : GK f r (opF r1 x y z) := by
  unfold opF; split
  · refine GK.adv hf ?_
    unfold opG
    unfold FKO at hf
    exact GK.s (r1 := tI (tI (tI (tI (tI (tI (tI (tI r1 39 (wN r1) (ai r1 39 (wN r1) + 1)) 40 (nbN r1) x) 41 (nbN r1) y) 42 (nbN r1) z) 43 (nbN r1) (gi r1 1449)) 44 (nbN r1) (-1)) 45 (nbN r1) (-1)) 46 (tn (gi r1 1455)) (nI (nbN r1))) a (by omega)
  · exact a.fai hf
theorem GK.opb (hf : FKO f) (a : GK f r r1) (q s : Nat) (x : Int32) : GK f r (opB r1 q s x) := GK.op hf a _ _ _
theorem GK.nl (hf : FKO f) (a : GK f r r1) {qc qw qa i : Nat} {sep : Int32} (hq : ¬ qc = 39) (hq2 : ¬ qa = 39) (n : Nat) : GK f r (nlF qc qw qa i sep n r1).1 := by
  unfold FKO at hf
  exact ((nl_keep (qc := qc) (qw := qw) (qa := qa) (i := i) (sep := sep) hq hq2 n r1).2.2 f (by omega) (by omega) (by omega) (by omega) (by omega)).trans a
theorem GK.ar (hf : FKO f) (a : GK f r r1) (s : Nat) (c : Int32) : GK f r (arF r1 s c).1 := by
  unfold arF
  split
  · exact a.nl hf (by decide) (by decide) 5
  · exact GK.tak hf (a.nl hf (by decide) (by decide) 5) c
theorem GK.t (a : GK f r r1) (q i : Nat) (v : Int32) : GK f r (tI r1 q i v) := a
theorem GK.l (a : GK f r r1) (q i : Nat) (v : Int64) : GK f r (tL r1 q i v) := a
theorem gk_rk (hf : FKO f) : GK f r (rkF r) := by
  unfold rkF
  have b0 : GK f r (advF r) := GK.rf.adv hf
  have a0 : GK f r (namF (advF r)) := b0.nam hf
  generalize namF (advF r) = r0 at *
  generalize advF r = rA at *
  have a1 : GK f r (rkB r0 (rkI r)) := by unfold rkB; exact (a0.l _ _ _).t _ _ _
  generalize rkB r0 (rkI r) = r1 at *
  have b1 := a1.adv hf
  have a2 := b1.nam hf
  generalize namF (advF r1) = r2 at *
  generalize advF r1 = r3 at *
  have a3 : GK f r (rkC r2 (rkI r)) := by unfold rkC; exact ((a2.l _ _ _).t _ _ _).t _ _ _
  generalize rkC r2 (rkI r) = r4 at *
  split
  · exact GK.rf.fai hf
  split
  · exact b0.fai hf
  split
  · exact a1.fai hf
  split
  · exact b1.fai hf
  split
  · exact a3.fai hf
  · exact (a3.adv hf).t _ _ _
theorem gk_rmG (hf : FKO f) (a : GK f r r1) (m : Nat) : GK f r (rmG r1 m) := by
  have a1 : GK f r (rmC r1 m) := by
    unfold rmC; split
    · exact GK.adv hf (r1 := tI r1 13 m (b2i true)) a
    · exact a
  unfold rmG
  generalize rmC r1 m = r2 at *
  have a2 : GK f r (rmD r2 m).1 := by
    unfold rmD; split
    · exact a1.nl hf (by decide) (by decide) 5
    · exact a1
  split
  · exact a2
  · generalize (rmD r2 m).1 = r3 at *
    unfold rmE
    split
    · exact GK.adv hf (r1 := rmU r3) a2
    · exact GK.op hf (r1 := rmU r3) a2 _ _ _
theorem gk_rm (hf : FKO f) : GK f r (rmF r) := by
  unfold rmF
  have b0 : GK f r (advF r) := GK.rf.adv hf
  have a0 : GK f r (namF (advF r)) := b0.nam hf
  generalize namF (advF r) = r0 at *
  generalize advF r = rA at *
  have a1 : GK f r (rmA r0 (rmI r)) := by unfold rmA; exact ((((a0.l _ _ _).t _ _ _).l _ _ _).t _ _ _).t _ _ _
  generalize rmA r0 (rmI r) = r1 at *
  split
  · exact GK.rf.fai hf
  split
  · exact b0.fai hf
  unfold rmB
  have b2 := a1.adv hf
  have a2 := b2.nam hf
  generalize namF (advF r1) = r2 at *
  generalize advF r1 = r3 at *
  split
  · split
    · exact b2.fai hf
    · have a3 : GK f r (rmO r2 (rmI r)) := by unfold rmO; exact (a2.l _ _ _).t _ _ _
      exact gk_rmG hf a3 _
  · exact gk_rmG hf a1 _
theorem gk_rs (hf : FKO f) : GK f r (rsF r) := by
  have a0 : GK f r (rsA r) := by
    unfold rsA rsL
    split
    · rfl
    · rfl
  unfold rsF
  generalize rsA r = r1 at *
  split
  · exact GK.rf.fai hf
  split
  · exact GK.opb hf (r1 := tI r1 19 (rsN r) 11) a0 _ _ _
  have a1 := a0.adv hf
  generalize advF r1 = r2 at *
  unfold rsK
  split
  · unfold rsK1
    exact GK.tak hf (r1 := tI r2 19 (rsN r) (if gl r 21450 = 25711 then 0 else if gl r 21450 = 422826041707 then 7 else 8)) a1 _
  split
  · unfold rsK2
    split
    · exact GK.fai hf (r1 := tI r2 19 (rsN r) (if gl r 21450 = 499968536439 then 2 else if gl r 21450 = 7562612 then 3 else 1)) a1
    · have a4 := GK.nam hf (a1.t 19 (rsN r) (if gl r 21450 = 499968536439 then 2 else if gl r 21450 = 7562612 then 3 else 1))
      generalize namF (tI r2 19 (rsN r) (if gl r 21450 = 499968536439 then 2 else if gl r 21450 = 7562612 then 3 else 1)) = r5 at *
      have a3 : GK f r (rsW r5 (rsN r)) := by unfold rsW; exact (a4.l _ _ _).t _ _ _
      generalize rsW r5 (rsN r) = r3 at *
      unfold rsK2b
      split
      · exact a3.opb hf _ _ _
      · exact a3.tak hf _
  split
  · unfold rsK3
    exact GK.opb hf (r1 := tI r2 19 (rsN r) (if gl r 21450 = 26982 then 4 else 10)) a1 _ _ _
  split
  · unfold rsK4
    exact GK.opb hf (r1 := tI r2 19 (rsN r) (if gl r 21450 = 512852847717 then 5 else 6)) a1 _ _ _
  · have a2 : GK f r (tI r2 19 (rsN r) 9) := a1
    unfold rsK5
    generalize tI r2 19 (rsN r) 9 = r3 at *
    split
    · split
      · exact a2.ar hf _ _
      · exact GK.opb hf (a2.ar hf _ _) _ _ _
    · exact a2.opb hf _ _ _
theorem gk_rc (hf : FKO f) (a : GK f r r1) (s : Nat) : GK f r (rcF r1 s) := by
  unfold rcF
  split
  · exact a.fai hf
  have a1 : GK f r (tI (advF r1) 36 (4 * s + tn (ai r1 32 s)) 0) := (a.adv hf).t _ _ _
  generalize tI (advF r1) 36 (4 * s + tn (ai r1 32 s)) 0 = r2 at *
  unfold rcB
  split
  · have a2 : GK f r (nlF 36 37 38 (4 * s + tn (ai r1 32 s)) 124 5 r2).1 := a1.nl hf (by decide) (by decide) 5
    split
    · exact a2
    · generalize (nlF 36 37 38 (4 * s + tn (ai r1 32 s)) 124 5 r2).1 = r3 at *
      unfold rcC
      split
      · exact a2.fai hf
      · have a3 := a2.nam hf
        generalize namF r3 = r4 at *
        unfold rcD
        split
        · have a4 : GK f r (advF (rcP r4 (4 * s + tn (ai r1 32 s)))) := GK.adv hf (r1 := rcP r4 (4 * s + tn (ai r1 32 s))) a3
          generalize advF (rcP r4 (4 * s + tn (ai r1 32 s))) = r5 at *
          unfold rcE
          exact GK.op hf (r1 := rcU r5 s) a4 _ _ _
        · exact GK.fai hf (r1 := rcP r4 (4 * s + tn (ai r1 32 s))) a3
  · exact a1.fai hf
theorem gk_cl (hf : FKO f) : GK f r (clF r) := by
  have a0 : GK f r (clA r) := by
    unfold clA
    refine GK.adv hf ?_
    unfold FKO at hf
    exact GK.rf.s (by omega)
  unfold clF
  generalize clA r = r1 at *
  unfold clB
  split
  · exact a0.tak hf _
  split
  · split
    · exact GK.opb hf (a0.adv hf) _ _ _
    · exact a0
  split
  · split
    · exact a0.ar hf _ _
    · exact a0.tak hf _
  split
  · unfold beF
    split
    · exact gk_rc hf a0 _
    split
    · exact GK.opb hf (a0.adv hf) _ _ _
    split
    · exact a0.fai hf
    · exact a0
  · exact a0
theorem gk_turn (hf : FKO f) : GK f r (stpF r) := by
  unfold stpF
  split
  · split
    · exact gk_rk hf
    · split
      · exact gk_rm hf
      · exact GK.rf.fai hf
  · split
    · exact gk_cl hf
    · exact gk_rs hf
end
theorem gk_go {f : Nat} (hf : FKO f) : ∀ {n : Nat} {r r' : RV}, goN n r r' → gi r' f = gi r f := by
  intro n
  induction n with
  | zero => intro r r' g; rw [show r' = r from g]
  | succ n ih =>
    intro r r' g
    exact (ih g.2.2).trans (gk_turn hf)
