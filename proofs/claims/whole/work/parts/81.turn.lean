/-! What a turn of the reading writes -/
def OW (A : Nat → Nat → Prop) (r r' : RV) : Prop := ∀ q i, ¬ A q i → ai r' q i = ai r q i ∧ al r' q i = al r q i
section
variable {A : Nat → Nat → Prop} {r r1 r2 r' : RV}
theorem OW.rf : OW A r r := fun _ _ _ => ⟨rfl, rfl⟩
theorem OW.tr (a : OW A r r1) (b : OW A r1 r2) : OW A r r2 := fun q i n => ⟨(b q i n).1.trans (a q i n).1, (b q i n).2.trans (a q i n).2⟩
theorem OW.mono {B : Nat → Nat → Prop} (m : ∀ q i, A q i → B q i) (a : OW A r r1) : OW B r r1 := fun q i n => a q i (fun z => n (m _ _ z))
theorem OW.t (a : OW A r r1) {q i : Nat} (v : Int32) (h : A q i) : OW A r (tI r1 q i v) := fun k j n => by
  refine ⟨?_, (a k j n).2⟩
  rw [ai_tI, if_neg (by rintro ⟨rfl, rfl⟩; exact n h)]
  exact (a k j n).1
theorem OW.l (a : OW A r r1) {q i : Nat} (v : Int64) (h : A q i) : OW A r (tL r1 q i v) := fun k j n => by
  refine ⟨(a k j n).1, ?_⟩
  rw [al_tL, if_neg (by rintro ⟨rfl, rfl⟩; exact n h)]
  exact (a k j n).2
theorem OW.s (a : OW A r r1) (f : Nat) (v : Int32) : OW A r (sI r1 f v) := a
theorem OW.sl (a : OW A r r1) (f : Nat) (v : Int64) : OW A r (sL r1 f v) := a
theorem OW.adv (a : OW A r r1) : OW A r (advF r1) := fun k j n => by rw [ai_adv, al_adv]; exact a k j n
theorem OW.nam (a : OW A r r1) : OW A r (namF r1) := fun k j n => by rw [ai_nam, al_nam]; exact a k j n
theorem OW.fai (a : OW A r r1) : OW A r (faiF r1) := a
theorem OW.tak (a : OW A r r1) (c : Int32) : OW A r (takF r1 c) := by
  unfold takF; split
  · exact a.adv
  · exact a.fai
theorem OW.nl {qc qw qa i : Nat} {sep : Int32} (h1 : A qc i) (h2 : ∀ j, j < 4 → A qw (4 * i + j)) (h3 : ∀ j, j < 4 → A qa (4 * i + j)) (hq : ¬ qc = qa) : ∀ f r1, OW A r r1 → cnt (ai r1 qc i) 4 → OW A r (nlF qc qw qa i sep f r1).1 := by
  intro f
  induction f with
  | zero => intro r1 a _; exact a
  | succ f ih =>
    intro r1 a hc
    have hc2 := hc.2
    rw [nlF]
    split
    · exact a.adv.fai
    · rename_i z
      have hlt : tn (ai r1 qc i) < 4 := by
        rcases Nat.lt_or_ge (tn (ai r1 qc i)) 4 with y | y
        · exact y
        · exact absurd (by rw [hc.1, show tn (ai r1 qc i) = 4 by omega]; rfl) z
      split
      · exact a.adv.fai
      · have e0 : ai (namF (advF r1)) qc i = ai r1 qc i := by rw [ai_nam, ai_adv]
        have st : OW A r (nlS qc qw qa i (namF (advF r1))) := by
          unfold nlS
          rw [e0]
          exact ((a.adv.nam.l _ (h2 _ hlt)).t _ (h3 _ hlt)).t _ h1
        split
        · refine ih _ st ?_
          rw [aiq_nlS, e0, hc.1, lt1, nI_add]
          exact ⟨by rw [tn_nI (by omega)], by rw [tn_nI (by omega)]; omega⟩
        · exact st
theorem OW.op (a : OW A r r1) (what own num : Int32) (h1 : A 39 (wN r1)) (h2 : ∀ q, 40 ≤ q → q ≤ 45 → A q (nbN r1)) (h3 : ∀ i, A 46 i) : OW A r (opF r1 what own num) := by
  unfold opF; split
  · unfold opG
    exact (((((((((a.t _ h1).t _ (h2 40 (by omega) (by omega))).t _ (h2 41 (by omega) (by omega))).t _ (h2 42 (by omega) (by omega))).t _ (h2 43 (by omega) (by omega))).t _ (h2 44 (by omega) (by omega))).t _ (h2 45 (by omega) (by omega))).t _ (h3 _)).s _ _).adv
  · exact a.fai
theorem OW.opb (a : OW A r r1) (q s : Nat) (what : Int32) (h0 : A q s) (h1 : A 39 (wN r1)) (h2 : ∀ q, 40 ≤ q → q ≤ 45 → A q (nbN r1)) (h3 : ∀ i, A 46 i) : OW A r (opB r1 q s what) := (OW.op a _ _ _ h1 h2 h3).t _ h0
end
/-- same half, same number of blocks -/
def SW (r r' : RV) : Prop := gi r' 1402 = gi r 1402 ∧ ai r' 39 = ai r 39
theorem SW.w {r r' : RV} (a : SW r r') : wN r' = wN r := by unfold wN; rw [a.1]
theorem SW.b {r r' : RV} (a : SW r r') : nbN r' = nbN r := by unfold nbN; rw [a.w, a.2]
theorem SW.adv {r r' : RV} (a : SW r r') : SW r (advF r') := ⟨(gi_adv r').trans a.1, by rw [ai_adv]; exact a.2⟩
theorem SW.nam {r r' : RV} (a : SW r r') : SW r (namF r') := ⟨(gi_nam r').trans a.1, by rw [ai_nam]; exact a.2⟩
theorem SW.rf {r : RV} : SW r r := ⟨rfl, rfl⟩
theorem SW.t {r r' : RV} (a : SW r r') {q i : Nat} (v : Int32) (h : ¬ q = 39) : SW r (tI r' q i v) := ⟨a.1, by rw [← a.2]; funext j; rw [ai_tI, if_neg (fun z => h z.1.symm)]⟩
theorem SW.l {r r' : RV} (a : SW r r') {q i : Nat} (v : Int64) : SW r (tL r' q i v) := a
theorem SW.s {r r' : RV} (a : SW r r') {f : Nat} (v : Int32) (h : ¬ f = 1402) : SW r (sI r' f v) := ⟨by rw [gi_sI, if_neg (fun z => h z.symm)]; exact a.1, a.2⟩
theorem SW.nl {r r' : RV} (a : SW r r') {qc qw qa i : Nat} {sep : Int32} (hq : ¬ qc = 39) (hq2 : ¬ qa = 39) (f : Nat) : SW r (nlF qc qw qa i sep f r').1 := by
  obtain ⟨k1, k2, k3⟩ := nl_keep (qc := qc) (qw := qw) (qa := qa) (i := i) (sep := sep) hq hq2 f r'
  exact ⟨(k3 1402 (by decide) (by decide) (by decide) (by decide) (by decide)).trans a.1, (k2 39 (fun z => hq z.symm) (fun z => hq2 z.symm)).trans a.2⟩
theorem SW_rsA {r : RV} : SW r (rsA r) := by
  have e1 : SW r (rsA3 (rsA2 (rsA1 r (rsN r)) (rsN r)) (rsN r)) := by
    unfold rsA3 rsA2 rsA1
    refine SW.t (SW.t (SW.t (SW.t (SW.t (SW.l (SW.t (SW.t (SW.t (SW.t (SW.t SW.rf _ ?_) _ ?_) _ ?_) _ ?_) _ ?_) _) _ ?_) _ ?_) _ ?_) _ ?_) _ ?_ <;> decide
  unfold rsA rsL
  refine SW.t ?_ _ (by decide)
  split
  · exact e1.t _ (by decide)
  · exact e1.t _ (by decide)
/-- what the end of a block may write of what was there -/
def ATi (r : RV) (q i : Nat) : Prop := ¬ ai r 40 (rsB r) = 0 ∧ (((q = 27 ∨ q = 28 ∨ q = 32) ∧ i = tn (ai r 41 (rsB r))) ∨ (ai r 40 (rsB r) = 8 ∧ ((q = 29 ∧ i = tn (ai r 41 (rsB r))) ∨ ((q = 30 ∨ q = 31) ∧ i / 4 = tn (ai r 41 (rsB r))))) ∨
    (33 ≤ q ∧ q ≤ 36 ∧ tn (ai r 32 (tn (ai r 41 (rsB r)))) < 4 ∧ i = 4 * tn (ai r 41 (rsB r)) + tn (ai r 32 (tn (ai r 41 (rsB r))))) ∨ ((q = 37 ∨ q = 38) ∧ tn (ai r 32 (tn (ai r 41 (rsB r)))) < 4 ∧ i / 4 = 4 * tn (ai r 41 (rsB r)) + tn (ai r 32 (tn (ai r 41 (rsB r))))))
/-- what a statement's turn may write -/
def ATs (r : RV) (q i : Nat) : Prop := ¬ ai r 18 (wN r) = 120 ∧ ((q = 18 ∧ i = wN r) ∨ ((19 ≤ q ∧ q ≤ 29 ∨ q = 32) ∧ i = rsN r) ∨ ((q = 30 ∨ q = 31) ∧ i / 4 = rsN r) ∨ (q = 23 ∧ ¬ ai r 45 (rsB r) = -1 ∧ i = tn (ai r 45 (rsB r))) ∨ ((q = 44 ∨ q = 45) ∧ i = rsB r))
/-- what a turn outside of blocks may write -/
def ATo (r : RV) (q i : Nat) : Prop := (gl r 21450 = 1802071652 ∧ ((q = 2 ∧ i = wN r) ∨ (3 ≤ q ∧ q ≤ 7 ∧ ¬ ai r 2 (wN r) = 16 ∧ i = rkI r))) ∨ (gl r 21450 = 7823737 ∧ ((q = 8 ∧ i = wN r) ∨ ((9 ≤ q ∧ q ≤ 14 ∨ q = 17) ∧ ¬ ai r 8 (wN r) = 12 ∧ i = rmI r) ∨ ((q = 15 ∨ q = 16) ∧ ¬ ai r 8 (wN r) = 12 ∧ i / 4 = rmI r)))
/-- what a turn may write -/
def AT (r : RV) (q i : Nat) : Prop := (q = 39 ∧ i = wN r) ∨ q = 46 ∨ (40 ≤ q ∧ q ≤ 45 ∧ i = nbN r) ∨ (gi r 1455 = 0 ∧ ATo r q i) ∨ (¬ gi r 1455 = 0 ∧ ¬ gi r 1451 = 125 ∧ ATs r q i) ∨ (¬ gi r 1455 = 0 ∧ gi r 1451 = 125 ∧ ATi r q i)
section
variable {r : RV}
theorem AT.w : AT r 39 (wN r) := Or.inl ⟨rfl, rfl⟩
theorem AT.o {i : Nat} : AT r 46 i := Or.inr (Or.inl rfl)
theorem AT.b {q : Nat} (h1 : 40 ≤ q) (h2 : q ≤ 45) : AT r q (nbN r) := Or.inr (Or.inr (Or.inl ⟨h1, h2, rfl⟩))
theorem AT.out {q i : Nat} (h : gi r 1455 = 0) (x : ATo r q i) : AT r q i := Or.inr (Or.inr (Or.inr (Or.inl ⟨h, x⟩)))
theorem AT.w0 (h0 : gi r 1455 = 0) (hw : gl r 21450 = 1802071652) : AT r 2 (wN r) := AT.out h0 (Or.inl ⟨hw, Or.inl ⟨rfl, rfl⟩⟩)
theorem AT.w8 (h0 : gi r 1455 = 0) (hw : gl r 21450 = 7823737) : AT r 8 (wN r) := AT.out h0 (Or.inr ⟨hw, Or.inl ⟨rfl, rfl⟩⟩)
theorem AT.k (h0 : gi r 1455 = 0) (hw : gl r 21450 = 1802071652) (hn : ¬ ai r 2 (wN r) = 16) {q : Nat} (h : 3 ≤ q ∧ q ≤ 7) : AT r q (rkI r) := AT.out h0 (Or.inl ⟨hw, Or.inr ⟨h.1, h.2, hn, rfl⟩⟩)
theorem AT.m (h0 : gi r 1455 = 0) (hw : gl r 21450 = 7823737) (hn : ¬ ai r 8 (wN r) = 12) {q : Nat} (h : 9 ≤ q ∧ q ≤ 14 ∨ q = 17) : AT r q (rmI r) := AT.out h0 (Or.inr ⟨hw, Or.inr (Or.inl ⟨h, hn, rfl⟩)⟩)
theorem AT.m4 (h0 : gi r 1455 = 0) (hw : gl r 21450 = 7823737) (hn : ¬ ai r 8 (wN r) = 12) {q j : Nat} (h : q = 15 ∨ q = 16) (hj : j < 4) : AT r q (4 * rmI r + j) := AT.out h0 (Or.inr ⟨hw, Or.inr (Or.inr ⟨h, hn, by omega⟩)⟩)
theorem AT.stm {q i : Nat} (h1 : ¬ gi r 1455 = 0) (h2 : ¬ gi r 1451 = 125) (x : ATs r q i) : AT r q i := Or.inr (Or.inr (Or.inr (Or.inr (Or.inl ⟨h1, h2, x⟩))))
theorem AT.ws (h1 : ¬ gi r 1455 = 0) (h2 : ¬ gi r 1451 = 125) (hn : ¬ ai r 18 (wN r) = 120) : AT r 18 (wN r) := AT.stm h1 h2 ⟨hn, Or.inl ⟨rfl, rfl⟩⟩
theorem AT.st (h1 : ¬ gi r 1455 = 0) (h2 : ¬ gi r 1451 = 125) (hn : ¬ ai r 18 (wN r) = 120) {q : Nat} (h : 19 ≤ q ∧ q ≤ 29 ∨ q = 32) : AT r q (rsN r) := AT.stm h1 h2 ⟨hn, Or.inr (Or.inl ⟨h, rfl⟩)⟩
theorem AT.s4 (h1 : ¬ gi r 1455 = 0) (h2 : ¬ gi r 1451 = 125) (hn : ¬ ai r 18 (wN r) = 120) {q j : Nat} (h : q = 30 ∨ q = 31) (hj : j < 4) : AT r q (4 * rsN r + j) := AT.stm h1 h2 ⟨hn, Or.inr (Or.inr (Or.inl ⟨h, by omega⟩))⟩
theorem AT.in {q i : Nat} (h1 : ¬ gi r 1455 = 0) (h2 : gi r 1451 = 125) (h : ATi r q i) : AT r q i := Or.inr (Or.inr (Or.inr (Or.inr (Or.inr ⟨h1, h2, h⟩))))
theorem ow_rk (h0 : gi r 1455 = 0) (hw : gl r 21450 = 1802071652) : OW (AT r) r (rkF r) := by
  unfold rkF rkB rkC
  by_cases hz : ai r 2 (wN r) = 16
  · rw [if_pos hz]; exact OW.rf.fai
  rw [if_neg hz]
  have a0 : OW (AT r) r (namF (advF r)) := OW.rf.adv.nam
  have a1 : OW (AT r) r (tI (tL (namF (advF r)) 3 (rkI r) (gl (namF (advF r)) 21453)) 4 (rkI r) (gi (namF (advF r)) 1454)) := (a0.l _ (AT.k h0 hw hz (by omega))).t _ (AT.k h0 hw hz (by omega))
  split
  · exact OW.rf.adv.fai
  split
  · exact a1.fai
  split
  · exact a1.adv.fai
  split
  · exact (((a1.adv.nam.l _ (AT.k h0 hw hz (by omega))).t _ (AT.k h0 hw hz (by omega))).t _ (AT.k h0 hw hz (by omega))).fai
  · exact (((a1.adv.nam.l _ (AT.k h0 hw hz (by omega))).t _ (AT.k h0 hw hz (by omega))).t _ (AT.k h0 hw hz (by omega))).adv.t _ (AT.w0 h0 hw)
theorem ow_rm (h0 : gi r 1455 = 0) (hw : gl r 21450 = 7823737) : OW (AT r) r (rmF r) := by
  unfold rmF
  by_cases hz : ai r 8 (wN r) = 12
  · rw [if_pos hz]; exact OW.rf.fai
  rw [if_neg hz]
  have a0 : OW (AT r) r (namF (advF r)) := OW.rf.adv.nam
  have s0 : SW r (namF (advF r)) := SW.rf.adv.nam
  have G : ∀ r1, OW (AT r) r r1 → SW r r1 → ai r1 14 (rmI r) = nI 0 → OW (AT r) r (rmG r1 (rmI r)) := by
    intro r1 a s c0
    have a1 : OW (AT r) r (rmC r1 (rmI r)) ∧ SW r (rmC r1 (rmI r)) ∧ ai (rmC r1 (rmI r)) 14 (rmI r) = nI 0 := by
      unfold rmC; split
      · refine ⟨(a.t _ (AT.m h0 hw hz (by omega))).adv, (s.t _ (by decide)).adv, ?_⟩
        rw [ai_adv, ai_tI, if_neg (fun z => absurd z.1 (by decide))]; exact c0
      · refine ⟨a.t _ (AT.m h0 hw hz (by omega)), s.t _ (by decide), ?_⟩
        rw [ai_tI, if_neg (fun z => absurd z.1 (by decide))]; exact c0
    obtain ⟨a1, s1, c1⟩ := a1
    unfold rmG
    generalize rmC r1 (rmI r) = r2 at *
    have a2 : OW (AT r) r (rmD r2 (rmI r)).1 ∧ SW r (rmD r2 (rmI r)).1 := by
      unfold rmD; split
      · exact ⟨OW.nl (AT.m h0 hw hz (by omega)) (fun j hj => AT.m4 h0 hw hz (by omega) hj) (fun j hj => AT.m4 h0 hw hz (by omega) hj) (by decide) 5 r2 a1 ⟨by rw [c1]; rfl, by rw [c1]; decide⟩, SW.nl s1 (by decide) (by decide) 5⟩
      · exact ⟨a1, s1⟩
    obtain ⟨a2, s2⟩ := a2
    split
    · exact a2
    · generalize (rmD r2 (rmI r)).1 = r3 at *
      unfold rmE rmU
      split
      · exact (a2.t _ (by rw [s2.w]; exact AT.w8 h0 hw)).adv
      · have s3 : SW r (tI r3 8 (wN r3) (ai r3 8 (wN r3) + 1)) := s2.t _ (by decide)
        exact (OW.op (a2.t _ (by rw [s2.w]; exact AT.w8 h0 hw)) _ _ _ (by rw [s3.w]; exact AT.w) (fun q h1 h2 => by rw [s3.b]; exact AT.b h1 h2) (fun i => AT.o)).t _ (AT.m h0 hw hz (by omega))
  split
  · exact OW.rf.adv.fai
  have aA : OW (AT r) r (rmA (namF (advF r)) (rmI r)) := by
    unfold rmA
    exact ((((a0.l _ (AT.m h0 hw hz (by omega))).t _ (AT.m h0 hw hz (by omega))).l _ (AT.m h0 hw hz (by omega))).t _ (AT.m h0 hw hz (by omega))).t _ (AT.m h0 hw hz (by omega))
  have sA : SW r (rmA (namF (advF r)) (rmI r)) := by
    unfold rmA
    exact (((((s0.l _).t _ (by decide)).l _).t _ (by decide)).t _ (by decide))
  have cA := ai14_rmA (namF (advF r)) (rmI r)
  generalize rmA (namF (advF r)) (rmI r) = r1 at *
  unfold rmB
  split
  · split
    · exact aA.adv.fai
    · refine G _ ?_ ?_ ?_
      · unfold rmO; exact (aA.adv.nam.l _ (AT.m h0 hw hz (by omega))).t _ (AT.m h0 hw hz (by omega))
      · unfold rmO; exact (sA.adv.nam.l _).t _ (by decide)
      · rw [ai14_rmO, ai_nam, ai_adv]; exact cA
  · exact G _ aA sA cA
theorem ow_rsA (hd : ¬ gi r 1455 = 0) (hg : ¬ gi r 1451 = 125) (hn : ¬ ai r 18 (wN r) = 120) : OW (AT r) r (rsA r) := by
  have e1 : OW (AT r) r (rsA3 (rsA2 (rsA1 r (rsN r)) (rsN r)) (rsN r)) := by
    unfold rsA3 rsA2 rsA1
    have w1 : wN (tI (tI (tI r 18 (wN r) (ai r 18 (wN r) + 1)) 20 (rsN r) (gi r 1449)) 21 (rsN r) (ai r 46 (tn (gi r 1455) - 1))) = wN r := rfl
    refine OW.t (OW.t (OW.t (OW.t (OW.t (OW.l (OW.t (OW.t (OW.t (OW.t (OW.t OW.rf _ (AT.ws hd hg hn)) _ ?_) _ ?_) _ ?_) _ ?_) _ ?_) _ ?_) _ ?_) _ ?_) _ ?_) _ ?_ <;> exact AT.st hd hg hn (by omega)
  have e45 : ai (rsA3 (rsA2 (rsA1 r (rsN r)) (rsN r)) (rsN r)) 45 (rsB r) = ai r 45 (rsB r) := by
    unfold rsA3 rsA2 rsA1
    simp [ai_tI, ai_tL]
  unfold rsA rsL
  refine OW.t ?_ _ (AT.stm hd hg ⟨hn, Or.inr (Or.inr (Or.inr (Or.inr ⟨Or.inr rfl, rfl⟩)))⟩)
  rw [e45]
  split
  · exact e1.t _ (AT.stm hd hg ⟨hn, Or.inr (Or.inr (Or.inr (Or.inr ⟨Or.inl rfl, rfl⟩)))⟩)
  · rename_i z
    exact e1.t _ (AT.stm hd hg ⟨hn, Or.inr (Or.inr (Or.inr (Or.inl ⟨rfl, z, rfl⟩)))⟩)
theorem ow_rs (hd : ¬ gi r 1455 = 0) (hg : ¬ gi r 1451 = 125) : OW (AT r) r (rsF r) := by
  unfold rsF
  by_cases hz : isSt r = false ∨ ai r 18 (wN r) = 120
  · rw [if_pos hz]; exact OW.rf.fai
  rw [if_neg hz]
  have hn : ¬ ai r 18 (wN r) = 120 := fun z => hz (Or.inr z)
  have a0 := ow_rsA hd hg hn
  have s0 : SW r (rsA r) := SW_rsA
  have c0 : ai (rsA r) 29 (rsN r) = nI 0 := by
    unfold rsA rsL
    rw [ai_tI, if_neg (fun z => absurd z.1 (by decide))]
    split
    · rw [ai_tI, if_neg (fun z => absurd z.1 (by decide))]; unfold rsA3; rw [ai_tI, if_neg (fun z => absurd z.1 (by decide)), ai_tI, if_pos ⟨rfl, rfl⟩]; rfl
    · rw [ai_tI, if_neg (fun z => absurd z.1 (by decide))]; unfold rsA3; rw [ai_tI, if_neg (fun z => absurd z.1 (by decide)), ai_tI, if_pos ⟨rfl, rfl⟩]; rfl
  generalize rsA r = r1 at *
  have B : ∀ r2 what, OW (AT r) r r2 → SW r r2 → OW (AT r) r (opB r2 26 (rsN r) what) := fun r2 what a s => OW.opb a 26 _ _ (AT.st hd hg hn (by omega)) (by rw [s.w]; exact AT.w) (fun q h1 h2 => by rw [s.b]; exact AT.b h1 h2) (fun i => AT.o)
  split
  · exact B _ _ (a0.t _ (AT.st hd hg hn (by omega))) (s0.t _ (by decide))
  have a1 := a0.adv
  have s1 := s0.adv
  have c1 : ai (advF r1) 29 (rsN r) = nI 0 := by rw [ai_adv]; exact c0
  generalize advF r1 = r2 at *
  have t1 : ∀ v, OW (AT r) r (tI r2 19 (rsN r) v) := fun v => a1.t _ (AT.st hd hg hn (by omega))
  have u1 : ∀ v, SW r (tI r2 19 (rsN r) v) := fun v => s1.t _ (by decide)
  unfold rsK
  split
  · exact (t1 _).tak _
  split
  · unfold rsK2
    generalize (if gl r 21450 = 499968536439 then (2 : Int32) else if gl r 21450 = 7562612 then 3 else 1) = v
    split
    · exact (t1 _).fai
    · have a3 : OW (AT r) r (rsW (namF (tI r2 19 (rsN r) v)) (rsN r)) := by
        unfold rsW
        exact ((t1 v).nam.l _ (AT.st hd hg hn (by omega))).t _ (AT.st hd hg hn (by omega))
      have s3 : SW r (rsW (namF (tI r2 19 (rsN r) v)) (rsN r)) := by
        unfold rsW
        exact ((u1 v).nam.l _).t _ (by decide)
      generalize rsW (namF (tI r2 19 (rsN r) v)) (rsN r) = r3 at *
      unfold rsK2b
      split
      · exact B _ _ a3 s3
      · exact a3.tak _
  split
  · exact B _ _ (t1 _) (u1 _)
  split
  · exact B _ _ (t1 _) (u1 _)
  · unfold rsK5
    have c2 : cnt (ai (tI r2 19 (rsN r) 9) 29 (rsN r)) 4 := by
      rw [ai_tI, if_neg (fun z => absurd z.1 (by decide)), c1]
      exact ⟨rfl, by decide⟩
    have a3 : OW (AT r) r (arF (tI r2 19 (rsN r) 9) (rsN r) 41).1 ∧ SW r (arF (tI r2 19 (rsN r) 9) (rsN r) 41).1 := by
      have n1 := OW.nl (sep := 44) (AT.st (r := r) (q := 29) hd hg hn (by omega)) (fun j hj => AT.s4 (r := r) (q := 30) hd hg hn (by omega) hj) (fun j hj => AT.s4 (r := r) (q := 31) hd hg hn (by omega) hj) (by decide) 5 _ (t1 9) c2
      have n2 := SW.nl (qc := 29) (qw := 30) (qa := 31) (i := rsN r) (sep := 44) (u1 9) (by decide) (by decide) 5
      unfold arF
      split
      · exact ⟨n1, n2⟩
      · refine ⟨n1.tak _, ?_⟩
        show SW r (takF _ _)
        unfold takF
        split
        · exact n2.adv
        · exact n2.s _ (by decide)
    split
    · split
      · exact a3.1
      · exact B _ _ a3.1 a3.2
    · exact B _ _ (t1 _) (u1 _)
/-- the owner of the block that ends -/
theorem ow_cl (hd : ¬ gi r 1455 = 0) (hg : gi r 1451 = 125) (hc : ¬ ai r 40 (rsB r) = 0 → cnt (ai r 32 (tn (ai r 41 (rsB r)))) 4 ∧ (ai r 40 (rsB r) = 8 → ai r 29 (tn (ai r 41 (rsB r))) = nI 0)) : OW (AT r) r (clF r) := by
  unfold clF
  have a0 : OW (AT r) r (clA r) := (OW.rf.s _ _).adv
  have s0 : SW r (clA r) := (SW.rf.s _ (by decide)).adv
  have e0 : ai (clA r) = ai r := by unfold clA; rw [ai_adv]; rfl
  generalize clA r = r1 at *
  unfold clB
  split
  · exact a0.tak _
  split
  · rename_i z1 z2
    have n0 : ¬ ai r 40 (rsB r) = 0 := by rw [z2]; decide
    split
    · exact OW.opb a0.adv 27 _ _ (AT.in hd hg ⟨n0, Or.inl ⟨by omega, rfl⟩⟩) (by rw [s0.adv.w]; exact AT.w) (fun q h1 h2 => by rw [s0.adv.b]; exact AT.b h1 h2) (fun i => AT.o)
    · exact a0
  split
  · rename_i z1 z2 z3
    have n0 : ¬ ai r 40 (rsB r) = 0 := by rw [z3]; decide
    split
    · have c2 : cnt (ai r1 29 (tn (ai r 41 (rsB r)))) 4 := by
        rw [e0, (hc n0).2 z3]; exact ⟨rfl, by decide⟩
      have n1 := OW.nl (sep := 44) (A := AT r) (i := tn (ai r 41 (rsB r))) (qc := 29) (qw := 30) (qa := 31) (AT.in hd hg ⟨n0, Or.inr (Or.inl ⟨z3, Or.inl ⟨rfl, rfl⟩⟩)⟩) (fun j hj => AT.in hd hg ⟨n0, Or.inr (Or.inl ⟨z3, Or.inr ⟨by omega, by omega⟩⟩)⟩) (fun j hj => AT.in hd hg ⟨n0, Or.inr (Or.inl ⟨z3, Or.inr ⟨by omega, by omega⟩⟩)⟩) (by decide) 5 _ a0 c2
      unfold arF
      split
      · exact n1
      · exact n1.tak _
    · exact a0.tak _
  split
  · rename_i z1 z2 z3 z4
    have n0 : ¬ ai r 40 (rsB r) = 0 := by rcases z4 with z | z <;> rw [z] <;> decide
    have hk := (hc n0).1
    generalize eo : tn (ai r 41 (rsB r)) = o at *
    unfold beF
    split
    · unfold rcF
      split
      · exact a0.fai
      · rename_i z6
        have hk2 := hk.2
        have hlt : tn (ai r 32 o) < 4 := by
          rcases Nat.lt_or_ge (tn (ai r 32 o)) 4 with y | y
          · exact y
          · exact absurd (by rw [e0, hk.1, show tn (ai r 32 o) = 4 by omega]; rfl) z6
        rw [e0]
        have I4 : ∀ q, 33 ≤ q → q ≤ 36 → AT r q (4 * o + tn (ai r 32 o)) := fun q h1 h2 => AT.in hd hg ⟨n0, Or.inr (Or.inr (Or.inl ⟨h1, h2, by rw [eo]; exact hlt, by rw [eo]⟩))⟩
        have I16 : ∀ q j, q = 37 ∨ q = 38 → j < 4 → AT r q (4 * (4 * o + tn (ai r 32 o)) + j) := fun q j h1 h2 => AT.in hd hg ⟨n0, Or.inr (Or.inr (Or.inr ⟨h1, by rw [eo]; exact hlt, by rw [eo]; omega⟩))⟩
        have I32 : AT r 32 o := AT.in hd hg ⟨n0, Or.inl ⟨by omega, by rw [eo]⟩⟩
        generalize 4 * o + tn (ai r 32 o) = c at *
        have a2 : OW (AT r) r (tI (advF r1) 36 c 0) := a0.adv.t _ (I4 36 (by omega) (by omega))
        have s2 : SW r (tI (advF r1) 36 c 0) := s0.adv.t _ (by decide)
        have c2 : ai (tI (advF r1) 36 c 0) 36 c = nI 0 := by rw [ai_tI, if_pos ⟨rfl, rfl⟩]; rfl
        generalize tI (advF r1) 36 c 0 = r2 at *
        unfold rcB
        split
        · have a3 := OW.nl (sep := 124) (I4 36 (by omega) (by omega)) (fun j hj => I16 37 j (by omega) hj) (fun j hj => I16 38 j (by omega) hj) (by decide) 5 r2 a2 ⟨by rw [c2]; rfl, by rw [c2]; decide⟩
          have s3 := SW.nl (qc := 36) (qw := 37) (qa := 38) (i := c) (sep := 124) s2 (by decide) (by decide) 5
          split
          · exact a3
          · generalize (nlF 36 37 38 c 124 5 r2).1 = r3 at *
            unfold rcC
            split
            · exact a3.fai
            · have a4 := a3.nam
              have s4 := s3.nam
              generalize namF r3 = r4 at *
              have a5 : OW (AT r) r (rcP r4 c) := (a4.l _ (I4 34 (by omega) (by omega))).t _ (I4 35 (by omega) (by omega))
              have s5 : SW r (rcP r4 c) := (s4.l _).t _ (by decide)
              unfold rcD
              generalize rcP r4 c = r5 at *
              split
              · have a6 := a5.adv
                have s6 := s5.adv
                generalize advF r5 = r6 at *
                unfold rcE
                have a7 : OW (AT r) r (rcU r6 o) := a6.t _ I32
                have s7 : SW r (rcU r6 o) := s6.t _ (by decide)
                generalize rcU r6 o = r7 at *
                exact (OW.op a7 _ _ _ (by rw [s7.w]; exact AT.w) (fun q h1 h2 => by rw [s7.b]; exact AT.b h1 h2) (fun i => AT.o)).t _ (I4 33 (by omega) (by omega))
              · exact a5.fai
        · exact a2.fai
    · split
      · exact OW.opb a0.adv 28 _ _ (AT.in hd hg ⟨n0, Or.inl ⟨by omega, by rw [eo]⟩⟩) (by rw [s0.adv.w]; exact AT.w) (fun q h1 h2 => by rw [s0.adv.b]; exact AT.b h1 h2) (fun i => AT.o)
      · split
        · exact a0.fai
        · exact a0
  · exact a0
end
