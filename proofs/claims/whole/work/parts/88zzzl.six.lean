/-! A block of a catch has the catch's number -/
def N6 (r x : RV) : Prop := SW r x ∨ (ai x 40 (nbN r) = 6 → ∃ i, ai x 42 (nbN r) = nI i ∧ i < tn (ai x 32 (tn (ai x 41 (nbN r)))) ∧ cnt (ai x 32 (tn (ai x 41 (nbN r)))) 4)
section
variable {r r1 : RV}
theorem SW.fai (a : SW r r1) : SW r (faiF r1) := ⟨(gi_fai r1).trans a.1, a.2⟩
theorem SW.tak (a : SW r r1) (c : Int32) : SW r (takF r1 c) := by
  unfold takF; split
  · exact a.adv
  · exact a.fai
theorem SW.ar (a : SW r r1) (s : Nat) (c : Int32) : SW r (arF r1 s c).1 := by
  unfold arF
  split
  · exact a.nl (by decide) (by decide) 5
  · exact SW.tak (a.nl (by decide) (by decide) 5) c
theorem n6_op {x : RV} {q j : Nat} {v what own num : Int32} (a : SW r x) (h6 : what = 6 → ∃ i, num = nI i ∧ i < tn (ai x 32 (tn own)) ∧ cnt (ai x 32 (tn own)) 4) (hq : q < 32 ∨ q = 33) : N6 r (tI (opF x what own num) q j v) := by
  cases z : okO x with
  | false =>
    refine Or.inl (SW.t ?_ _ (by omega))
    unfold opF
    rw [if_neg (by rw [z]; decide)]
    exact a.fai
  | true =>
    refine Or.inr (fun e => ?_)
    have eb : nbN r = nbN x := a.b.symm
    rw [eb] at e ⊢
    rw [ai_ne (by omega), op_ai z] at e
    have e : what = 6 := by simpa using e
    obtain ⟨i, q2, q3⟩ := h6 e
    have e41 : ai (tI (opF x what own num) q j v) 41 (nbN x) = own := by rw [ai_ne (by omega), op_ai z]; simp
    refine ⟨i, ?_, ?_⟩
    · rw [ai_ne (by omega), op_ai z, ← q2]; simp
    · rw [e41, ai_ne (by omega), ai_op (by omega)]; exact q3
theorem n6_opb {q s : Nat} {what : Int32} (a : SW r r1) (h6 : ¬ what = 6) (hq : q < 32 ∨ q = 33) : N6 r (opB r1 q s what) := by
  unfold opB
  exact n6_op a (fun e => absurd e h6) hq
theorem n6_rk : N6 r (rkF r) := by
  unfold rkF
  have b0 : SW r (advF r) := SW.rf.adv
  have a0 : SW r (namF (advF r)) := b0.nam
  generalize namF (advF r) = r0 at *
  generalize advF r = rA at *
  have a1 : SW r (rkB r0 (rkI r)) := by unfold rkB; exact (SW.l a0 _).t _ (by decide)
  generalize rkB r0 (rkI r) = r1 at *
  have b1 := a1.adv
  have a2 := b1.nam
  generalize namF (advF r1) = r2 at *
  generalize advF r1 = r3 at *
  have a3 : SW r (rkC r2 (rkI r)) := by unfold rkC; exact ((SW.l a2 _).t _ (by decide)).t _ (by decide)
  generalize rkC r2 (rkI r) = r4 at *
  refine Or.inl ?_
  split
  · exact SW.rf.fai
  split
  · exact b0.fai
  split
  · exact a1.fai
  split
  · exact b1.fai
  split
  · exact a3.fai
  · exact SW.t a3.adv _ (by decide)
theorem n6_rmG (a : SW r r1) (m : Nat) : N6 r (rmG r1 m) := by
  have a1 : SW r (rmC r1 m) := by
    unfold rmC; split
    · exact SW.adv (SW.t a _ (by decide))
    · exact SW.t a _ (by decide)
  unfold rmG
  generalize rmC r1 m = r2 at *
  have a2 : SW r (rmD r2 m).1 := by
    unfold rmD; split
    · exact a1.nl (by decide) (by decide) 5
    · exact a1
  split
  · exact Or.inl a2
  · generalize (rmD r2 m).1 = r3 at *
    have a3 : SW r (rmU r3) := by unfold rmU; exact SW.t a2 _ (by decide)
    unfold rmE
    split
    · exact Or.inl a3.adv
    · exact n6_op a3 (fun e => absurd e (by decide)) (by omega)
theorem n6_rm : N6 r (rmF r) := by
  unfold rmF
  have b0 : SW r (advF r) := SW.rf.adv
  have a0 : SW r (namF (advF r)) := b0.nam
  generalize namF (advF r) = r0 at *
  generalize advF r = rA at *
  have a1 : SW r (rmA r0 (rmI r)) := by unfold rmA; exact SW.t (SW.t (SW.l (SW.t (SW.l a0 _) _ (by decide)) _) _ (by decide)) _ (by decide)
  generalize rmA r0 (rmI r) = r1 at *
  split
  · exact Or.inl SW.rf.fai
  split
  · exact Or.inl b0.fai
  unfold rmB
  have b2 := a1.adv
  have a2 := b2.nam
  generalize namF (advF r1) = r2 at *
  generalize advF r1 = r3 at *
  split
  · split
    · exact Or.inl b2.fai
    · have a3 : SW r (rmO r2 (rmI r)) := by unfold rmO; exact SW.t (SW.l a2 _) _ (by decide)
      exact n6_rmG a3 _
  · exact n6_rmG a1 _
theorem n6_rs : N6 r (rsF r) := by
  have a0 : SW r (rsA r) := SW_rsA
  unfold rsF
  generalize rsA r = r1 at *
  split
  · exact Or.inl SW.rf.fai
  split
  · exact n6_opb (SW.t a0 _ (by decide)) (by decide) (by omega)
  have a1 := a0.adv
  generalize advF r1 = r2 at *
  unfold rsK
  split
  · unfold rsK1
    exact Or.inl (SW.tak (SW.t a1 _ (by decide)) _)
  split
  · unfold rsK2
    split
    · exact Or.inl (SW.fai (SW.t a1 _ (by decide)))
    · have a4 := SW.nam (a1.t (q := 19) (i := rsN r) (if gl r 21450 = 499968536439 then 2 else if gl r 21450 = 7562612 then 3 else 1) (by decide))
      generalize namF (tI r2 19 (rsN r) (if gl r 21450 = 499968536439 then 2 else if gl r 21450 = 7562612 then 3 else 1)) = r5 at *
      have a3 : SW r (rsW r5 (rsN r)) := by unfold rsW; exact SW.t (SW.l a4 _) _ (by decide)
      generalize rsW r5 (rsN r) = r3 at *
      unfold rsK2b
      split
      · exact n6_opb a3 (by decide) (by omega)
      · exact Or.inl (a3.tak _)
  split
  · unfold rsK3
    exact n6_opb (SW.t a1 _ (by decide)) (by split <;> decide) (by omega)
  split
  · unfold rsK4
    exact n6_opb (SW.t a1 _ (by decide)) (by decide) (by omega)
  · have a2 : SW r (tI r2 19 (rsN r) 9) := SW.t a1 _ (by decide)
    unfold rsK5
    generalize tI r2 19 (rsN r) 9 = r3 at *
    split
    · split
      · exact Or.inl (a2.ar _ _)
      · exact n6_opb (a2.ar _ _) (by decide) (by omega)
    · exact n6_opb a2 (by decide) (by omega)
theorem n6_rc (a : SW r r1) {s : Nat} (hs : s < 2 ^ 31) (c32 : cnt (ai r1 32 s) 4) : N6 r (rcF r1 s) := by
  unfold rcF
  split
  · exact Or.inl a.fai
  rename_i z4
  have clt : tn (ai r1 32 s) < 4 := by
    have := c32.2
    rcases Nat.lt_or_ge (tn (ai r1 32 s)) 4 with x | x
    · exact x
    · exact absurd (by rw [c32.1, show tn (ai r1 32 s) = 4 by omega]; rfl) z4
  have a1 : SW r (tI (advF r1) 36 (4 * s + tn (ai r1 32 s)) 0) := SW.t a.adv _ (by decide)
  have e2 : ai (tI (advF r1) 36 (4 * s + tn (ai r1 32 s)) 0) 32 = ai r1 32 := by rw [ai_ne (by decide), ai_adv]
  generalize 4 * s + tn (ai r1 32 s) = c at *
  generalize tI (advF r1) 36 c 0 = r2 at *
  unfold rcB
  split
  · have a2 : SW r (nlF 36 37 38 c 124 5 r2).1 := a1.nl (by decide) (by decide) 5
    have k := (nl_keep (qc := 36) (qw := 37) (qa := 38) (i := c) (sep := 124) (by decide) (by decide) 5 r2).2.1 32 (by decide) (by decide)
    rw [e2] at k
    split
    · exact Or.inl a2
    · generalize (nlF 36 37 38 c 124 5 r2).1 = r3 at *
      unfold rcC
      split
      · exact Or.inl a2.fai
      · have a3 := a2.nam
        have e4 : ai (namF r3) 32 = ai r1 32 := by rw [ai_nam, k]
        generalize namF r3 = r4 at *
        have a4 : SW r (rcP r4 c) := by unfold rcP; exact SW.t (SW.l a3 _) _ (by decide)
        have e5 : ai (rcP r4 c) 32 = ai r1 32 := by unfold rcP; rw [ai_ne (by decide), ai_tL, e4]
        unfold rcD
        generalize rcP r4 c = r5 at *
        split
        · have a6 := a4.adv
          have e6 : ai (advF r5) 32 = ai r1 32 := by rw [ai_adv, e5]
          generalize advF r5 = r6 at *
          unfold rcE
          have a7 : SW r (rcU r6 s) := by unfold rcU; exact SW.t a6 _ (by decide)
          have e8 : ai (rcU r6 s) 32 s = nI (tn (ai r1 32 s) + 1) := by
            unfold rcU
            rw [ai_tI, if_pos ⟨rfl, rfl⟩, e6, ← nI_add, ← lt1, ← c32.1]
          refine n6_op a7 (fun _ => ⟨tn (ai r1 32 s), ?_, ?_⟩) (by omega)
          · rw [e6]
            have : ∀ v : Int32, v + 1 - 1 = v := fun v => by simp
            rw [this]; exact c32.1
          · rw [tn_nI hs, e8]
            unfold cnt
            rw [tn_nI (by omega)]
            exact ⟨by omega, rfl, by omega⟩
        · exact Or.inl a4.fai
  · exact Or.inl a1.fai
theorem n6_cl (hc : ¬ ai r 40 (rsB r) = 0 → tn (ai r 41 (rsB r)) < 2 ^ 31 ∧ cnt (ai r 32 (tn (ai r 41 (rsB r)))) 4) : N6 r (clF r) := by
  have a0 : SW r (clA r) := by
    unfold clA
    exact SW.adv (SW.s SW.rf _ (by decide))
  have ea : ai (clA r) = ai r := by unfold clA; rw [ai_adv]; rfl
  unfold clF
  rw [← ea] at hc ⊢
  generalize ai (clA r) 40 (rsB r) = role at *
  generalize tn (ai (clA r) 41 (rsB r)) = s at *
  generalize clA r = r1 at *
  unfold clB
  split
  · exact Or.inl (a0.tak _)
  split
  · split
    · exact n6_opb a0.adv (by decide) (by omega)
    · exact Or.inl a0
  split
  · split
    · exact Or.inl (a0.ar _ _)
    · exact Or.inl (a0.tak _)
  split
  · rename_i z
    unfold beF
    split
    · obtain ⟨c1, c2⟩ := hc (by rcases z with z | z <;> rw [z] <;> decide)
      exact n6_rc a0 c1 c2
    split
    · exact n6_opb a0.adv (by decide) (by omega)
    split
    · exact Or.inl a0.fai
    · exact Or.inl a0
  · exact Or.inl a0
theorem n6_turn (A : RIL r) : N6 r (stpF r) := by
  unfold stpF
  split
  · split
    · exact n6_rk
    · split
      · exact n6_rm
      · exact Or.inl SW.rf.fai
  · rename_i d0
    split
    · rename_i g
      refine n6_cl (fun n0 => ?_)
      obtain ⟨-, -, -, -, cb⟩ := (RIL_pre A).2.2.2.1 d0 g
      rcases cb with cb | ⟨-, cb2, cb, -⟩
      · exact absurd cb n0
      · exact ⟨by omega, cb⟩
    · exact n6_rs
end
def I6 (r : RV) : Prop := ∀ b, wN r * 1024 ≤ b → b < nbN r → ai r 40 b = 6 → ∃ i, ai r 42 b = nI i ∧ i < tn (ai r 32 (tn (ai r 41 b))) ∧ cnt (ai r 32 (tn (ai r 41 b))) 4
theorem i6_turn {x : RV} (A : RIL x) (O : OST x (stpF x)) (U : UPD x) (W : OW (AT x) x (stpF x)) (I : I6 x) : I6 (stpF x) := by
  have F := fz_turn A O W FZ.rf
  have ew : wN (stpF x) = wN x := F.1.1
  have n6 := n6_turn A
  intro b h1 h2 h6
  rw [ew] at h1
  obtain ⟨o1, o2, o3, ⟨o4, o4'⟩, k, hk, o5⟩ := O
  by_cases z : b < nbN x
  · rw [F.2.2.1 42 b (by omega) (by omega) z, F.2.2.1 41 b (by omega) (by omega) z]
    rw [F.2.2.1 40 b (by omega) (by omega) z] at h6
    obtain ⟨i, i1, i2, i3⟩ := I b h1 z h6
    refine ⟨i, i1, ?_⟩
    obtain ⟨u1, u2, u3, u6, u4⟩ := U
    rcases u3 b h1 z with ⟨y, y2⟩ | ⟨y, s, j, g1, g2, g3, g4, -⟩
    · rw [h6] at y2; exact absurd y2 (by decide)
    · rw [g1, tn_nI (by omega)] at i2 i3 ⊢
      rcases cat_mono A s g3 with m | ⟨m, m2⟩
      · rw [m]; exact ⟨i2, i3⟩
      · have e : ai (stpF x) 32 s = nI (tn (ai x 32 s) + 1) := by rw [m, ← nI_add, ← lt1, ← i3.1]
        rw [e]
        unfold cnt
        rw [tn_nI (by omega)]
        exact ⟨by omega, rfl, by omega⟩
  · rcases n6 with n6 | n6
    · have := n6.b
      omega
    · have eb : b = nbN x := by
        rcases o5 with ⟨-, -, q⟩ | ⟨q1, q2, q3, q4, -⟩
        · omega
        · omega
      rw [eb] at h6 ⊢
      exact n6 h6
theorem i6_en {r R : RV} (E : ENR r R) (A : RIL r) (U : UPD r) (I : I6 r) : I6 R := ((en_ind (P := fun x => UPD x ∧ I6 x) (fun x A hr ok _ O W p => ⟨upd_turn A hr ok p.1, i6_turn A O p.1 W p.2⟩) E A ⟨U, I⟩).1).2
theorem i6_0 {r : RV} (h1 : nbC r = 0) : I6 r := fun b h2 h3 _ => by
  have : nbN r = wN r * 1024 + nbC r := rfl
  omega
/-- a block lies in at most 7 others -/
def DEP (r : RV) : Prop := ∃ dp : Nat → Nat, (∀ b, wN r * 1024 ≤ b → b < nbN r → dp b < 8 ∧ ∀ j, upB r b = some j → dp j < dp b) ∧ ∀ j, j < dN r → dp (obN r j) = j
theorem dep_turn {x : RV} (A : RIL x) (hr : rng x) (ok : gi (stpF x) 1452 = -1) (U : UPD x) (D : DEP x) : DEP (stpF x) := by
  obtain ⟨A', O⟩ := turn A hr ok
  have W := ow_turn (RIL_pre A)
  have U' := upd_turn A hr ok U
  have F := fz_turn A O W FZ.rf
  have sm := small A
  have sm' := small A'
  obtain ⟨o1, o2, o3, ⟨o4, o4'⟩, k, hk, o5⟩ := O
  obtain ⟨dp, d1, d2⟩ := D
  have ew : wN (stpF x) = wN x := F.1.1
  have dle := A'.d.2
  have dle0 := A.d.2
  have kd : k ≤ dN x := by
    rcases hk with ⟨z, -⟩ | ⟨z, -⟩ <;> omega
  have upk : ∀ b, wN x * 1024 ≤ b → b < nbN x → upB (stpF x) b = upB x b := fun b h1 h2 => by
    rcases U.2.2.1 b h1 h2 with ⟨y, -⟩ | ⟨-, s, j, g1, g2, g3, g4, g5, g6, g7⟩
    · rw [upB_none y, upB_none (by rw [F.2.2.1 41 b (by omega) (by omega) h2]; exact y)]
    · rw [upB_of (by rw [F.2.2.1 41 b (by omega) (by omega) h2]; exact g1) (by omega) (by rw [(F.2.1 21 s (by omega) g3).1]; exact g5) (by omega), upB_of g1 (by omega) g5 (by omega)]
  rcases o5 with ⟨q1, q2, q3⟩ | ⟨q1, q2, q3, q4, q5, -, q6⟩
  · refine ⟨dp, fun b h1 h2 => ?_, fun j hj => ?_⟩
    · rw [ew] at h1
      rw [q3] at h2
      rw [upk b h1 h2]
      exact d1 b h1 h2
    · rw [show obN (stpF x) j = obN x j by unfold obN; rw [q2]]
      exact d2 j (by omega)
  · have eo : obN (stpF x) k = nbN x := by unfold obN; rw [q3, tn_nI sm.2]
    refine ⟨fun b => if b = nbN x then k else dp b, fun b h1 h2 => ?_, fun j hj => ?_⟩
    · rw [ew] at h1
      show (if b = nbN x then k else dp b) < 8 ∧ ∀ j, upB (stpF x) b = some j → (if j = nbN x then k else dp j) < (if b = nbN x then k else dp b)
      by_cases z : b < nbN x
      · rw [if_neg (show ¬ b = nbN x by omega)]
        refine ⟨(d1 b h1 z).1, fun j hj => ?_⟩
        rw [upk b h1 z] at hj
        have := U.lt h1 z hj
        show (if j = nbN x then k else dp j) < dp b
        rw [if_neg (show ¬ j = nbN x by omega)]
        exact (d1 b h1 z).2 j hj
      · have eb : b = nbN x := by omega
        rw [if_pos eb]
        refine ⟨by omega, fun j hj => ?_⟩
        rw [eb] at hj
        have l := U'.lt (by rw [ew]; omega) (by omega) hj
        show (if j = nbN x then k else dp j) < k
        rw [if_neg (show ¬ j = nbN x by omega)]
        rw [ew] at l
        rcases q6 with q6 | ⟨q6, q7⟩ | ⟨q6, q7⟩
        · rw [upB_none q6] at hj; cases hj
        · have qq : ¬ gi x 1455 = 0 ∧ ¬ gi x 1451 = 125 := by
            by_cases h : AT x 18 (wN x)
            · unfold AT at h
              rcases h with h | h | h | ⟨d0, h⟩ | ⟨d0, d1, h⟩ | ⟨d0, d1, n0, h⟩
              · omega
              · omega
              · omega
              · unfold ATo at h; omega
              · exact ⟨d0, d1⟩
              · omega
            · exfalso
              have := (W 18 _ h).1
              have : rsN (stpF x) = rsN x := by unfold rsN; rw [ew, this]
              omega
          have dpos := dN_pos A qq.1
          have n1 := (inb_rs A hr qq.1 qq.2 ok).1
          rw [upB_of q6 sm.1 n1 (by have := (A.o (j := dN x - 1) (by omega)).2.2.1; have e : rsB x = obN x (dN x - 1) := rfl; omega)] at hj
          have e : rsB x = j := Option.some.inj hj
          have e2 : dp (obN x (dN x - 1)) = dN x - 1 := d2 _ (by omega)
          have e3 : obN x (dN x - 1) = j := e
          rw [e3] at e2
          have kk : k = dN x := by
            rcases hk with ⟨z, -⟩ | ⟨z, z2⟩
            · exact z
            · exact absurd z2 qq.2
          omega
        · have dpos : 0 < dN x := by omega
          obtain ⟨-, l1, l2, -⟩ := A.o (j := dN x - 1) (by omega)
          have ek : obN x (dN x - 1) = rsB x := rfl
          rw [ek] at l1 l2
          have e : upB x (rsB x) = some j := by
            rw [← hj, ← upk _ l1 l2]
            unfold upB
            rw [q6, F.2.2.1 41 (rsB x) (by omega) (by omega) l2]
          have := (d1 _ l1 l2).2 j e
          have e2 := d2 (dN x - 1) (by omega)
          rw [ek] at e2
          omega
    · show (if obN (stpF x) j = nbN x then k else dp (obN (stpF x) j)) = j
      by_cases z : j = k
      · rw [z, if_pos eo]
      · have e : obN (stpF x) j = obN x j := by unfold obN; rw [q2 j (by omega)]
        have := (A.o (j := j) (by omega)).2.2.1
        rw [e, if_neg (by omega)]
        exact d2 j (by omega)
theorem dep_en {r R : RV} (E : ENR r R) (A : RIL r) (U : UPD r) (I : DEP r) : DEP R := ((en_ind (P := fun x => UPD x ∧ DEP x) (fun x A hr ok _ _ _ p => ⟨upd_turn A hr ok p.1, dep_turn A hr ok p.1 p.2⟩) E A ⟨U, I⟩).1).2
theorem dep_0 {r : RV} (h1 : nbC r = 0) (h2 : dN r = 0) : DEP r := ⟨fun _ => 0, fun b h3 h4 => by
  have : nbN r = wN r * 1024 + nbC r := rfl
  omega, fun j hj => by omega⟩
