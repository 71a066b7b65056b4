/-! What the reference's judging asks for is there at the end of a right text -/
def KPL (r : RV) : Prop := ∀ k, 4 ≤ k → k < nkN r → pl (ai r 4 (wN r * 16 + k)) ∧ pl (ai r 7 (wN r * 16 + k))
theorem RIL.pl {r : RV} (A : RIL r) : pl (gi r 1449) := by
  obtain ⟨h1, h2, -⟩ := A.q
  refine ⟨?_, ?_⟩
  · have e : tn (gi r 1449) = qN r := rfl
    rw [e]; exact h1
  · have e : tn (gi r 1449) = qN r := rfl
    omega
theorem kpl_turn {x : RV} (A : RIL x) (hr : rng x) (ok : gi (stpF x) 1452 = -1) (W : OW (AT x) x (stpF x)) (K : KPL x) : KPL (stpF x) := by
  obtain ⟨A', O⟩ := turn A hr ok
  have ew : wN (stpF x) = wN x := by unfold wN; rw [O.1]
  intro k k4 hk
  rw [ew]
  have w2 := A.w2
  by_cases q : gi x 1455 = 0 ∧ gl x 21450 = 1802071652
  · have st : stpF x = rkF x := by
      unfold stpF
      rw [if_pos q.1, if_pos q.2]
    have ok' := ok
    rw [st] at ok'
    obtain ⟨f1, f2, f3, f4, f5, ⟨f6, f7⟩, v3, v4, v6, v7, v5⟩ := rk_f A hr.1 q.2 ok'
    rw [← st] at f6 v4 v7
    have nk' : nkN (stpF x) = nkN x + 1 := by
      unfold nkN
      rw [ew, f6, tn_nI (by omega)]
      rfl
    have rki : rkI x = wN x * 16 + nkN x := rfl
    by_cases z : k < nkN x
    · have no : ∀ g, g = 4 ∨ g = 7 → ai (stpF x) g (wN x * 16 + k) = ai x g (wN x * 16 + k) := fun g hg => (W g _ (fun h => by
        unfold AT at h
        rcases h with h | h | h | ⟨-, h⟩ | ⟨d1, -⟩ | ⟨d1, -⟩
        · omega
        · omega
        · omega
        · unfold ATo at h
          rcases h with ⟨-, h⟩ | ⟨-, h⟩
          · omega
          · omega
        · exact d1 q.1
        · exact d1 q.1)).1
      rw [no 4 (by omega), no 7 (by omega)]
      exact K k k4 z
    · have ek : k = nkN x := by omega
      rw [ek, ← rki, v4, v7]
      have M0 := MD.start A hr.1
      have M1 := M0.adv (ne_end A.1 (by rw [q.2]; decide))
      have M2 := M1.adv (ne_end M1.rt (okN_ne f1))
      have M3 := M2.adv (ne_end M2.rt (by rw [f2]; decide))
      exact ⟨M1.1.pl, M3.1.pl⟩
  · have no : ∀ g, 2 ≤ g ∧ g ≤ 7 → ∀ i, ai (stpF x) g i = ai x g i := fun g hg i => (W g i (fun h => by
      unfold AT at h
      rcases h with h | h | h | ⟨d0, h⟩ | ⟨d0, d1, h⟩ | ⟨d0, d1, n0, h⟩
      · omega
      · omega
      · omega
      · unfold ATo at h
        rcases h with ⟨h, -⟩ | ⟨-, h⟩
        · exact q ⟨d0, h⟩
        · omega
      · unfold ATs at h; omega
      · omega)).1
    have nk' : nkN (stpF x) = nkN x := by unfold nkN; rw [ew, no 2 (by omega)]
    rw [no 4 (by omega), no 7 (by omega)]
    exact K k k4 (by omega)
theorem kpl_en {r R : RV} (E : ENR r R) (A : RIL r) (I : KPL r) : KPL R := (en_ind (P := fun x => KPL x) (fun x A hr ok _ _ W p => kpl_turn A hr ok W p) E A I).1
/-- a method's body is a block or none -/
def K17 (m : Nat) (x : RV) : Prop := ai x 17 m = -1 ∨ ∃ b, ai x 17 m = nI b ∧ b < 2 ^ 31
section
variable {m : Nat} {x : RV}
theorem K17.cg {x' : RV} (a : K17 m x) (e : ai x' 17 m = ai x 17 m) : K17 m x' := by
  unfold K17; rw [e]; exact a
theorem K17.adv (a : K17 m x) : K17 m (advF x) := a.cg (by rw [ai_adv])
theorem K17.nam (a : K17 m x) : K17 m (namF x) := a.cg (by rw [ai_nam])
theorem K17.fai (a : K17 m x) : K17 m (faiF x) := a
theorem K17.t (a : K17 m x) {q i : Nat} (v : Int32) (h : ¬ 17 = q) : K17 m (tI x q i v) := a.cg (by rw [ai_ne h])
theorem K17.l (a : K17 m x) {q i : Nat} (v : Int64) : K17 m (tL x q i v) := a
theorem K17.nl (a : K17 m x) {qc qw qa i : Nat} {sep : Int32} (hq : ¬ qc = 39) (hq2 : ¬ qa = 39) (h1 : ¬ 17 = qc) (h2 : ¬ 17 = qa) (f : Nat) : K17 m (nlF qc qw qa i sep f x).1 := a.cg (by rw [(nl_keep (qc := qc) (qw := qw) (qa := qa) (i := i) (sep := sep) hq hq2 f x).2.1 17 h1 h2])
theorem k17_rmG (a : K17 m x) (nb : nbN x < 2 ^ 31) : K17 m (rmG x m) := by
  have s1 : SW x (rmC x m) := by
    unfold rmC; split
    · exact SW.adv (SW.t SW.rf _ (by decide))
    · exact SW.t SW.rf _ (by decide)
  have a1 : K17 m (rmC x m) := by
    unfold rmC; split
    · exact K17.adv (a.t _ (by decide))
    · exact a.t _ (by decide)
  unfold rmG
  generalize rmC x m = r2 at *
  have s2 : SW x (rmD r2 m).1 := by
    unfold rmD; split
    · exact s1.nl (by decide) (by decide) 5
    · exact s1
  have a2 : K17 m (rmD r2 m).1 := by
    unfold rmD; split
    · exact a1.nl (by decide) (by decide) (by decide) (by decide) 5
    · exact a1
  split
  · exact a2
  · generalize (rmD r2 m).1 = r3 at *
    have a3 : K17 m (rmU r3) := by unfold rmU; exact a2.t _ (by decide)
    have s3 : SW x (rmU r3) := by unfold rmU; exact s2.t _ (by decide)
    unfold rmE
    split
    · exact a3.adv
    · unfold K17
      rw [ai_tI, if_pos ⟨rfl, rfl⟩]
      unfold opV
      split
      · rw [s3.b]
        exact Or.inr ⟨_, rfl, nb⟩
      · exact Or.inl rfl
theorem k17_rm {r : RV} (nb : nbN r < 2 ^ 31) (ok : gi (rmF r) 1452 = -1) (n1 : ¬ gi (faiF r) 1452 = -1) (n2 : ¬ gi (faiF (advF r)) 1452 = -1) : K17 (rmI r) (rmF r) := by
  unfold rmF at ok ⊢
  have b0 : SW r (advF r) := SW.rf.adv
  have a0 : SW r (namF (advF r)) := b0.nam
  generalize rmI r = m at *
  split
  · rename_i z
    rw [if_pos z] at ok
    exact absurd ok n1
  split
  · rename_i z1 z
    rw [if_neg z1, if_pos z] at ok
    exact absurd ok n2
  clear ok n1 n2
  generalize namF (advF r) = r0 at *
  generalize advF r = rA at *
  have a1 : SW r (rmA r0 m) := by unfold rmA; exact SW.t (SW.t (SW.l (SW.t (SW.l a0 _) _ (by decide)) _) _ (by decide)) _ (by decide)
  have k1 : K17 m (rmA r0 m) := by
    unfold rmA K17
    rw [ai_tI, if_pos ⟨rfl, rfl⟩]; exact Or.inl rfl
  generalize rmA r0 m = r1 at *
  unfold rmB
  have b2 := a1.adv
  have a2 := b2.nam
  have kb := k1.adv
  have ka := kb.nam
  generalize namF (advF r1) = r2 at *
  generalize advF r1 = r3 at *
  split
  · split
    · exact kb.fai
    · have a3 : SW r (rmO r2 m) := by unfold rmO; exact SW.t (SW.l a2 _) _ (by decide)
      have k3 : K17 m (rmO r2 m) := by unfold rmO; exact K17.t (K17.l ka _) _ (by decide)
      exact k17_rmG k3 (by rw [a3.b]; exact nb)
  · exact k17_rmG k1 (by rw [a1.b]; exact nb)
end
def M17 (r : RV) : Prop := ∀ m, m < nmN r → K17 (wN r * 12 + m) r
theorem m17_turn {x : RV} (A : RIL x) (hr : rng x) (ok : gi (stpF x) 1452 = -1) (W : OW (AT x) x (stpF x)) (K : M17 x) : M17 (stpF x) := by
  obtain ⟨A', O⟩ := turn A hr ok
  have ew : wN (stpF x) = wN x := by unfold wN; rw [O.1]
  have sm := (small A).2
  have c8 := A.2.2.2.2.2.1
  intro m hm
  rw [ew]
  by_cases q : gi x 1455 = 0 ∧ gl x 21450 = 7823737
  · have st : stpF x = rmF x := by
      unfold stpF
      rw [if_pos q.1, if_neg (by rw [q.2]; decide), if_pos q.2]
    have nm' : nmN (stpF x) ≤ nmN x + 1 := by
      have e : nmN (stpF x) = tn (ai (rmF x) 8 (wN x)) := by unfold nmN; rw [ew, st]
      have e2 : nmN x = tn (ai x 8 (wN x)) := rfl
      rcases rm_8 x with y | y
      · rw [e, y]; omega
      · rw [e, y]
        unfold rmU
        rw [ai_tI, if_pos ⟨rfl, rfl⟩, c8.1, lt1, nI_add, tn_nI (by have := c8.2; omega)]
        omega
    have rmi : rmI x = wN x * 12 + nmN x := rfl
    by_cases z : m < nmN x
    · refine K17.cg (K m z) (W 17 _ (fun h => ?_)).1
      unfold AT at h
      rcases h with h | h | h | ⟨-, h⟩ | ⟨d1, -⟩ | ⟨d1, -⟩
      · omega
      · omega
      · omega
      · unfold ATo at h
        rcases h with ⟨-, h⟩ | ⟨-, h⟩
        · omega
        · omega
      · exact d1 q.1
      · exact d1 q.1
    · have em : m = nmN x := by omega
      rw [em, ← rmi, st]
      rw [st] at ok
      have M0 := MD.start A hr.1
      have M1 := M0.adv (ne_end A.1 (by rw [q.2]; decide))
      exact k17_rm sm ok M0.fai M1.fai
  · have no : ∀ g, g = 8 ∨ g = 17 → ∀ i, ai (stpF x) g i = ai x g i := fun g hg i => (W g i (fun h => by
      unfold AT at h
      rcases h with h | h | h | ⟨d0, h⟩ | ⟨d0, d1, h⟩ | ⟨d0, d1, n0, h⟩
      · omega
      · omega
      · omega
      · unfold ATo at h
        rcases h with ⟨-, h⟩ | ⟨h, -⟩
        · omega
        · exact q ⟨d0, h⟩
      · unfold ATs at h; omega
      · omega)).1
    have nm' : nmN (stpF x) = nmN x := by unfold nmN; rw [ew, no 8 (by omega)]
    exact K17.cg (K m (by omega)) (no 17 (by omega) _)
theorem m17_en {r R : RV} (E : ENR r R) (A : RIL r) (I : M17 r) : M17 R := (en_ind (P := fun x => M17 x) (fun x A hr ok _ _ W p => m17_turn A hr ok W p) E A I).1
theorem plp.pl {v : Int32} (h : plp v) : pl v := by
  obtain ⟨p, e, -, h2⟩ := h
  rw [e]
  unfold Jvm.Pilot.CThrowRulesLaw_law_r5179_b2991a.pl
  rw [tn_nI (by omega)]
  exact ⟨rfl, by omega⟩
theorem BK.rf {R : RV} {s : Nat} {v ro num : Int32} (B : BK R s v ro num) (sm : nbN R ≤ 2048) : rf v (wN R * 1024) (wN R * 1024 + nbC R) := by
  have e : nbN R = wN R * 1024 + nbC R := rfl
  rcases B with B | ⟨b, B, h1, h2, -⟩
  · exact Or.inl B
  · rw [B]
    refine Or.inr ?_
    rw [tn_nI (by omega)]
    exact ⟨rfl, h1, by omega⟩
theorem rf_idx {v : Int32} {lo hi n : Nat} (h : rf v lo hi) (l : hi ≤ n) : v = -1 ∨ idx v n := by
  rcases h with h | ⟨h1, h2, h3⟩
  · exact Or.inl h
  · exact Or.inr ⟨h1, by omega⟩
/-- the reference's judging asks for this -/
theorem bv_of {R : RV} {G : Nat → Nat → Nat} {par : Nat → Nat} {nk nm : Nat} (A : RIL R) (T : TRE R G nm) (K : KEQ R nk par) (I : I6 R) (em : nm = nmN R) (M : M17 R) (c14 : ∀ m, m < nm → cnt (ai R 14 (wN R * 12 + m)) 4) : BV R (wN R) nk nm (nsC R) (nbC R) := by
  have w2 := A.w2
  have s2 := A.s.2
  have b2 := A.b.2.1
  have er : rsN R = wN R * 120 + nsC R := rfl
  have eb : nbN R = wN R * 1024 + nbC R := rfl
  have sm : nbN R ≤ 2048 := by omega
  obtain ⟨k1, k2, k3, k4, k5⟩ := K
  have U := T.2.2.2.1
  have c8 := A.2.2.2.2.2.1
  have hS : ∀ s, wN R * 120 ≤ s → s < wN R * 120 + nsC R → cnt (ai R 29 s) 4 ∧ cnt (ai R 32 s) 4 ∧ SHP R s ∧ PLS R s := fun s h1 h2 => by
    obtain ⟨w1, w2, -, -, w3, w4⟩ := (T.2.1 s h1 (by omega)).1
    exact ⟨w1, w2, w3, w4⟩
  have h23 : ∀ s, wN R * 120 ≤ s → s < wN R * 120 + nsC R → rf (ai R 23 s) (s + 1) (wN R * 120 + nsC R) := fun s h1 h2 => by
    obtain ⟨b, rb, q1, q2, q3⟩ := home T h1 (by omega)
    have rg := rb.rg T
    obtain ⟨⟨-, -, -, -, wf⟩, g1, g2⟩ := T.2.2.1 b rg.1 rg.2
    obtain ⟨v1, v2, v3⟩ := wf s q2 q3 q1
    rw [v2]
    by_cases z : G 3 s = G 5 b
    · rw [if_pos z]; exact Or.inl rfl
    · rw [if_neg z]
      have := (T.2.1 s h1 (by omega)).1.2.2.1
      refine Or.inr ?_
      rw [tn_nI (by omega)]
      exact ⟨rfl, by omega, by omega⟩
  refine ⟨⟨A.w, w2, by rw [k1]; exact A.2.2.2.2.1.1.1, k2, k3, k5⟩, ⟨by rw [em]; exact c8.1, by rw [em]; exact c8.2, A.s.1, s2, c14, fun s h1 h2 => ?_⟩, by omega, fun s h1 h2 => ?_, fun b h1 h2 => ?_, fun m hm => ?_⟩
  · obtain ⟨c29, c32, ⟨k, -, -, B1, B2, B3, B4, -⟩, PL⟩ := hS s h1 h2
    refine ⟨c29, c32, fun i hi => ⟨(PL.2.2.2 i hi).1, rf_idx ((B4 i hi).1.rf sm) (by omega)⟩, ?_, rf_idx (B1.rf sm) (by omega), rf_idx (B2.rf sm) (by omega), rf_idx (B3.rf sm) (by omega)⟩
    rcases h23 s h1 h2 with z | ⟨z1, z2, z3⟩
    · exact Or.inl z
    · exact Or.inr ⟨⟨z1, z3⟩, by omega⟩
  · obtain ⟨c29, c32, ⟨k, -, -, B1, B2, B3, B4, -⟩, PL⟩ := hS s h1 h2
    obtain ⟨j, j1, j2, j3⟩ := U.2.2.2.2 s h1 (by omega)
    refine ⟨B1.rf sm, B2.rf sm, B3.rf sm, fun i hi => (B4 i hi).1.rf sm, Or.inr ?_, ?_, h23 s h1 h2⟩
    · rw [j1, tn_nI (by omega)]; exact ⟨rfl, j2, by omega⟩
    · rw [j1]; exact nI_ne_m1 (by omega)
  · obtain ⟨⟨-, g0, f1, f2, -⟩, g1, g2⟩ := T.2.2.1 b h1 (by omega)
    have h44 : rf (ai R 44 b) (wN R * 120) (wN R * 120 + nsC R) ∧ rf (ai R 45 b) (wN R * 120) (wN R * 120 + nsC R) := by
      by_cases z : G 4 b = G 5 b
      · exact ⟨Or.inl (f1 z).1, Or.inl (f1 z).2⟩
      · obtain ⟨y1, -, e, y2, y3, y4, -⟩ := f2 (by omega)
        refine ⟨Or.inr ?_, Or.inr ?_⟩
        · rw [y1, tn_nI (by omega)]; exact ⟨rfl, by omega, by omega⟩
        · rw [y2, tn_nI (by omega)]; exact ⟨rfl, by omega, by omega⟩
    refine ⟨h44.1, h44.2, ?_⟩
    rcases U.2.2.1 b h1 (by omega) with ⟨y1, y2⟩ | ⟨y, s, j, q1, q2, q3, q4, q5, q6, q7⟩
    · refine ⟨Or.inl y1, ⟨fun _ => y2, fun _ => y1⟩, fun z => ?_, fun z => absurd y1 z⟩
      rw [y2] at z; exact absurd z (by decide)
    · have n1 : ¬ ai R 41 b = -1 := by rw [q1]; exact nI_ne_m1 (by omega)
      refine ⟨Or.inr ?_, ⟨fun z => absurd z n1, fun z => absurd z y⟩, fun z => ?_, fun _ => ?_⟩
      · rw [q1, tn_nI (by omega)]; exact ⟨rfl, q2, by omega⟩
      · obtain ⟨i, i1, i2, i3⟩ := I b h1 (by omega) z
        have i4 := i3.2
        rw [i1, tn_nI (by omega)]
        exact ⟨rfl, i2⟩
      · rw [q1, tn_nI (by omega), q5, tn_nI (by omega)]; exact q7
  · rcases M m (by omega) with z | ⟨b, z, zb⟩
    · exact Or.inl z
    · have := T.1.2 b (bods_mem hm (by rw [z, oN_nI zb]))
      rw [z]
      refine Or.inr ?_
      rw [tn_nI zb]
      exact ⟨rfl, this.1.2, by omega⟩
theorem pv_of {R : RV} {G : Nat → Nat → Nat} {nm : Nat} (T : TRE R G nm) (P : KPL R) (w : ∀ m, m < nm → pl (ai R 10 (wN R * 12 + m)) ∧ (¬ al R 11 (wN R * 12 + m) = 0 → pl (ai R 12 (wN R * 12 + m))) ∧ ∀ i, i < tn (ai R 14 (wN R * 12 + m)) → pl (ai R 16 (4 * (wN R * 12 + m) + i))) : PV R (wN R) (nkN R) nm (nsC R) (nbC R) := by
  have er : rsN R = wN R * 120 + nsC R := rfl
  have eb : nbN R = wN R * 1024 + nbC R := rfl
  refine ⟨P, w, fun s h1 h2 => ?_, fun b h1 h2 => ?_⟩
  · obtain ⟨-, -, -, -, -, p1, p2, p3, p4⟩ := (T.2.1 s h1 (by omega)).1
    exact ⟨p1.pl, fun z => (p2 z).pl, fun i hi => (p3 i hi).pl, fun i hi => ⟨(p4 i hi).2.1.pl, fun j hj => ((p4 i hi).2.2 j hj).pl⟩⟩
  · exact ((T.2.2.1 b h1 (by omega)).1.1).pl
