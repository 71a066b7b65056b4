/-! Kinds and methods stay; what is told later stands later; the other half is left alone -/
theorem lo_turn {x : RV} (W : OW (AT x) x (stpF x)) (hd : ¬ gi x 1455 = 0) {q : Nat} (hq : q ≤ 17) (i : Nat) : ai (stpF x) q i = ai x q i ∧ al (stpF x) q i = al x q i := W q i (fun h => by
  unfold AT at h
  rcases h with h | h | h | ⟨d0, h⟩ | ⟨d0, d1, h⟩ | ⟨d0, d1, n0, h⟩
  · omega
  · omega
  · omega
  · exact hd d0
  · unfold ATs at h; omega
  · omega)
theorem dN_0 {r : RV} (h : 0 < dN r) : ¬ gi r 1455 = 0 := fun z => by
  have : dN r = 0 := by unfold dN; rw [z]; rfl
  omega
theorem goK_lo {k : Nat} : ∀ {n : Nat} {r r' : RV}, goK k n r r' → ∀ q i, q ≤ 17 → ai r' q i = ai r q i ∧ al r' q i = al r q i := by
  intro n
  induction n with
  | zero => intro r r' a q i _; rw [show r' = r from a]; exact ⟨rfl, rfl⟩
  | succ n ih =>
    intro r r' a q i hq
    have l := lo_turn (ow_turn a.2.1) (dN_0 (by have := a.2.2.1; omega)) hq i
    have j := ih a.2.2.2 q i hq
    exact ⟨j.1.trans l.1, j.2.trans l.2⟩
/-- what a told kind leaves -/
theorem rk_f {r : RV} (A : RIL r) (hr : gi r 1452 = -1) (hw : gl r 21450 = 1802071652) (ok : gi (rkF r) 1452 = -1) :
    okN (advF r) = true ∧ gl (advF (advF r)) 21450 = 422608400247 ∧ okN (advF (advF (advF r))) = true ∧ gi (advF (advF (advF (advF r)))) 1451 = 59 ∧ TE (advF (advF (advF (advF (advF r))))) (rkF r) ∧ (ai (rkF r) 2 (wN r) = nI (nkN r + 1) ∧ nkN r < 16) ∧
    (al (rkF r) 3 (rkI r) = gl (advF r) 21450 ∧ ai (rkF r) 4 (rkI r) = gi (advF r) 1449 ∧ al (rkF r) 6 (rkI r) = gl (advF (advF (advF r))) 21450 ∧ ai (rkF r) 7 (rkI r) = gi (advF (advF (advF r))) 1449 ∧ ai (rkF r) 5 (rkI r) = gi (advF (advF (advF (advF r)))) 1449) := by
  have M0 := MD.start A hr
  have M1 := M0.adv (ne_end A.1 (by rw [hw]; decide))
  have ck := A.2.2.2.2.1
  unfold rkF at ok ⊢
  by_cases z1 : ai r 2 (wN r) = 16
  · rw [if_pos z1] at ok; exact absurd ok M0.fai
  rw [if_neg z1] at ok ⊢
  have cl : nkN r < 16 := by
    have := ck.1.2
    unfold nkN
    rcases Nat.lt_or_ge (tn (ai r 2 (wN r))) 16 with y | y
    · exact y
    · exact absurd (by rw [ck.1.1, show tn (ai r 2 (wN r)) = 16 by omega]; rfl) z1
  have v2 : ai r 2 (wN r) + 1 = nI (nkN r + 1) := by
    have := ck.1.1
    rw [this, lt1, nI_add]
    rfl
  rw [v2] at ok ⊢
  by_cases z2 : okN (advF r) = false
  · rw [if_pos z2] at ok; exact absurd ok M1.fai
  rw [if_neg z2] at ok ⊢
  have M2 := M1.nam (bf z2)
  have t2 : TE (advF (advF r)) (namF (advF r)) := TE_nam
  have w2 := nam_w (advF r)
  have a2 := nam_a (advF r)
  refine ⟨bf z2, ?_⟩
  generalize advF r = b1 at *
  generalize namF b1 = r2 at *
  generalize advF b1 = b2 at *
  have M3 : MD r (dN r) 2 (rsN r) (rkB r2 (rkI r)) := MDtI (MDtL M2 _ _ _) _ _ (by decide)
  have t3 : TE b2 (rkB r2 (rkI r)) := t2.tr (TE_tL.tr (TE_tI (by decide)))
  have x3 : al (rkB r2 (rkI r)) 3 (rkI r) = gl b1 21450 := by unfold rkB; rw [al_tI, al_tL, if_pos ⟨rfl, rfl⟩, w2]
  have x4 : ai (rkB r2 (rkI r)) 4 (rkI r) = gi b1 1449 := by unfold rkB; rw [ai_tI, if_pos ⟨rfl, rfl⟩, a2]
  have g3 : gl r2 21450 = gl (rkB r2 (rkI r)) 21450 := by rw [gl_rkB]
  by_cases z3 : ¬ gl r2 21450 = 422608400247
  · rw [if_pos z3] at ok; exact absurd ok M3.fai
  rw [if_neg z3] at ok ⊢
  have z3 := Classical.not_not.mp z3
  refine ⟨t2.2.2.2.2.1.symm.trans z3, ?_⟩
  rw [g3] at z3
  generalize rkB r2 (rkI r) = r3 at *
  have M4 := M3.adv (ne_end M3.rt (by rw [z3]; decide))
  have t4 : TE (advF b2) (advF r3) := t3.adv
  by_cases z4 : okN (advF r3) = false
  · rw [if_pos z4] at ok; exact absurd ok M4.fai
  rw [if_neg z4] at ok ⊢
  refine ⟨by rw [← t4.okN]; exact bf z4, ?_⟩
  have M5 := M4.nam (bf z4)
  have t5 : TE (advF (advF b2)) (namF (advF r3)) := t4.adv.tr TE_nam
  have w5 := nam_w (advF r3)
  have a5 := nam_a (advF r3)
  rw [t4.2.2.2.2.1] at w5
  rw [t4.2.2.1] at a5
  have y3 : al (namF (advF r3)) 3 (rkI r) = gl b1 21450 := by rw [al_nam, al_adv]; exact x3
  have y4 : ai (namF (advF r3)) 4 (rkI r) = gi b1 1449 := by rw [ai_nam, ai_adv]; exact x4
  generalize namF (advF r3) = r5 at *
  generalize advF b2 = b3 at *
  have M6 : MD r (dN r) 4 (rsN r) (rkC r5 (rkI r)) := MDtI (MDtI (MDtL M5 _ _ _) _ _ (by decide)) _ _ (by decide)
  have t6 : TE (advF b3) (rkC r5 (rkI r)) := t5.tr (TE_tL.tr ((TE_tI (by decide)).tr (TE_tI (by decide))))
  have u3 : al (rkC r5 (rkI r)) 3 (rkI r) = gl b1 21450 := by unfold rkC; rw [al_tI, al_tI, al_tL, if_neg (fun z => absurd z.1 (by decide))]; exact y3
  have u4 : ai (rkC r5 (rkI r)) 4 (rkI r) = gi b1 1449 := by unfold rkC; rw [ai_ne (by decide), ai_ne (by decide), ai_tL]; exact y4
  have u6 : al (rkC r5 (rkI r)) 6 (rkI r) = gl b3 21450 := by unfold rkC; rw [al_tI, al_tI, al_tL, if_pos ⟨rfl, rfl⟩, w5]
  have u7 : ai (rkC r5 (rkI r)) 7 (rkI r) = gi b3 1449 := by unfold rkC; rw [ai_ne (by decide), ai_tI, if_pos ⟨rfl, rfl⟩, a5]
  have u5 : ai (rkC r5 (rkI r)) 5 (rkI r) = gi (advF b3) 1449 := by unfold rkC; rw [ai_tI, if_pos ⟨rfl, rfl⟩]; exact t5.2.2.1
  have g6 : gi r5 1451 = gi (rkC r5 (rkI r)) 1451 := by rw [gi_rkC]
  by_cases z6 : ¬ gi r5 1451 = 59
  · rw [if_pos z6] at ok; exact absurd ok M6.fai
  rw [if_neg z6] at ok ⊢
  have z6 := Classical.not_not.mp z6
  refine ⟨t5.2.2.2.1.symm.trans z6, ?_⟩
  generalize rkC r5 (rkI r) = r6 at *
  refine ⟨t6.adv.tr (TE_tI (by decide)), ⟨by rw [ai_tI, if_pos ⟨rfl, rfl⟩], cl⟩, ?_, ?_, ?_, ?_, ?_⟩
  · rw [al_tI, al_adv]; exact u3
  · rw [ai_ne (by decide), ai_adv]; exact u4
  · rw [al_tI, al_adv]; exact u6
  · rw [ai_ne (by decide), ai_adv]; exact u7
  · rw [ai_ne (by decide), ai_adv]; exact u5
/-- kinds that are told later stand later -/
theorem fk_en {r R : RV} (E : ENR r R) (A : RIL r) : wN R = wN r ∧ nkN r ≤ nkN R ∧ nkN R ≤ 16 ∧ (∀ q i, 3 ≤ q → q ≤ 7 → i < rkI r → ai R q i = ai r q i ∧ al R q i = al r q i) ∧ ∀ k, nkN r ≤ k → k < nkN R → ∃ p, ai R 5 (wN r * 16 + k) = nI p ∧ qN r ≤ p ∧ p < 2 ^ 31 := by
  have := (en_ind (P := fun x => FZ r x ∧ nkN r ≤ nkN x ∧ (∀ q i, 3 ≤ q → q ≤ 7 → i < rkI r → ai x q i = ai r q i ∧ al x q i = al r q i) ∧ ∀ k, nkN r ≤ k → k < nkN x → ∃ p, ai x 5 (wN r * 16 + k) = nI p ∧ qN r ≤ p ∧ p < 2 ^ 31) (fun x A hr ok A' O W p => ?_) E A ⟨FZ.rf, Nat.le_refl _, fun _ _ _ _ _ => ⟨rfl, rfl⟩, fun k h1 h2 => by omega⟩)
  · obtain ⟨⟨F, a, b, c⟩, RR⟩ := this
    exact ⟨F.1.1, a, RR.2.2.2.2.1.1.2, b, c⟩
  · obtain ⟨F, p1, p2, p3⟩ := p
    have fw := F.1.1
    have fq := F.1.2.2.2.1
    have ew : wN (stpF x) = wN x := by unfold wN; rw [O.1]
    refine ⟨fz_turn A O W F, ?_⟩
    by_cases d0 : gi x 1455 = 0
    · by_cases z : gl x 21450 = 1802071652
      · have st : stpF x = rkF x := by unfold stpF; rw [if_pos d0, if_pos z]
        have ok' := ok
        rw [st] at ok'
        obtain ⟨f1, f2, f3, f4, f5, ⟨f6, f7⟩, -, -, -, -, f8⟩ := rk_f A hr.1 z ok'
        have en : nkN (stpF x) = nkN x + 1 := by
          unfold nkN
          rw [ew, st, f6, tn_nI (by omega)]
          rfl
        have rki : rkI x = wN r * 16 + nkN x := by show wN x * 16 + nkN x = _; rw [fw]
        have rkr : rkI r = wN r * 16 + nkN r := rfl
        have M0 := MD.start A hr.1
        have M1 := M0.adv (ne_end A.1 (by rw [z]; decide))
        have M2 := M1.adv (ne_end M1.rt (okN_ne f1))
        have M3 := M2.adv (ne_end M2.rt (by rw [f2]; decide))
        have M4 := M3.adv (ne_end M3.rt (okN_ne f3))
        have q4 := M4.1.q
        have l4 := M4.2.2.2.2.2.2.2.2
        refine ⟨by omega, fun q i h1 h2 h3 => ?_, fun k h1 h2 => ?_⟩
        · have := W q i (fun h => by
            unfold AT ATo ATs ATi at h
            omega)
          exact ⟨this.1.trans (p2 q i h1 h2 h3).1, this.2.trans (p2 q i h1 h2 h3).2⟩
        · by_cases y : k = nkN x
          · refine ⟨qN (advF (advF (advF (advF x)))), ?_, by omega, by omega⟩
            rw [y, ← rki, st, f8]
            exact q4.1
          · have := W 5 (wN r * 16 + k) (fun h => by
              unfold AT ATo ATs ATi at h
              omega)
            rw [this.1]
            exact p3 k h1 (by omega)
      · have keep : ∀ q i, q ≤ 7 → ¬ q = 1 ∨ True → ai (stpF x) q i = ai x q i ∧ al (stpF x) q i = al x q i := fun q i hq _ => W q i (fun h => by
          unfold AT at h
          rcases h with h | h | h | ⟨-, h⟩ | ⟨d1, -⟩ | ⟨d1, -⟩
          · omega
          · omega
          · omega
          · unfold ATo at h
            rcases h with ⟨h, -⟩ | ⟨-, h⟩
            · exact z h
            · omega
          · exact d1 d0
          · exact d1 d0)
        have en : nkN (stpF x) = nkN x := by unfold nkN; rw [ew, (keep 2 _ (by omega) (Or.inr trivial)).1]
        refine ⟨by omega, fun q i h1 h2 h3 => ?_, fun k h1 h2 => ?_⟩
        · have := keep q i (by omega) (Or.inr trivial)
          exact ⟨this.1.trans (p2 q i h1 h2 h3).1, this.2.trans (p2 q i h1 h2 h3).2⟩
        · rw [(keep 5 _ (by omega) (Or.inr trivial)).1]
          exact p3 k h1 (by omega)
    · have keep := fun q i hq => lo_turn W d0 (q := q) hq i
      have en : nkN (stpF x) = nkN x := by unfold nkN; rw [ew, (keep 2 _ (by omega)).1]
      refine ⟨by omega, fun q i h1 h2 h3 => ?_, fun k h1 h2 => ?_⟩
      · have := keep q i (by omega)
        exact ⟨this.1.trans (p2 q i h1 h2 h3).1, this.2.trans (p2 q i h1 h2 h3).2⟩
      · rw [(keep 5 _ (by omega)).1]
        exact p3 k h1 (by omega)
/-- a name's kind at the end is the first one known here -/
theorem kl_here {r R : RV} (E : ENR r R) (A : RIL r) {w nk p : Nat} (hw : w = wN r) (hn : nk = nkN r) (hp : p < qN r) (hk : ∀ k, k < nk → ai R 5 (w * 16 + k) < nI p) (x : Int64) : kN R w (nkN R) x (nI p) = ffst (fun k => decide (al R 3 (w * 16 + k) = x)) nk 0 := by
  obtain ⟨f1, f2, f3, f4, f5⟩ := fk_en E A
  have q := A.q
  unfold kN
  cases e : ffst (fun k => decide (al R 3 (w * 16 + k) = x)) nk 0 with
  | some j =>
    obtain ⟨g1, g2, g3, g4⟩ := ffst_some e
    refine ffst_is (by omega) (by omega) ?_ (fun i h1 h2 => ?_)
    · rw [decide_eq_true_eq] at g3 ⊢
      exact ⟨g3, hk j (by omega)⟩
    · have := g4 i h1 h2
      rw [decide_eq_false_iff_not] at this ⊢
      exact fun z => this z.1
  | none =>
    have g := ffst_none e
    refine ffst_isn (fun i h1 h2 => ?_)
    rw [decide_eq_false_iff_not]
    rintro ⟨z1, z2⟩
    by_cases y : i < nk
    · have := g i (by omega) (by omega)
      rw [decide_eq_false_iff_not] at this
      exact this z1
    · obtain ⟨p', e1, e2, e3⟩ := f5 i (by omega) (by omega)
      rw [hw, e1, nI_ltI e3 (by omega)] at z2
      omega
