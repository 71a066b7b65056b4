/-! A statement's turn, a block's end -/
theorem own_new {r X : RV} {k c n : Nat} (M : MD r k c n X) (hn : n = rsN r + 1) {what : Int32} (hw : ¬ what = 0) (ho : ∀ j, j < k → ¬ ai X 41 (obN X j) = nI (rsN r)) (h32 : cnt (ai X 32 (rsN r)) 4) (h29 : what = 8 → ai X 29 (rsN r) = nI 0) : OWN X what (nI (rsN r)) := by
  refine Or.inr ⟨hw, rsN r, rfl, ?_, ?_, h32, h29, ?_⟩
  · rw [M.w]; unfold rsN; omega
  · rw [M.2.2.2.2.2.2.2.1]; omega
  · rw [M.2.2.2.2.2.1]; exact ho
theorem ob_same {k s : Nat} {r r' : RV} (e1 : ai r' 41 = ai r 41) (e2 : ai r' 46 = ai r 46) (h : ∀ j, j < k → ¬ ai r 41 (obN r j) = nI s) : ∀ j, j < k → ¬ ai r' 41 (obN r' j) = nI s := fun j hj => by
  have : obN r' j = obN r j := by unfold obN; rw [e2]
  rw [this, e1]; exact h j hj
theorem turn_rs {r : RV} (A : RIL r) (hr : gi r 1452 = -1) (d0 : 0 < dN r) (hg : ¬ gi r 1451 = 125) (ok : gi (rsF r) 1452 = -1) : RIL (rsF r) ∧ OST r (rsF r) := by
  have M0 := MD.start A hr
  unfold rsF at ok ⊢
  by_cases z1 : isSt r = false ∨ ai r 18 (wN r) = 120
  · rw [if_pos z1] at ok; exact absurd ok M0.fai
  rw [if_neg z1] at ok ⊢
  obtain ⟨M1, ho⟩ := MD_rsA M0 d0 (fun z => z1 (Or.inr z))
  have v32 : ai (rsA r) 32 (rsN r) = nI 0 := by rw [rsA_X r (by decide) (by decide) (by decide)]; exact (rsX_v r).2.2.2.2.2.2.2
  have v29 : ai (rsA r) 29 (rsN r) = nI 0 := by rw [rsA_X r (by decide) (by decide) (by decide)]; exact (rsX_v r).2.2.2.2.2.2.1
  have g1 : gi (rsA r) = gi r := gi_rsA r
  have l1 : gl (rsA r) = gl r := gl_rsA r
  have hst : isSt r = true := bf (fun z => z1 (Or.inl z))
  generalize hs : rsN r = s at *
  generalize rsA r = r1 at *
  -- a block is opened
  have B : ∀ X c what, MD r (dN r) c (s + 1) X → ¬ what = 0 ∧ ¬ what = 6 → (∀ j, j < dN r → ¬ ai X 41 (obN X j) = nI s) → ai X 32 s = nI 0 → (what = 8 → ai X 29 s = nI 0) → gi (opB X 26 s what) 1452 = -1 → RIL (opB X 26 s what) ∧ OST r (opB X 26 s what) := by
    intro X c what M hw ho h32 h29 ok
    have O : OWN X what (nI s) := by
      rw [← hs]
      exact own_new M (by omega) hw.1 (by rw [hs]; exact ho) (by rw [hs, h32]; exact ⟨rfl, by decide⟩) (by rw [hs]; exact h29)
    obtain ⟨-, R, O⟩ := md_op M (Or.inl ⟨rfl, Or.inr hg⟩) (by omega) O (Or.inr (Or.inl ⟨by rw [hs], by omega⟩)) (q := 26) (by decide) (by decide) (fun z => absurd z hw.2) ok
    exact ⟨R, O⟩
  by_cases z2 : gi r 1451 = 123
  · rw [if_pos z2] at ok ⊢
    exact B _ 0 _ (MDtI M1 _ _ (by decide)) (by decide) (ob_same (ai_ne (by decide)) (ai_ne (by decide)) ho) (by rw [ai_ne (by decide)]; exact v32) (fun z => absurd z (by decide)) ok
  rw [if_neg z2] at ok ⊢
  have hne : ¬ gi r 1451 = -1 := by
    refine ne_end A.1 (fun z => ?_)
    unfold isSt at hst
    rw [z] at hst
    have hst := of_decide_eq_true hst
    rcases hst with y | y | y | y | y | y | y | y | y | y | y | y
    · exact z2 y
    all_goals exact absurd y (by decide)
  have M2 := M1.adv (by rw [g1]; exact hne)
  have ho2 : ∀ j, j < dN r → ¬ ai (advF r1) 41 (obN (advF r1) j) = nI s := ob_same (by rw [ai_adv]) (by rw [ai_adv]) ho
  have w32 : ai (advF r1) 32 s = nI 0 := by rw [ai_adv]; exact v32
  have w29 : ai (advF r1) 29 s = nI 0 := by rw [ai_adv]; exact v29
  generalize advF r1 = r2 at *
  generalize gl r 21450 = x at *
  have T : ∀ v, MD r (dN r) (0 + 1) (s + 1) (tI r2 19 s v) := fun v => MDtI M2 _ _ (by decide)
  have hoT : ∀ v, ∀ j, j < dN r → ¬ ai (tI r2 19 s v) 41 (obN (tI r2 19 s v) j) = nI s := fun v => ob_same (ai_ne (by decide)) (ai_ne (by decide)) ho2
  have T32 : ∀ v, ai (tI r2 19 s v) 32 s = nI 0 := fun v => by rw [ai_ne (by decide)]; exact w32
  have T29 : ∀ v, ai (tI r2 19 s v) 29 s = nI 0 := fun v => by rw [ai_ne (by decide)]; exact w29
  unfold rsK at ok ⊢
  by_cases y1 : x = 25711 ∨ x = 422826041707 ∨ x = 125780071117422
  · rw [if_pos y1] at ok ⊢
    unfold rsK1 at ok ⊢
    obtain ⟨-, e, N⟩ := (T _).tak (by decide) ok
    rw [e]
    exact ost_stay N (Or.inl ⟨rfl, Or.inr hg⟩) (by omega) (by omega)
  rw [if_neg y1] at ok ⊢
  by_cases y2 : x = 499968536439 ∨ x = 7562612 ∨ x = 1667329132
  · rw [if_pos y2] at ok ⊢
    unfold rsK2 at ok ⊢
    generalize (if x = 499968536439 then (2 : Int32) else if x = 7562612 then 3 else 1) = v at *
    by_cases y3 : okN r2 = false
    · rw [if_pos y3] at ok; exact absurd ok (T v).fai
    rw [if_neg y3] at ok ⊢
    have N1 := (T v).nam (show okN (tI r2 19 s v) = true from bf y3)
    have ho3 : ∀ j, j < dN r → ¬ ai (namF (tI r2 19 s v)) 41 (obN (namF (tI r2 19 s v)) j) = nI s := ob_same (by rw [ai_nam]) (by rw [ai_nam]) (hoT v)
    have n32 : ai (namF (tI r2 19 s v)) 32 s = nI 0 := by rw [ai_nam]; exact T32 v
    generalize namF (tI r2 19 s v) = r3 at *
    have N2 : MD r (dN r) (0 + 1 + 1) (s + 1) (rsW r3 s) := MDtI (MDtL N1 _ _ _) _ _ (by decide)
    have ho4 : ∀ j, j < dN r → ¬ ai (rsW r3 s) 41 (obN (rsW r3 s) j) = nI s := by
      unfold rsW
      exact ob_same (by rw [ai_ne (by decide), ai_tL]) (by rw [ai_ne (by decide), ai_tL]) ho3
    have m32 : ai (rsW r3 s) 32 s = nI 0 := by unfold rsW; rw [ai_ne (by decide), ai_tL]; exact n32
    generalize rsW r3 s = r4 at *
    unfold rsK2b at ok ⊢
    by_cases y4 : x = 1667329132 ∧ gi r4 1451 = 123
    · rw [if_pos y4] at ok ⊢
      exact B _ _ _ N2 (by decide) ho4 m32 (fun z => absurd z (by decide)) ok
    · rw [if_neg y4] at ok ⊢
      obtain ⟨-, e, N⟩ := N2.tak (by decide) ok
      rw [e]
      exact ost_stay N (Or.inl ⟨rfl, Or.inr hg⟩) (by omega) (by omega)
  rw [if_neg y2] at ok ⊢
  by_cases y3 : x = 26982 ∨ x = 7501166
  · rw [if_pos y3] at ok ⊢
    unfold rsK3 at ok ⊢
    refine B _ _ _ (T _) ?_ (hoT _) (T32 _) (fun _ => T29 _) ok
    split <;> decide
  rw [if_neg y3] at ok ⊢
  by_cases y4 : x = 512852847717 ∨ x = 1819242352
  · rw [if_pos y4] at ok ⊢
    unfold rsK4 at ok ⊢
    exact B _ _ _ (T _) (by decide) (hoT _) (T32 _) (fun _ => T29 _) ok
  rw [if_neg y4] at ok ⊢
  unfold rsK5 at ok ⊢
  by_cases y5 : gi r2 1451 = 40
  · rw [if_pos y5] at ok ⊢
    unfold arF at ok ⊢
    obtain ⟨i1, i2⟩ := MD_nl29 (sep := 44) (by decide) (T 9) (hoT 9) (by show ¬ gi r2 1451 = -1; rw [y5]; decide) (T29 9)
    have k32 : ai (nlF 29 30 31 s 44 5 (tI r2 19 s 9)).1 32 = ai (tI r2 19 s 9) 32 := (nl_keep (qc := 29) (qw := 30) (qa := 31) (i := s) (sep := 44) (by decide) (by decide) 5 _).2.1 32 (by decide) (by decide)
    by_cases y6 : (nlF 29 30 31 s 44 5 (tI r2 19 s 9)).2 = false
    · rw [if_pos y6] at ok
      exact absurd ok (i1 y6)
    rw [if_neg y6] at ok ⊢
    obtain ⟨⟨N1, ho3⟩, -, -, -⟩ := i2 (bf y6)
    generalize (nlF 29 30 31 s 44 5 (tI r2 19 s 9)).1 = r3 at *
    by_cases y7 : gi r3 1451 = 41
    · have e : takF r3 41 = advF r3 := by unfold takF; rw [if_pos y7]
      rw [e] at ok ⊢
      simp only [y7, decide_true, if_neg (show ¬ (true = false) by decide)] at ok ⊢
      have N2 := N1.adv (by rw [y7]; decide)
      exact B _ _ _ N2 (by decide) (ob_same (by rw [ai_adv]) (by rw [ai_adv]) ho3) (by rw [ai_adv, k32]; exact T32 9) (fun z => absurd z (by decide)) ok
    · have e : takF r3 41 = faiF r3 := by unfold takF; rw [if_neg y7]
      rw [e] at ok
      simp only [y7, decide_false, if_true] at ok
      exact absurd ok N1.fai
  · rw [if_neg y5] at ok ⊢
    exact B _ _ _ (T _) (by decide) (hoT _) (T32 _) (fun _ => T29 _) ok
theorem MD_t32 {r0 r : RV} {k c n s : Nat} (M : MD r0 k c n r) {v : Int32} (hv : cnt v 4) : MD r0 k c n (tI r 32 s v) := by
  have A := M.1
  have e : ∀ q, ¬ q = 32 → ai (tI r 32 s v) q = ai r q := fun q hq => ai_ne hq
  refine M.of ?_ rfl (e 39 (by decide)) (e 46 (by decide)) (by rw [← M.2.2.2.2.2.2.2.1]; unfold rsN; rw [e 18 (by decide)]; rfl)
  refine RIL_of A A.1 rfl rfl (Nat.le_refl _) (by rw [e 39 (by decide)]) (by rw [e 2 (by decide)]; exact A.2.2.2.2.1) (by rw [e 8 (by decide)]; exact A.2.2.2.2.2.1) (by rw [e 18 (by decide)]; exact A.2.2.2.2.2.2.1) (by rw [e 18 (by decide)]; exact Nat.le_refl _) (fun j _ => by rw [e 46 (by decide)]) (fun b _ => by rw [e 40 (by decide), e 41 (by decide)]; exact ⟨rfl, rfl⟩) (fun s _ => by rw [e 21 (by decide)]) (fun b _ => by rw [e 45 (by decide)]; exact Or.inl rfl) (fun s' _ z => ?_) (fun j s _ _ _ _ => by rw [e 29 (by decide)])
  rw [ai_tI]
  split
  · exact hv
  · exact z
theorem turn_cl {r : RV} (A : RIL r) (hr : gi r 1452 = -1) (d0 : 0 < dN r) (hg : gi r 1451 = 125) (ok : gi (clF r) 1452 = -1) : RIL (clF r) ∧ OST r (clF r) := by
  obtain ⟨A1, dd, q1, dj⟩ := RIL_pop A hg d0
  have ea : ai (clA r) = ai r := by unfold clA; rw [ai_adv]; rfl
  have eg : ∀ f, ¬ f = 1447 → ¬ f = 1449 → ¬ f = 1451 → ¬ f = 1455 → gi (clA r) f = gi r f := fun f h1 h2 h3 h4 => by unfold clA; rw [gi_adv _ h1 h2 h3, gi_sI, if_neg h4]
  have ew : wN (clA r) = wN r := by unfold wN; rw [eg 1402 (by decide) (by decide) (by decide) (by decide)]
  have M : MD r (dN r - 1) 1 (rsN r) (clA r) := ⟨A1, by rw [eg 1452 (by decide) (by decide) (by decide) (by decide)]; exact hr, eg 1402 (by decide) (by decide) (by decide) (by decide), eg 1448 (by decide) (by decide) (by decide) (by decide), by rw [ea], by omega, by rw [ea], by unfold rsN; rw [ew, ea], q1⟩
  have hk : HKK r (dN r - 1) := Or.inr ⟨by omega, hg⟩
  have top := A.o (j := dN r - 1) (by omega)
  obtain ⟨o1, o2, o3, o4, o5⟩ := top
  have eB : obN r (dN r - 1) = rsB r := rfl
  rw [eB] at o4
  unfold clF at ok ⊢
  generalize hrole : ai r 40 (rsB r) = role at *
  have ST : ∀ X c, MD r (dN r - 1) c (rsN r) X → 1 ≤ c → RIL X ∧ OST r X := fun X c N h => ost_stay N hk h (by omega)
  unfold clB at ok ⊢
  by_cases n0 : role = 0
  · have e1 : ¬ role = 1 := by rw [n0]; decide
    have e2 : ¬ role = 2 := by rw [n0]; decide
    have e8 : ¬ role = 8 := by rw [n0]; decide
    have e5 : ¬ (role = 5 ∨ role = 6) := by rw [n0]; decide
    rw [if_neg e1, if_neg e2, if_neg e8, if_neg e5] at ok ⊢
    exact ST _ _ M (by omega)
  obtain ⟨s, es, l1, l2, c32, m29⟩ : ∃ s, ai r 41 (rsB r) = nI s ∧ wN r * 120 ≤ s ∧ s < rsN r ∧ cnt (ai r 32 s) 4 ∧ (role = 8 → ai r 29 s = nI 0) := by
    rcases o4 with o4 | ⟨-, s, h⟩
    · exact absurd o4.1 n0
    · exact ⟨s, h⟩
  have hs31 : s < 2 ^ 31 := by
    have h1 := A.w2
    have h2 := A.s.2
    have : rsN r = wN r * 120 + nsC r := rfl
    omega
  have ts : tn (ai r 41 (rsB r)) = s := by rw [es, tn_nI hs31]
  rw [ts] at ok ⊢
  have ho : ∀ j, j < dN r - 1 → ¬ ai (clA r) 41 (obN (clA r) j) = nI s := fun j hj => by rw [← es]; exact dj j (by omega)
  have v32 : cnt (ai (clA r) 32 s) 4 := by rw [ea]; exact c32
  have v29 : role = 8 → ai (clA r) 29 s = nI 0 := by rw [ea]; exact m29
  generalize clA r = r1 at *
  have B : ∀ X c what num q i v, MD r (dN r - 1) c (rsN r) X → ¬ what = 0 → ¬ what = 8 → (∀ j, j < dN r - 1 → ¬ ai X 41 (obN X j) = nI s) → cnt (ai X 32 s) 4 → fre2 q = true ∧ ¬ (42 : Nat) = q → (what = 6 → tn num < 4) → gi (tI (opF X what (nI s) num) q i v) 1452 = -1 → RIL (tI (opF X what (nI s) num) q i v) ∧ OST r (tI (opF X what (nI s) num) q i v) := by
    intro X c what num q i v N hw h8 ho h32 hq h6 ok
    have O : OWN X what (nI s) := Or.inr ⟨hw, s, rfl, by rw [N.w]; exact l1, by rw [N.2.2.2.2.2.2.2.1]; exact l2, h32, fun z => absurd z h8, by rw [N.2.2.2.2.2.1]; exact ho⟩
    obtain ⟨-, R, O⟩ := md_op N hk (by omega) O (Or.inr (Or.inr ⟨es.symm, by omega⟩)) hq.1 hq.2 h6 ok
    exact ⟨R, O⟩
  by_cases z1 : role = 1
  · rw [if_pos z1] at ok ⊢
    obtain ⟨-, e, N⟩ := M.tak (by decide) ok
    rw [e]; exact ST _ _ N (by omega)
  rw [if_neg z1] at ok ⊢
  by_cases z2 : role = 2
  · rw [if_pos z2] at ok ⊢
    by_cases y : gl r1 21450 = 1701606245
    · rw [if_pos y] at ok ⊢
      have N := M.adv (ne_end M.rt (by rw [y]; decide))
      exact B _ _ _ _ _ _ _ N (by decide) (by decide) (ob_same (by rw [ai_adv]) (by rw [ai_adv]) ho) (by rw [ai_adv]; exact v32) (by decide) (fun z => absurd z (by decide)) ok
    · rw [if_neg y] at ok ⊢
      exact ST _ _ M (by omega)
  rw [if_neg z2] at ok ⊢
  by_cases z8 : role = 8
  · rw [if_pos z8] at ok ⊢
    by_cases y : gl r1 21450 = 127991945328499
    · rw [if_pos y] at ok ⊢
      unfold arF at ok ⊢
      obtain ⟨i1, i2⟩ := MD_nl29 (sep := 44) (by decide) M ho (ne_end M.rt (by rw [y]; decide)) (v29 z8)
      by_cases y6 : (nlF 29 30 31 s 44 5 r1).2 = false
      · rw [if_pos y6] at ok; exact absurd ok (i1 y6)
      rw [if_neg y6] at ok ⊢
      obtain ⟨⟨N1, -⟩, -, -, -⟩ := i2 (bf y6)
      obtain ⟨-, e, N⟩ := N1.tak (by decide) ok
      show RIL (takF _ _) ∧ OST r (takF _ _)
      rw [e]; exact ST _ _ N (by omega)
    · rw [if_neg y] at ok ⊢
      obtain ⟨-, e, N⟩ := M.tak (by decide) ok
      rw [e]; exact ST _ _ N (by omega)
  rw [if_neg z8] at ok ⊢
  by_cases z5 : role = 5 ∨ role = 6
  · rw [if_pos z5] at ok ⊢
    unfold beF at ok ⊢
    by_cases y : gl r1 21450 = 426836779880
    · rw [if_pos y] at ok ⊢
      unfold rcF at ok ⊢
      by_cases y4 : ai r1 32 s = 4
      · rw [if_pos y4] at ok; exact absurd ok M.fai
      rw [if_neg y4] at ok ⊢
      have clt : tn (ai r1 32 s) < 4 := by
        have := v32.2
        rcases Nat.lt_or_ge (tn (ai r1 32 s)) 4 with x | x
        · exact x
        · exact absurd (by rw [v32.1, show tn (ai r1 32 s) = 4 by omega]; rfl) y4
      generalize hc : 4 * s + tn (ai r1 32 s) = c at *
      have N1 := M.adv (ne_end M.rt (by rw [y]; decide))
      have N2 : MD r (dN r - 1) (1 + 1) (rsN r) (tI (advF r1) 36 c 0) := MDtI N1 _ _ (by decide)
      have h36 : ai (tI (advF r1) 36 c 0) 36 c = nI 0 := by rw [ai_tI, if_pos ⟨rfl, rfl⟩]; rfl
      have ho2 : ∀ j, j < dN r - 1 → ¬ ai (tI (advF r1) 36 c 0) 41 (obN (tI (advF r1) 36 c 0) j) = nI s := ob_same (by rw [ai_ne (by decide), ai_adv]) (by rw [ai_ne (by decide), ai_adv]) ho
      have e32 : ai (tI (advF r1) 36 c 0) 32 s = nI (tn (ai r1 32 s)) := by rw [ai_ne (by decide), ai_adv]; exact v32.1
      generalize tI (advF r1) 36 c 0 = r2 at *
      unfold rcB at ok ⊢
      by_cases y5 : gi r2 1451 = 40
      · rw [if_pos y5] at ok ⊢
        obtain ⟨i1, i2⟩ := MD_nlf (qc := 36) (qw := 37) (qa := 38) (i := c) (sep := 124) (by decide) (by decide) (by decide) (by decide) N2 (by rw [y5]; decide) h36
        by_cases y6 : (nlF 36 37 38 c 124 5 r2).2 = false
        · rw [if_pos y6] at ok; exact absurd ok (i1 y6)
        rw [if_neg y6] at ok ⊢
        obtain ⟨N3, -, -, -⟩ := i2 (bf y6)
        obtain ⟨-, kp, -⟩ := nl_keep (qc := 36) (qw := 37) (qa := 38) (i := c) (sep := 124) (by decide) (by decide) 5 r2
        have ho3 := ob_same (kp 41 (by decide) (by decide)) (kp 46 (by decide) (by decide)) ho2
        have f32 : ai (nlF 36 37 38 c 124 5 r2).1 32 s = nI (tn (ai r1 32 s)) := by rw [kp 32 (by decide) (by decide)]; exact e32
        generalize (nlF 36 37 38 c 124 5 r2).1 = r3 at *
        unfold rcC at ok ⊢
        by_cases y7 : okN r3 = false
        · rw [if_pos y7] at ok; exact absurd ok N3.fai
        rw [if_neg y7] at ok ⊢
        have N4 := N3.nam (bf y7)
        have ho4 := ob_same (r' := namF r3) (by rw [ai_nam]) (by rw [ai_nam]) ho3
        have g32 : ai (namF r3) 32 s = nI (tn (ai r1 32 s)) := by rw [ai_nam]; exact f32
        generalize namF r3 = r4 at *
        unfold rcD at ok ⊢
        have N5 : MD r (dN r - 1) _ (rsN r) (rcP r4 c) := MDtI (MDtL N4 _ _ _) _ _ (by decide)
        have ho5 : ∀ j, j < dN r - 1 → ¬ ai (rcP r4 c) 41 (obN (rcP r4 c) j) = nI s := by
          unfold rcP
          exact ob_same (by rw [ai_ne (by decide), ai_tL]) (by rw [ai_ne (by decide), ai_tL]) ho4
        have k32 : ai (rcP r4 c) 32 s = nI (tn (ai r1 32 s)) := by unfold rcP; rw [ai_ne (by decide), ai_tL]; exact g32
        have gP : gi r4 1451 = gi (rcP r4 c) 1451 := by unfold rcP; rw [gi_tI, gi_tL]
        rw [gP] at ok ⊢
        generalize rcP r4 c = r5 at *
        by_cases y8 : gi r5 1451 = 41
        · rw [if_pos y8] at ok ⊢
          have N6 := N5.adv (by rw [y8]; decide)
          have ho6 := ob_same (r' := advF r5) (by rw [ai_adv]) (by rw [ai_adv]) ho5
          have m32 : ai (advF r5) 32 s = nI (tn (ai r1 32 s)) := by rw [ai_adv]; exact k32
          generalize advF r5 = r6 at *
          unfold rcE at ok ⊢
          have cv : cnt (ai r6 32 s + 1) 4 := by
            rw [m32, lt1, nI_add]
            exact ⟨by rw [tn_nI (by omega)], by rw [tn_nI (by omega)]; omega⟩
          have N7 : MD r (dN r - 1) _ (rsN r) (rcU r6 s) := MD_t32 N6 cv
          have ho7 : ∀ j, j < dN r - 1 → ¬ ai (rcU r6 s) 41 (obN (rcU r6 s) j) = nI s := ob_same (ai_ne (by decide)) (ai_ne (by decide)) ho6
          have n32 : cnt (ai (rcU r6 s) 32 s) 4 := by unfold rcU; rw [ai_tI, if_pos ⟨rfl, rfl⟩]; exact cv
          exact B _ _ _ _ _ _ _ N7 (by decide) (by decide) ho7 n32 (by decide) (fun _ => by rw [m32, lt1, nI_add, pk_sub (by omega), tn_nI (by omega)]; omega) ok
        · rw [if_neg y8] at ok; exact absurd ok N5.fai
      · rw [if_neg y5] at ok; exact absurd ok N2.fai
    rw [if_neg y] at ok ⊢
    by_cases y2 : gl r1 21450 = 28826370426301561
    · rw [if_pos y2] at ok ⊢
      have N := M.adv (ne_end M.rt (by rw [y2]; decide))
      exact B _ _ _ _ _ _ _ N (by decide) (by decide) (ob_same (by rw [ai_adv]) (by rw [ai_adv]) ho) (by rw [ai_adv]; exact v32) (by decide) (fun z => absurd z (by decide)) ok
    rw [if_neg y2] at ok ⊢
    by_cases y3 : decide (role = 5) = true ∧ ai r1 29 s = 0
    · rw [if_pos y3] at ok; exact absurd ok M.fai
    · rw [if_neg y3] at ok ⊢
      exact ST _ _ M (by omega)
  · rw [if_neg z5] at ok ⊢
    exact ST _ _ M (by omega)
theorem turn {r : RV} (A : RIL r) (hr : rng r) (ok : gi (stpF r) 1452 = -1) : RIL (stpF r) ∧ OST r (stpF r) := by
  have d := A.d
  unfold stpF at ok ⊢
  by_cases d0 : gi r 1455 = 0
  · rw [if_pos d0] at ok ⊢
    by_cases z : gl r 21450 = 1802071652
    · rw [if_pos z] at ok ⊢; exact turn_rk A hr.1 d0 z ok
    rw [if_neg z] at ok ⊢
    by_cases z2 : gl r 21450 = 7823737
    · rw [if_pos z2] at ok ⊢; exact turn_rm A hr.1 d0 z2 ok
    rw [if_neg z2] at ok
    exact absurd ok (MD.start A hr.1).fai
  · rw [if_neg d0] at ok ⊢
    have dp : 0 < dN r := by
      rcases Nat.eq_zero_or_pos (dN r) with y | y
      · rw [y] at d; exact absurd d.1 d0
      · exact y
    by_cases g : gi r 1451 = 125
    · rw [if_pos g] at ok ⊢; exact turn_cl A hr.1 dp g ok
    · rw [if_neg g] at ok ⊢; exact turn_rs A hr.1 dp g ok
