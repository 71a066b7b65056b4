/-! The class's reading: names that follow each other -/
/-- names that were read: their places are places, none is looked up yet -/
def NDr (h : AH) (N n m : Nat) (wd : Nat → Int64) (pc : Nat → Int32) : Prop := ND h N n wd pc (fun _ => none) ∧ ∀ j, j < n → ∃ p, pc j = nI p ∧ m ≤ p ∧ p ≤ 2000
/-- only the token and the names at N have changed -/
def ENN (T U N g x : Nat) : Prop := EPW T U g x ∨ Jvm.Pilot.CThrowRulesLaw_law_r5179_b2991a.EN N g x
def NW (T U N : Nat) (h h' : AH) : Prop := FX (ENN T U N) h h' ∧ tp h' = tp h ∧ rc h' = rc h ∧ rs h' = rs h
theorem NW.tr {T U N : Nat} {h h' h'' : AH} (a : NW T U N h h') (b : NW T U N h' h'') : NW T U N h h'' := ⟨a.1.tr b.1, b.2.1.trans a.2.1, b.2.2.1.trans a.2.2.1, b.2.2.2.trans a.2.2.2⟩
theorem PW.nw {T U N : Nat} {h h' : AH} (a : PW T U h h') : NW T U N h h' := ⟨a.1.mono (fun _ _ z => Or.inl z), a.2.1, a.2.2.1, a.2.2.2⟩
theorem NDr.pw {T U N n m : Nat} {h h' : AH} {wd : Nat → Int64} {pc : Nat → Int32} (a : NDr h N n m wd pc) (x : PW T U h h') : NDr h' N n m wd pc :=
  ⟨a.1.fx x.1 (fun g hg => EPW_no (by omega)) (EPW_no (by omega)) (EPW_no (by omega)) (EPW_no (by omega)), a.2⟩
theorem EN_nw {U N : Nat} (hN : U + 10 ≤ N) : NWE U (Jvm.Pilot.CThrowRulesLaw_law_r5179_b2991a.EN N) := fun g x z => by
  rcases z with ⟨z1, z2⟩ | ⟨z1, z2⟩
  · exact ⟨by omega, by omega⟩
  · exact ⟨by omega, by omega⟩
section
variable {d : Nat} {h : AH} {Q : Option V → AH → Prop} {T U e0 m : Nat} {r : RV} {D l : Nat} {il : Bool} {so : Option Nat} {N : Nat}
/-- the token's place -/
theorem ES.pl (E : ES h T U e0 m r D l il so) : ∃ p, fI h 905 T = nI p ∧ m ≤ p ∧ p ≤ 2000 := E.2.2.2.1
/-- one more name, whatever it is -/
theorem p_addN (E : ES h T U e0 m r D l il so) (hN : U + 10 ≤ N) {n : Nat} {wd : Nat → Int64} {pc : Nat → Int32} (D1 : NDr h N n m wd pc) (hn : n < 4) {y : Int64} {p : Int32} (hp : ∃ q, p = nI q ∧ m ≤ q ∧ q ≤ 2000) (H : ∀ h', ES h' T U e0 m r D l il so → NDr h' N (n + 1) m (fun i => if i = n then y else wd i) (fun i => if i = n then p else pc i) → NW T U N h h' → Q none h') : wp d K_X4_add 0 [] [(0, vr (some N)), (1, vl y), (3, vi p)] h Q := by
  refine n_add D1.1 hn y p (fun h' D2 x t1 t2 t3 => ?_)
  refine H h' (E.nw x (EN_nw hN)) ⟨D2.cg (fun i hi => ⟨rfl, rfl, by split <;> rfl⟩), fun j hj => ?_⟩ ⟨x.mono (fun _ _ z => Or.inr z), t1, t2, t3⟩
  show ∃ q, (if j = n then p else pc j) = nI q ∧ m ≤ q ∧ q ≤ 2000
  by_cases z : j = n
  · rw [if_pos z]; exact hp
  · rw [if_neg z]; exact D1.2 j (by omega)
/-- one name more, of the reference -/
theorem nlS_facts {qc qw qa i n : Nat} {X : RV} (q1 : ¬ qc = qa) (hn : n ≤ 4) (hc : ai X qc i = nI n) : TE (advF (advF X)) (nlS qc qw qa i (namF (advF X))) ∨ qc = 1 ∨ qa = 1 := by
  by_cases z1 : qc = 1
  · exact Or.inr (Or.inl z1)
  by_cases z2 : qa = 1
  · exact Or.inr (Or.inr z2)
  refine Or.inl ?_
  unfold nlS
  exact TE_nam.tr (TE_tL.tr ((TE_tI (fun z => z2 z.symm)).tr (TE_tI (fun z => z1 z.symm))))
theorem nlS_data {qc qw qa i n : Nat} {X : RV} (q1 : ¬ qc = qa) (hn : n ≤ 4) (hc : ai X qc i = nI n) : ai (nlS qc qw qa i (namF (advF X))) qc i = nI (n + 1) ∧ ∀ j, al (nlS qc qw qa i (namF (advF X))) qw (4 * i + j) = (if j = n then gl (advF X) 21450 else al X qw (4 * i + j)) ∧ ai (nlS qc qw qa i (namF (advF X))) qa (4 * i + j) = (if j = n then gi (advF X) 1449 else ai X qa (4 * i + j)) := by
  have e0 : ai (namF (advF X)) qc i = nI n := by rw [ai_nam, ai_adv]; exact hc
  refine ⟨by rw [aiq_nlS, e0, lt1, nI_add], fun j => ⟨?_, ?_⟩⟩
  · unfold nlS
    rw [al_tI, al_tI, al_tL, e0, tn_nI (by omega), nam_w, al_nam, al_adv]
    by_cases z : j = n
    · rw [if_pos ⟨rfl, by omega⟩, if_pos z]
    · rw [if_neg (fun y => z (by omega)), if_neg z]
  · unfold nlS
    rw [ai_ne (fun z => q1 z.symm), ai_tI, ai_tL, e0, tn_nI (by omega), nam_a, ai_nam, ai_adv]
    by_cases z : j = n
    · rw [if_pos ⟨rfl, by omega⟩, if_pos z]
    · rw [if_neg (fun y => z (by omega)), if_neg z]
theorem fai_tew {a X : RV} (te : TE a X) (ea : gi a 1452 = -1) (eX : gi X 1452 = -1) (T : RT a) : TEW (faiF a) (faiF X) := by
  have w1 := fai_w T ea
  have w2 := fai_w (te.rt T) eX
  refine ⟨by rw [w1.2, w2.2]; exact te.2.2.1, fun y => absurd y w1.1, ?_, ?_⟩
  · rw [TE_fai.2.1, TE_fai.2.1]; exact te.2.1
  · show ai X 1 = ai a 1; exact te.2.2.2.2.2
theorem p_names {qc qw qa i : Nat} {sep : Int32} {t : Nat} (hsep : sep ∈ ([123, 125, 40, 41, 59, 44, 124, -1] : List Int32)) (ht : t = sgT sep) (ht2 : t < 27) (hN : U + 10 ≤ N) (q1 : ¬ qc = qa) (q2 : ¬ qc = 1) (q3 : ¬ qa = 1) {X0 : RV} (hX : gi X0 1452 = -1) (h0 : ai X0 qc i = nI 0) (E : ES h T U e0 m r D l il so) (er : gi r 1452 = -1) (te : TE (advF X0) r) {wd : Nat → Int64} {pc : Nat → Int32} (D0 : NDr h N 0 m wd pc)
    (H1 : ∀ h' r' n wd pc, ES h' T U e0 m r' D l il so → gi r' 1452 = -1 → TE (nlF qc qw qa i sep 5 X0).1 r' → (nlF qc qw qa i sep 5 X0).2 = true → NDr h' N n m wd pc → NW T U N h h' → ai (nlF qc qw qa i sep 5 X0).1 qc i = nI n → 0 < n → n ≤ 4 → (∀ j, j < n → wd j = conv (al (nlF qc qw qa i sep 5 X0).1 qw (4 * i + j)) ∧ WV (al (nlF qc qw qa i sep 5 X0).1 qw (4 * i + j)) ∧ pc j = ai (nlF qc qw qa i sep 5 X0).1 qa (4 * i + j)) → Q none h')
    (H2 : ∀ h' r' n wd pc, ES h' T U e0 m r' D l il so → ¬ gi r' 1452 = -1 → TEW r' (nlF qc qw qa i sep 5 X0).1 → (nlF qc qw qa i sep 5 X0).2 = false → NDr h' N n m wd pc → NW T U N h h' → Q none h') : wp (d + 7) K_X5_takeNames 0 [] [(0, vr (some (U + 9))), (1, vr (some N)), (2, vi (nI t))] h Q := by
  generalize eZ : nlF qc qw qa i sep 5 X0 = Z at H1 H2
  have L : ∀ f n X (r : RV) (h1 : AH) wd pc, n + f = 4 → ES h1 T U e0 m r D l il so → gi r 1452 = -1 → TE (advF X) r → gi X 1452 = -1 → ai X qc i = nI n → NDr h1 N n m wd pc → NW T U N h h1 → (∀ j, j < n → wd j = conv (al X qw (4 * i + j)) ∧ WV (al X qw (4 * i + j)) ∧ pc j = ai X qa (4 * i + j)) → Z = nlF qc qw qa i sep (f + 1) X → wp (d + 7) K_X5_takeNames 2 [] [(0, vr (some (U + 9))), (1, vr (some N)), (2, vi (nI t)), (3, vi (nI n))] h1 Q := by
    intro f
    induction f with
    | zero =>
      intro n X r h1 wd pc hn E er te eX cX D1 w1 da en
      have c9 := E.1.2.2.2.2.2.2.2.2.1
      have n4 : n = 4 := by omega
      rw [nlF, if_pos (by rw [cX, n4]; rfl)] at en
      rw [bk_X5_takeNames_2, lt4]
      refine ⟨fun _ => ?_, fun z => absurd (by rw [nI_leI (by omega) (by omega)]; omega) z⟩
      rw [bk_X5_takeNames_21]
      refine ⟨c9, p_refuse E (fun h2 E2 w2 => ?_)⟩
      simp only [psh, bk_X5_takeNames_23]
      rw [gT_f er] at E2
      obtain ⟨wf, we⟩ := fai_w (E.2.2.2.2 er).2 er
      refine H2 h2 _ n wd pc E2 wf ?_ (by rw [en]) (D1.pw w2) (w1.tr w2.nw)
      rw [en]
      exact fai_tew te.sy er (by rw [gi_adv]; exact eX) (E.2.2.2.2 er).2
    | succ f ih =>
      intro n X r h1 wd pc hn E er te eX cX D1 w1 da en
      have c9 := E.1.2.2.2.2.2.2.2.2.1
      have c10 := E.1.2.2.2.2.2.2.2.2.2.1
      have tT : tg h1 T = 10 := E.2.1.1
      have ne4 : ¬ ai X qc i = 4 := by
        rw [cX, lt4, nI_eq (by omega) (by omega)]; omega
      rw [nlF, if_neg ne4] at en
      rw [bk_X5_takeNames_2, lt4]
      refine ⟨fun z => absurd z (by rw [nI_leI (by omega) (by omega)]; omega), fun _ => ?_⟩
      rw [bk_X5_takeNames_5, c10, nn_some]
      have K := E.2.2.2.2 er
      obtain ⟨pp, hp1, hp2, hp3⟩ := E.pl
      refine ⟨c9, tT, c9, p_takeName E (fun h2 x E2 w2 val => ?_)⟩
      simp only [psh, bk_X5_takeNames_12, nn_some]
      have D2 := D1.pw w2
      refine ⟨D2.1.1, p_addN E2 hN D2 (by omega) ⟨pp, hp1, hp2, hp3⟩ (fun h3 E3 D3 w3 => ?_)⟩
      simp only [psh, bk_X5_takeNames_14]
      have c93 := E3.1.2.2.2.2.2.2.2.2.1
      refine ⟨c93, ?_⟩
      have w13 : NW T U N h h3 := (w1.tr w2.nw).tr w3
      have okx : okN (advF X) = okN r := (TE.okN te).symm
      by_cases z : tkn r = 27
      · rw [decide_eq_true z, gT_t er] at E3
        have e1 : gi (advF r) 1452 = -1 := by rw [gi_adv]; exact er
        have okr : okN r = true := (tk_name K.2).mp z
        rw [okx, okr, if_neg (by decide)] at en
        obtain ⟨v1, v2⟩ := val er z
        obtain ⟨s1, s2⟩ := nlS_data (qw := qw) (qa := qa) (i := i) q1 (show n ≤ 4 by omega) cX
        have teX : TE (nlS qc qw qa i (namF (advF X))) (advF r) := by
          rcases nlS_facts (qw := qw) (i := i) q1 (show n ≤ 4 by omega) cX with y | y | y
          · exact y.sy.tr te.adv
          · exact absurd y q2
          · exact absurd y q3
        have sg : gi (namF (advF X)) 1451 = gi (advF r) 1451 := by
          have := (TE_nam (r := advF X)).sy.tr te.adv
          exact this.2.2.2.1.symm
        have da' : ∀ j, j < n + 1 → (fun i => if i = n then x else wd i) j = conv (al (nlS qc qw qa i (namF (advF X))) qw (4 * i + j)) ∧ WV (al (nlS qc qw qa i (namF (advF X))) qw (4 * i + j)) ∧ (fun i => if i = n then fI h1 905 T else pc i) j = ai (nlS qc qw qa i (namF (advF X))) qa (4 * i + j) := fun j hj => by
          rw [(s2 j).1, (s2 j).2]
          by_cases y : j = n
          · simp only [y, if_true]
            rw [te.2.2.2.2.1.symm, te.2.2.1.symm]
            exact ⟨v1, v2, K.1.2.1⟩
          · simp only [y, if_false]
            exact da j (by omega)
        have eXs : gi (nlS qc qw qa i (namF (advF X))) 1452 = -1 := by
          unfold nlS
          rw [gi_tI, gi_tI, gi_tL, gi_nam, gi_adv]; exact eX
        refine p_skip E3 (by omega) (fun y1 y2 h4 E4 w4 => ?_) (fun y => ?_)
        · have y3 : gi (advF r) 1451 = sep := (tk_sign (E3.2.2.2.2 e1).2 hsep).mp (by rw [← ht]; exact y2)
          rw [sg, if_pos y3] at en
          simp only [psh, bk_X5_takeNames_17]
          refine ⟨fun _ => ?_, fun z => absurd (by decide) z⟩
          rw [bk_X5_takeNames_19, nI_1]
          refine wp_cut 4 ?_
          exact ih (n + 1) _ _ h4 _ _ (by omega) E4 (by rw [gi_adv]; exact e1) teX.adv eXs s1 (D3.pw w4) (w13.tr w4.nw) da' en
        · have y3 : ¬ gi (advF r) 1451 = sep := fun y4 => y e1 (by rw [ht]; exact (tk_sign (E3.2.2.2.2 e1).2 hsep).mpr y4)
          rw [sg, if_neg y3] at en
          simp only [psh, bk_X5_takeNames_17]
          refine ⟨fun z => absurd trivial z, fun _ => ?_⟩
          rw [bk_X5_takeNames_18]
          exact H1 h3 _ (n + 1) _ _ E3 e1 (by rw [en]; exact teX) (by rw [en]) D3 w13 (by rw [en]; exact s1) (by omega) (by omega) (by rw [en]; exact da')
      · have okr : okN r = false := by
          cases y : okN r with
          | true => exact absurd ((tk_name K.2).mpr y) z
          | false => rfl
        rw [okx, okr, if_pos rfl] at en
        rw [decide_eq_false z, gT_f er] at E3
        obtain ⟨wf, we⟩ := fai_w K.2 er
        refine p_skip E3 (by omega) (fun y1 => absurd y1 wf) (fun _ => ?_)
        simp only [psh, bk_X5_takeNames_17]
        refine ⟨fun z => absurd trivial z, fun _ => ?_⟩
        rw [bk_X5_takeNames_18]
        refine H2 h3 _ _ _ _ E3 wf ?_ (by rw [en]) D3 w13
        rw [en]
        exact fai_tew te.sy er (by rw [gi_adv]; exact eX) K.2
  rw [bk_X5_takeNames_0, lt0]
  exact L 4 0 X0 r h wd pc rfl E er te hX h0 D0 ⟨FX.rf, rfl, rfl, rfl⟩ (fun j hj => absurd hj (by omega)) eZ.symm
/-- names, in a text that is wrong -/
theorem p_namesW {t : Nat} (ht2 : t < 27) (hN : U + 10 ≤ N) (E : ES h T U e0 m r D l il so) (er : ¬ gi r 1452 = -1) {wd : Nat → Int64} {pc : Nat → Int32} (D0 : NDr h N 0 m wd pc) (H : ∀ h' n wd pc, ES h' T U e0 m r D l il so → NDr h' N n m wd pc → NW T U N h h' → Q none h') : wp (d + 7) K_X5_takeNames 0 [] [(0, vr (some (U + 9))), (1, vr (some N)), (2, vi (nI t))] h Q := by
  have c9 := E.1.2.2.2.2.2.2.2.2.1
  have c10 := E.1.2.2.2.2.2.2.2.2.2.1
  have tT : tg h T = 10 := E.2.1.1
  rw [bk_X5_takeNames_0, bk_X5_takeNames_2]
  refine ⟨fun z => absurd z (by decide), fun _ => ?_⟩
  rw [bk_X5_takeNames_5, c10, nn_some]
  obtain ⟨pp, hp1, hp2, hp3⟩ := E.pl
  refine ⟨c9, tT, c9, p_takeName E (fun h2 x E2 w2 val => ?_)⟩
  simp only [psh, bk_X5_takeNames_12, nn_some]
  rw [gT_w er] at E2
  have D2 := D0.pw w2
  refine ⟨D2.1.1, p_addN E2 hN D2 (by omega) ⟨pp, hp1, hp2, hp3⟩ (fun h3 E3 D3 w3 => ?_)⟩
  simp only [psh, bk_X5_takeNames_14]
  refine ⟨E3.1.2.2.2.2.2.2.2.2.1, ?_⟩
  refine p_skip E3 (by omega) (fun y1 => absurd y1 er) (fun _ => ?_)
  simp only [psh, bk_X5_takeNames_17]
  refine ⟨fun z => absurd trivial z, fun _ => ?_⟩
  rw [bk_X5_takeNames_18]
  exact H h3 _ _ _ E3 D3 (w2.nw.tr w3)
/-- what knowKinds leaves: each name is looked up, those unknown are noted -/
def unkL (pc : Nat → Int32) (mt : Nat → Option Nat) (j : Nat) : List Nat := if mt j = none then [keyN (tn (pc j)) 1 0] else []
theorem p_know {nk : Nat} {par : Nat → Nat} {wk : Nat → Int64} {pk : Nat → Int32} (hN : U + 10 ≤ N) (hm : 0 < m) (E : ES h T U e0 m r D l il so) (K : KD h (U + 1) nk par wk pk) {nm ns B n : Nat} {fW fS : Nat → Nat} {ks : List Nat} {wd : Nat → Int64} {pc : Nat → Int32} (D0 : NDr h N n m wd pc) (S : LST h U e0 nm fW ns fS ks (B + n))
    (H : ∀ h' ks', ES h' T U e0 m r D l il so → ND h' N n wd pc (fun j => ffst (fun k => decide (wk k = wd j)) nk 0) → LST h' U e0 nm fW ns fS ks' B → ks'.Perm (flr (unkL pc (fun j => ffst (fun k => decide (wk k = wd j)) nk 0)) n 0 ++ ks) → FX (fun g x => ELs U e0 g x ∨ (g = 90001 ∧ x = N + 3)) h h' → tp h ≤ tp h' → Q none h') : wp (d + 8) K_X5_knowKinds 0 [] [(0, vr (some (U + 9))), (1, vr (some N))] h Q := by
  have n4 : n ≤ 4 := D0.1.2.2.2.2.2.2.1
  have L : ∀ f j (h1 : AH) ks1, j + f = n → ES h1 T U e0 m r D l il so → KD h1 (U + 1) nk par wk pk → ND h1 N n wd pc (fun i => if i < j then ffst (fun k => decide (wk k = wd i)) nk 0 else none) → LST h1 U e0 nm fW ns fS ks1 (B + f) → ks1.Perm (flr (unkL pc (fun j => ffst (fun k => decide (wk k = wd j)) nk 0)) j 0 ++ ks) → FX (fun g x => ELs U e0 g x ∨ (g = 90001 ∧ x = N + 3)) h h1 → wp (d + 8) K_X5_knowKinds 2 [] [(0, vr (some (U + 9))), (1, vr (some N)), (2, vi (nI j))] h1 Q := by
    intro f
    induction f with
    | zero =>
      intro j h1 ks1 hj E K D1 S pm x
      rw [bk_X5_knowKinds_2, nn_some, D1.2.2.2.2.2.1]
      refine ⟨D1.1, fun _ => ?_, fun z => absurd (by rw [nI_leI (by omega) (by omega)]; omega) z⟩
      rw [bk_X5_knowKinds_37]
      have e : j = n := by omega
      refine H h1 ks1 E (D1.cg (fun i hi => ⟨rfl, rfl, by rw [if_pos (by omega)]⟩)) S (by rw [← e]; exact pm) x x.1
    | succ f ih =>
      intro j h1 ks1 hj E K D1 S pm x
      have c9 := E.1.2.2.2.2.2.2.2.2.1
      have c4 := E.1.2.2.2.1
      have c5 := E.1.2.2.2.2.1
      have c11 := E.1.2.2.2.2.2.2.2.2.2.2
      have D1c := D1
      obtain ⟨a1, a2, ⟨b1, b2, b3⟩, ⟨d1, d2, d3⟩, ⟨f1, f2, f3⟩, a7, a8, a9⟩ := D1
      rw [bk_X5_knowKinds_2, nn_some, a7]
      refine ⟨a1, fun z => absurd z (by rw [nI_leI (by omega) (by omega)]; omega), fun _ => ?_⟩
      rw [bk_X5_knowKinds_6, lt4]
      refine ⟨fun z => absurd z (by rw [nI_leI (by omega) (by omega)]; omega), fun _ => ?_⟩
      rw [bk_X5_knowKinds_9, c11, nn_some, nn_some, b1, nn_some, c5, nn_some, nI_clamp (by omega), (a9 j (by omega)).1, k_named K]
      refine ⟨c9, c4, a1, b2, by rw [b3]; exact pk_in j 4 (by omega), K.1, ?_⟩
      simp only [psh, bk_X5_knowKinds_17, nn_some, f1]
      rw [nI_clamp (by omega)]
      generalize eo : ffst (fun k => decide (wk k = wd j)) nk 0 = o
      have ob : ∀ k, o = some k → k < 32 := fun k hk => by
        rw [hk] at eo
        have h1 := (ffst_some eo).2.1
        have h2 := K.2.2.2.2.2.2.2.1
        omega
      refine ⟨a1, f2, by rw [f3]; exact pk_in j 4 (by omega), ?_⟩
      have xs : FX (fun g x => g = 90001 ∧ x = N + 3) h1 (setAI h1 (N + 3) j (oI o)) := FX.AI ⟨rfl, rfl⟩
      have nw : NWE U (fun g x => g = 90001 ∧ x = N + 3) := fun g x z => ⟨by omega, by omega⟩
      have E2 := E.nw xs nw
      have S2 := LST.nw 0 S xs nw (Nat.le_refl _) (Nat.le_refl _)
      have K2 : KD (setAI h1 (N + 3) j (oI o)) (U + 1) nk par wk pk := K.fx xs (fun g z => by omega) (fun z => by omega) (fun z => by omega) (fun z => by omega) (fun z => by omega)
      have D2 : ND (setAI h1 (N + 3) j (oI o)) N n wd pc (fun i => if i < j + 1 then ffst (fun k => decide (wk k = wd i)) nk 0 else none) := by
        refine ⟨a1, a2, ⟨b1, b2, b3⟩, ⟨d1, d2, d3⟩, ⟨f1, f2, f3⟩, a7, a8, fun i hi => ?_⟩
        obtain ⟨g1, g2, g3, g4⟩ := a9 i hi
        refine ⟨g1, ?_, ?_, ?_⟩
        · rw [aI_setAI, if_neg (by omega)]; exact g2
        · rw [aI_setAI]
          dsimp only at g3 ⊢
          by_cases y : i = j
          · rw [if_pos ⟨rfl, y⟩, if_pos (by omega), y, eo]
          · rw [if_neg (fun z => y z.2), g3]
            by_cases y2 : i < j
            · rw [if_pos y2, if_pos (by omega)]
            · rw [if_neg y2, if_neg (by omega)]
        · intro k hk
          dsimp only at hk g4
          by_cases y : i = j
          · rw [if_pos (by omega), y, eo] at hk; exact ob k hk
          · by_cases y2 : i < j
            · rw [if_pos (by omega)] at hk
              exact g4 k (by rw [if_pos y2]; exact hk)
            · rw [if_neg (by omega)] at hk; cases hk
      have x2 : FX (fun g x => ELs U e0 g x ∨ (g = 90001 ∧ x = N + 3)) h (setAI h1 (N + 3) j (oI o)) := x.tr (xs.mono (fun _ _ z => Or.inr z))
      have om : (oI o = -1) ↔ o = none := oI_m1 (fun k hk => by have := ob k hk; omega)
      have fl : flr (unkL pc (fun j => ffst (fun k => decide (wk k = wd j)) nk 0)) (j + 1) 0 = flr (unkL pc (fun j => ffst (fun k => decide (wk k = wd j)) nk 0)) j 0 ++ unkL pc (fun j => ffst (fun k => decide (wk k = wd j)) nk 0) j := by
        have g : ∀ (u : Nat → List Nat) q k, flr u (q + 1) k = flr u q k ++ u (k + q) := by
          intro u q
          induction q with
          | zero => intro k; show u k ++ [] = [] ++ u (k + 0); simp
          | succ q ih => intro k; rw [flr, ih (k + 1), flr, List.append_assoc, show k + 1 + q = k + (q + 1) by omega]
        rw [g, Nat.zero_add]
      refine ⟨fun z => ?_, fun z => ?_⟩
      · rw [bk_X5_knowKinds_35, nI_1]
        refine wp_cut 3 ?_
        refine ih (j + 1) _ ks1 (by omega) E2 K2 D2 (LST.less (show LST _ U e0 nm fW ns fS ks1 (B + (f + 1)) from S2) (by omega)) ?_ x2
        have : unkL pc (fun j => ffst (fun k => decide (wk k = wd j)) nk 0) j = [] := by
          unfold unkL
          exact if_neg (fun y => z (om.mpr (eo.symm.trans y)))
        rw [fl, this, List.append_nil]; exact pm
      · have z := om.mp (Classical.not_not.mp z)
        obtain ⟨p, hp1, hp2, hp3⟩ := D0.2 j (by omega)
        have c9' := E2.1.2.2.2.2.2.2.2.2.1
        have c4' := E2.1.2.2.2.1
        have c11' := E2.1.2.2.2.2.2.2.2.2.2.2
        have ap : aI (setAI h1 (N + 3) j (oI o)) (N + 2) j = nI p := by rw [aI_setAI, if_neg (by omega), (a9 j (by omega)).2.1]; exact hp1
        rw [bk_X5_knowKinds_26, nn_some, show fP (setAI h1 (N + 3) j (oI o)) 30601 N = some (N + 2) from d1, nn_some, c11', nn_some, nI_clamp (by omega), ap, ← kI_0, lt1]
        refine ⟨c9', a1, Or.inl d2, by rw [show ln (setAI h1 (N + 3) j (oI o)) (N + 2) = 4 from d3]; exact pk_in j 4 (by omega), c4', ?_⟩
        refine p_note E2.1 (show LST _ U e0 nm fW ns fS ks1 (B + f + 1) from S2) (by omega) (by omega) (by omega) (by omega) (fun h3 ks3 S3 pm3 x3 tp3 => ?_)
        simp only [psh, bk_X5_knowKinds_35]
        rw [nI_1]
        refine wp_cut 3 ?_
        have eU : e0 < U := by
          obtain ⟨_, _, _, _, _, _, _, _, ⟨_, _, _, z4⟩, _⟩ := S3
          exact z4
        have nE : ∀ g y, ELs U e0 g y → (U + 6 ≤ y ∧ y ≤ U + 8 ∧ (g = 100 ∨ g = 102 ∨ g = 30101)) ∨ (g = 90003 ∧ (U + 10 ≤ y ∨ y < U)) := fun g y q => by
          rcases q with ⟨q1, q2⟩ | ⟨q1, q2⟩
          · left; omega
          · right; omega
        refine ih (j + 1) h3 ks3 (by omega) (E2.ls x3) (K2.fx x3 (fun g q => by have := nE _ _ q; omega) (fun q => by have := nE _ _ q; omega) (fun q => by have := nE _ _ q; omega) (fun q => by have := nE _ _ q; omega) (fun q => by have := nE _ _ q; omega)) (D2.fx x3 (fun g hg q => by have := nE _ _ q; omega) (fun q => by have := nE _ _ q; omega) (fun q => by have := nE _ _ q; omega) (fun q => by have := nE _ _ q; omega)) S3 ?_ (x2.tr (x3.mono (fun _ _ q => Or.inl q)))
        have : unkL pc (fun j => ffst (fun k => decide (wk k = wd j)) nk 0) j = [keyN p 1 0] := by
          unfold unkL
          rw [if_pos (show (fun j => ffst (fun k => decide (wk k = wd j)) nk 0) j = none from eo.trans z), hp1, tn_nI (by omega)]
        rw [fl, this]
        refine pm3.trans ?_
        refine (List.Perm.append_left _ pm).trans ?_
        rw [← List.append_assoc]
        exact List.Perm.append_right _ List.perm_append_comm
  rw [bk_X5_knowKinds_0, lt0]
  exact L n 0 h ks (by omega) E K (D0.1.cg (fun i hi => ⟨rfl, rfl, by rw [if_neg (by omega)]⟩)) S (List.Perm.refl _) FX.rf
end
