/-! What was read of the half in use, by the reference's present state -/
/-- a half is as in X, but for the mistakes -/
def HAH (w : Nat) (r X : RV) : Prop := ∀ q i, (HF w q i ∧ q < 49) → ai r q i = ai X q i ∧ al r q i = al X q i
theorem HAG.hah {w : Nat} {r r1 X : RV} (a : HAG w r r1) (b : HAH w r1 X) : HAH w r X := fun q i h => ⟨(a q i h.1).1.trans (b q i h).1, (a q i h.1).2.trans (b q i h).2⟩
section
variable {r R : RV} {C L : Nat → Int32} {G : Nat → Nat → Nat} {nm nk : Nat} {par : Nat → Nat}
theorem hg_kN (g : HAH (wN R) r (pcl R C L)) (hn : nk ≤ 16) (x : Int64) (v : Int32) : kN r (wN R) nk x v = kN R (wN R) nk x v := ffst_cg _ _ (fun k _ hk => by
  have e1 : al r 3 (wN R * 16 + k) = al R 3 (wN R * 16 + k) := (g 3 _ (by unfold HF; omega)).2
  have e2 : ai r 5 (wN R * 16 + k) = ai R 5 (wN R * 16 + k) := (g 5 _ (by unfold HF; omega)).1
  rw [e1, e2])
theorem hg_par (g : HAH (wN R) r (pcl R C L)) (hn : nk ≤ 16) {k : Nat} (hk : k < nk) : parN r (wN R) nk k = parN R (wN R) nk k := by
  unfold parN
  have e1 : al r 6 (wN R * 16 + k) = al R 6 (wN R * 16 + k) := (g 6 _ (by unfold HF; omega)).2
  have e2 : ai r 7 (wN R * 16 + k) = ai R 7 (wN R * 16 + k) := (g 7 _ (by unfold HF; omega)).1
  rw [e1, e2, hg_kN g hn]
theorem hg_bel (g : HAH (wN R) r (pcl R C L)) (K : KEQ R nk par) {x : Nat} (hx : x < nk) (y : Nat) : bel r (wN R) nk x y = bel (pcl R C L) (wN R) nk x y := belP_cg (par := parN R (wN R) nk) (par' := parN r (wN R) nk) K.2.2.2.2 (fun k hk => hg_par g K.2.1 hk) hx y
theorem hg_chk (g : HAH (wN R) r (pcl R C L)) (K : KEQ R nk par) {x : Nat} (hx : x < nk) : chk r (wN R) nk x = chk (pcl R C L) (wN R) nk x := by
  unfold chk
  rw [hg_bel g K hx, hg_bel g K hx]
theorem hg_und (g : HAH (wN R) r (pcl R C L)) (K : KEQ R nk par) {x : Nat} (hx : x < nk) (s : Int32) : und r (wN R) nk x s = und (pcl R C L) (wN R) nk x s := anyN_cg _ (fun q _ => by rw [hg_bel g K hx])
theorem hg_mN (g : HAH (wN R) r (pcl R C L)) (hn : nm ≤ 12) (x : Int64) : mN r (wN R) nm x = mN R (wN R) nm x := ffst_cg _ _ (fun m _ hm => by
  have e1 : al r 9 (wN R * 12 + m) = al R 9 (wN R * 12 + m) := (g 9 _ (by unfold HF; omega)).2
  rw [e1])
theorem hg_w (g : HAH (wN R) r (pcl R C L)) {q m : Nat} (hq : (9 ≤ q ∧ q ≤ 14) ∨ q = 17) (hm : m < 12) : ai r q (wN R * 12 + m) = ai R q (wN R * 12 + m) ∧ al r q (wN R * 12 + m) = al R q (wN R * 12 + m) := by
  have e := g q (wN R * 12 + m) (by unfold HF; omega)
  have n1 : ai (pcl R C L) q = ai R q := by
    show (if q = 47 then C else if q = 48 then L else R.2.2.1 q) = R.2.2.1 q
    rw [if_neg (by omega), if_neg (by omega)]
  rw [n1] at e
  exact e
theorem hg_thr (g : HAH (wN R) r (pcl R C L)) (hn : nk ≤ 16) {m : Nat} (hm : m < 12) (h4 : tn (ai R 14 (wN R * 12 + m)) ≤ 4) : thrS r (wN R) nk (wN R * 12 + m) = thrS (pcl R C L) (wN R) nk (wN R * 12 + m) := by
  have e0 := (hg_w g (q := 14) (by omega) hm).1
  unfold thrS
  rw [e0]
  refine fup_cg _ _ _ (fun k s _ hk => ?_)
  have e1 : al r 15 (4 * (wN R * 12 + m) + k) = al R 15 (4 * (wN R * 12 + m) + k) := (g 15 _ (by unfold HF; omega)).2
  have e2 : ai r 16 (4 * (wN R * 12 + m) + k) = ai R 16 (4 * (wN R * 12 + m) + k) := (g 16 _ (by unfold HF; omega)).1
  rw [e1, e2, hg_kN g hn]
  rfl
theorem hg_abv (g : HAH (wN R) r (pcl R C L)) (hn : nm ≤ 12) {m : Nat} (hm : m < 12) : abv r (wN R) nm (wN R * 12 + m) = abv (pcl R C L) (wN R) nm (wN R * 12 + m) := by
  have e0 := (hg_w g (q := 11) (by omega) hm).2
  unfold abv
  rw [e0, hg_mN g hn]
  rfl
/-- a statement's numbers -/
theorem hg_s (g : HAH (wN R) r (pcl R C L)) {q s : Nat} (hq : (19 ≤ q ∧ q ≤ 29) ∨ q = 32) (hs : SRG R s) (n120 : nsC R ≤ 120) : ai r q s = ai R q s ∧ al r q s = al R q s := by
  have er : rsN R = wN R * 120 + nsC R := rfl
  have h1 := hs.1
  have h2 := hs.2
  have e := g q s (by unfold HF; omega)
  have n1 : ai (pcl R C L) q = ai R q := by
    show (if q = 47 then C else if q = 48 then L else R.2.2.1 q) = R.2.2.1 q
    rw [if_neg (by omega), if_neg (by omega)]
  rw [n1] at e
  exact e
theorem hg_cl (g : HAH (wN R) r (pcl R C L)) {s : Nat} (hs : SRG R s) (n120 : nsC R ≤ 120) : ai r 47 s = C s ∧ ai r 48 s = L s := by
  have er : rsN R = wN R * 120 + nsC R := rfl
  have h1 := hs.1
  have h2 := hs.2
  exact ⟨(g 47 s (by unfold HF; omega)).1, (g 48 s (by unfold HF; omega)).1⟩
theorem hg_s4 (g : HAH (wN R) r (pcl R C L)) {q s i : Nat} (hq : q = 30 ∨ q = 31 ∨ (33 ≤ q ∧ q ≤ 36)) (hs : SRG R s) (n120 : nsC R ≤ 120) (hi : i < 4) : ai r q (4 * s + i) = ai R q (4 * s + i) ∧ al r q (4 * s + i) = al R q (4 * s + i) := by
  have er : rsN R = wN R * 120 + nsC R := rfl
  have h1 := hs.1
  have h2 := hs.2
  have e := g q (4 * s + i) (by unfold HF; omega)
  have n1 : ai (pcl R C L) q = ai R q := by
    show (if q = 47 then C else if q = 48 then L else R.2.2.1 q) = R.2.2.1 q
    rw [if_neg (by omega), if_neg (by omega)]
  rw [n1] at e
  exact e
theorem hg_b (g : HAH (wN R) r (pcl R C L)) {q b : Nat} (hq : 40 ≤ q ∧ q ≤ 45) (h1 : wN R * 1024 ≤ b) (h2 : b < nbN R) (n1024 : nbC R ≤ 1024) : ai r q b = ai R q b := by
  have er : nbN R = wN R * 1024 + nbC R := rfl
  have e := (g q b (by unfold HF; omega)).1
  have n1 : ai (pcl R C L) q = ai R q := by
    show (if q = 47 then C else if q = 48 then L else R.2.2.1 q) = R.2.2.1 q
    rw [if_neg (by omega), if_neg (by omega)]
  rw [n1] at e
  exact e
theorem hg_cgK (g : HAH (wN R) r (pcl R C L)) (hn : nk ≤ 16) {s i k : Nat} (hs : SRG R s) (n120 : nsC R ≤ 120) (hi : i < 4) (hk : k < 4) : cgK r (wN R) nk (4 * s + i) k = cgK R (wN R) nk (4 * s + i) k := by
  have er : rsN R = wN R * 120 + nsC R := rfl
  have h1 := hs.1
  have h2 := hs.2
  unfold cgK
  have e1 : al r 37 (4 * (4 * s + i) + k) = al R 37 (4 * (4 * s + i) + k) := (g 37 _ (by unfold HF; omega)).2
  have e2 : ai r 38 (4 * (4 * s + i) + k) = ai R 38 (4 * (4 * s + i) + k) := (g 38 _ (by unfold HF; omega)).1
  rw [e1, e2, hg_kN g hn]
theorem hg_cgS (g : HAH (wN R) r (pcl R C L)) (hn : nk ≤ 16) {s i : Nat} (hs : SRG R s) (n120 : nsC R ≤ 120) (hi : i < 4) (h4 : tn (ai R 36 (4 * s + i)) ≤ 4) : cgS r (wN R) nk (4 * s + i) = cgS (pcl R C L) (wN R) nk (4 * s + i) := by
  unfold cgS
  rw [(hg_s4 g (q := 36) (by omega) hs n120 hi).1]
  refine fup_cg _ _ _ (fun k x _ hk => ?_)
  rw [hg_cgK g hn hs n120 hi (by omega)]
  rfl
/-- the next statement is one of the half -/
theorem next_rg (T : TRE R G nm) {s t : Nat} (hs : SRG R s) (e : oN (ai R 23 s) = some t) : SRG R t ∧ s < t := by
  obtain ⟨x, x1, x2, x3, x4⟩ := home T hs.1 hs.2
  have rg := x1.rg T
  obtain ⟨WB, l1, l2⟩ := T.2.2.1 x rg.1 rg.2
  obtain ⟨c1, c2, c3⟩ := WB.2.2.2.2 s x3 x4 x2
  have w3 := (T.2.1 s hs.1 hs.2).1.2.2.1
  have s2 := T.2.2.2.2.1
  have h1 := hs.1
  rw [c2] at e
  by_cases y : G 3 s = G 5 x
  · rw [if_pos y, oN_m1] at e; cases e
  · rw [if_neg y, oN_nI (by omega)] at e
    have e : G 3 s = t := Option.some.inj e
    exact ⟨⟨by omega, by omega⟩, by omega⟩
theorem hg_bcS (g : HAH (wN R) r (pcl R C L)) (T : TRE R G nm) (n120 : nsC R ≤ 120) (n1024 : nbC R ≤ 1024) {b : Nat} (h1 : wN R * 1024 ≤ b) (h2 : b < nbN R) : bcS r (some b) = bcS (pcl R C L) (some b) := by
  have ch : ∀ f o x, (∀ s, o = some s → SRG R s) → chn r f o x = chn (pcl R C L) f o x := by
    intro f
    induction f with
    | zero => intro o x _; rfl
    | succ f ih =>
      intro o x ho
      cases o with
      | none => rfl
      | some s =>
        have hs := ho s rfl
        show chn r f (oN (ai r 23 s)) (x ||| ai r 47 s) = chn (pcl R C L) f (oN (ai R 23 s)) (x ||| C s)
        rw [(hg_s g (q := 23) (by omega) hs n120).1, (hg_cl g hs n120).1]
        exact ih _ _ (fun t et => (next_rg T hs et).1)
  show chn r 240 (oN (ai r 44 b)) 0 = chn (pcl R C L) 240 (oN (ai R 44 b)) 0
  rw [hg_b g (q := 44) (by omega) h1 h2 n1024]
  refine ch _ _ _ (fun s e => ?_)
  obtain ⟨WB, l1, l2⟩ := T.2.2.1 b h1 h2
  have le := WB.2.1
  have s2 := T.2.2.2.2.1
  by_cases y : G 4 b = G 5 b
  · rw [(WB.2.2.1 y).1, oN_m1] at e; cases e
  · rw [(WB.2.2.2.1 (by omega)).1, oN_nI (by omega)] at e
    have e : G 4 b = s := Option.some.inj e
    exact ⟨by omega, by omega⟩
theorem hg_lfB (g : HAH (wN R) r (pcl R C L)) (T : TRE R G nm) (n120 : nsC R ≤ 120) (n1024 : nbC R ≤ 1024) {b : Nat} (h1 : wN R * 1024 ≤ b) (h2 : b < nbN R) : lfB r (some b) = lfB (pcl R C L) (some b) := by
  obtain ⟨WB, l1, l2⟩ := T.2.2.1 b h1 h2
  have le := WB.2.1
  have s2 := T.2.2.2.2.1
  show (match oN (ai r 45 b) with | none => true | some s => decide (¬ ai r 48 s = 0)) = (match oN (ai R 45 b) with | none => true | some s => decide (¬ L s = 0))
  rw [hg_b g (q := 45) (by omega) h1 h2 n1024]
  by_cases y : G 4 b = G 5 b
  · rw [(WB.2.2.1 y).2, oN_m1]
  · obtain ⟨-, -, e, e1, e2, e3, -⟩ := WB.2.2.2.1 (by omega)
    rw [e1, oN_nI (by omega)]
    show decide (¬ ai r 48 e = 0) = decide (¬ L e = 0)
    rw [(hg_cl g (s := e) ⟨by omega, by omega⟩ n120).2]
theorem hg_up (g : HAH (wN R) r (pcl R C L)) (U : UPD R) (n120 : nsC R ≤ 120) (n1024 : nbC R ≤ 1024) {b : Nat} (h1 : wN R * 1024 ≤ b) (h2 : b < nbN R) : upB r b = upB R b := by
  unfold upB
  rw [hg_b g (q := 41) (by omega) h1 h2 n1024]
  rcases U.2.2.1 b h1 h2 with ⟨z, -⟩ | ⟨-, s, j, e1, l1, l2, l3, e2, l4, l5⟩
  · rw [z, oN_m1]
  · rw [e1, oN_nI (by omega)]
    show oN (ai r 21 s) = oN (ai R 21 s)
    rw [(hg_s g (q := 21) (by omega) ⟨l1, l2⟩ n120).1]
theorem hg_tgF (g : HAH (wN R) r (pcl R C L)) (U : UPD R) (n120 : nsC R ≤ 120) (n1024 : nbC R ≤ 1024) : ∀ f b, wN R * 1024 ≤ b → b < nbN R → tgF r f b = tgF R f b := by
  intro f
  induction f with
  | zero => intro b _ _; rfl
  | succ f ih =>
    intro b h1 h2
    rw [tgF, tgF, hg_b g (q := 40) (by omega) h1 h2 n1024, hg_b g (q := 41) (by omega) h1 h2 n1024, hg_up g U n120 n1024 h1 h2]
    cases e : upB R b with
    | none => rfl
    | some j =>
      have l := U.lt h1 h2 e
      show (if _ then none else if _ then some _ else tgF r f j) = (if _ then none else if _ then some _ else tgF R f j)
      rw [ih j l.1 (by omega)]
theorem hg_prF (g : HAH (wN R) r (pcl R C L)) (U : UPD R) (n120 : nsC R ≤ 120) (n1024 : nbC R ≤ 1024) (x : Int64) : ∀ f o p, (∀ b, o = some b → wN R * 1024 ≤ b ∧ b < nbN R) → prF r x f o p = prF R x f o p := by
  intro f
  induction f with
  | zero => intro o p _; rfl
  | succ f ih =>
    intro o p ho
    cases o with
    | none => rfl
    | some b =>
      obtain ⟨h1, h2⟩ := ho b rfl
      have ep : prC r b = prC R b := by
        unfold prC
        rw [hg_b g (q := 41) (by omega) h1 h2 n1024, hg_b g (q := 42) (by omega) h1 h2 n1024]
      rw [prF, prF, ep, hg_b g (q := 40) (by omega) h1 h2 n1024, hg_up g U n120 n1024 h1 h2]
      have rest : ∀ p, prF r x f (upB R b) p = prF R x f (upB R b) p := fun p => ih _ p (fun j e => by have := U.lt h1 h2 e; exact ⟨this.1, by omega⟩)
      rw [rest]
      by_cases z : ai R 40 b = 6
      · have e34 : al r 34 (prC R b) = al R 34 (prC R b) := by
          have i4 := U.2.2.2.1 b h1 h2 z
          rcases U.2.2.1 b h1 h2 with ⟨-, y⟩ | ⟨-, s, j, e1, l1, l2, l3, -⟩
          · rw [y] at z; exact absurd z (by decide)
          · unfold prC
            rw [e1, tn_nI (by omega)]
            exact (hg_s4 g (q := 34) (by omega) ⟨l1, l2⟩ n120 i4).2
        rw [e34]
      · rw [if_neg (fun q => z q.1), if_neg (fun q => z q.1)]
theorem hg_pr (g : HAH (wN R) r (pcl R C L)) (T : TRE R G nm) (n120 : nsC R ≤ 120) (n1024 : nbC R ≤ 1024) {s : Nat} (hs : SRG R s) : prS r s = prS R s ∧ psS r s = psS R s ∧ tgS r s = tgS R s := by
  have U := T.2.2.2.1
  obtain ⟨j, e1, l1, l2⟩ := U.2.2.2.2 s hs.1 hs.2
  have s3 := T.2.2.2.2.2
  have e21 := (hg_s g (q := 21) (by omega) hs n120).1
  have e24 := (hg_s g (q := 24) (by omega) hs n120).2
  have p := hg_prF g U n120 n1024 (al R 24 s) 2048 (oN (ai R 21 s)) false (fun b e => by
    rw [e1, oN_nI (by omega)] at e
    cases e; exact ⟨l1, l2⟩)
  refine ⟨?_, ?_, ?_⟩
  · unfold prS; rw [e21, e24, p]
  · unfold psS; rw [e21, e24, p]
  · unfold tgS
    rw [e21, e1, tn_nI (by omega)]
    exact hg_tgF g U n120 n1024 2048 j l1 l2
end
