/-! The first block of a statement is read -/
theorem cla_v {rc : RV} (A : RIL rc) (er : gi rc 1452 = -1) (g : gi rc 1451 = 125) {D : Nat} (hd : dN rc = D + 1) : RIL (clA rc) ∧ gi (clA rc) 1452 = -1 ∧ ai (clA rc) = ai rc ∧ al (clA rc) = al rc ∧ wN (clA rc) = wN rc ∧ nsC (clA rc) = nsC rc ∧ nbN (clA rc) = nbN rc ∧ rsN (clA rc) = rsN rc ∧ dN (clA rc) = D ∧ qN rc < qN (clA rc) ∧ TE (advF rc) (clA rc) := by
  obtain ⟨p1, p2, p3, p4⟩ := RIL_pop A g (by omega)
  have a1 : ai (clA rc) = ai rc := by unfold clA; rw [ai_adv]; rfl
  have a2 : al (clA rc) = al rc := by unfold clA; rw [al_adv]; rfl
  have w : wN (clA rc) = wN rc := by
    unfold wN clA; rw [gi_adv, gi_sI, if_neg (by decide)]
  refine ⟨p1, by unfold clA; rw [gi_adv, gi_sI, if_neg (by decide)]; exact er, a1, a2, w, ?_, ?_, ?_, by omega, p3, TE.adv (TE_sI (by decide) (by decide) (by decide) (by decide))⟩
  · unfold nsC; rw [w, a1]
  · unfold nbN; rw [w, a1]
  · unfold rsN; rw [w, a1]
/-- where the first block of a statement ends -/
theorem cls_v {r rc : RV} {D n : Nat} {what : Int32} (hD : dN r = D) (A2 : RIL (stpF r)) (d2 : dN (stpF r) = D + 1) (b2 : rsB (stpF r) = nbN r) (nb : nbN (stpF r) = nbN r + 1) (er : rsN (stpF r) = rsN r + 1) (r40 : ai (stpF r) 40 (nbN r) = what) (r41 : ai (stpF r) 41 (nbN r) = nI (rsN r)) (g : goL D n (stpF r) rc) (e : gi rc 1452 = -1) (dc : dN rc = D + 1) (sm : rsN r < 2 ^ 31) : rsB rc = nbN r ∧ ai rc 40 (rsB rc) = what ∧ tn (ai rc 41 (rsB rc)) = rsN r ∧ OWK (rsN r) (stpF r) rc ∧ FZ (stpF r) rc := by
  have ob : obN (stpF r) D = nbN r := by
    rw [← b2]
    show tn (ai (stpF r) 46 D) = tn (ai (stpF r) 46 (dN (stpF r) - 1))
    rw [d2, show D + 1 - 1 = D by omega]
  obtain ⟨f1, f2, f3⟩ := frl (s := rsN r) A2 g e (by omega) (by rw [ob]; exact r41) (by omega)
  obtain ⟨-, F, -⟩ := frk A2 (goL_K g) e (by omega)
  have b3 : rsB rc = nbN r := by
    show tn (ai rc 46 (dN rc - 1)) = _
    rw [dc, show D + 1 - 1 = D by omega, f2]
    exact ob
  refine ⟨b3, ?_, ?_, f3, F⟩
  · rw [b3, F.2.2.1 40 _ (by omega) (by omega) (by omega)]; exact r40
  · rw [b3, F.2.2.1 41 _ (by omega) (by omega) (by omega), r41, tn_nI sm]
/-- how the first block is opened -/
def OPD (r X1 : RV) (D : Nat) (what : Int32) : Prop := gi (stpF r) 1452 = -1 ∧ RIL (stpF r) ∧ OST r (stpF r) ∧ dN (stpF r) = D + 1 ∧ rsB (stpF r) = nbN r ∧ nbN (stpF r) = nbN r + 1 ∧ rsN (stpF r) = rsN r + 1 ∧ ai (stpF r) 40 (nbN r) = what ∧ ai (stpF r) 41 (nbN r) = nI (rsN r) ∧ ai (stpF r) 42 (nbN r) = 0 ∧ ai (stpF r) 26 (rsN r) = nI (nbN r) ∧ ∀ q, q < 39 → ¬ q = 26 → ai (stpF r) q = ai X1 q ∧ al (stpF r) q = al X1 q
theorem st_block {D : Nat} (HB : BLC D) {d : Nat} {h h3 h4 : AH} {Q : Option V → AH → Prop} {T U e0 l l' : Nat} {il il' : Bool} {so : Option Nat} {sc : List Nat} {r R X1 : RV} {nk : Nat} {par : Nat → Nat} {wk : Nat → Int64} {pk : Nat → Int32} {nm : Nat} {fW fS : Nat → Nat} {ks4 : List Nat} {B B0 : Nat} {G : Nat → Nat → Nat} {what : Int32} {c : Nat} (hd : 20 * (9 - D) ≤ d) (A : RIL r) (hr : rng r) (hD : dN r = D) (D0 : 0 < D) (d1 : ¬ gi r 1451 = 125) (hl : l' ≤ D + 1) (M : MD r (dN r) c (rsN r + 1) X1) (O : OWN X1 what (nI (rsN r))) (n0 : ¬ what = 0) (n6 : ¬ what = 6) (st : stpF r = opB X1 26 (rsN r) what) (E4 : ES h4 T U e0 1 X1 D l' il' so) (CH : CHN h4 U sc so) (K : KD h4 (U + 1) nk par wk pk) (L4 : LST h4 U e0 nm fW (nsC r + 1) (up1 fS (nsC r) (tp h)) ks4 (B + 1)) (cr : B0 ≤ B + 2 + 3 * qN X1) (hB0 : 3 * tn (gi r 1448) + 100 ≤ B0)
    (el : l' = (if what = 1 ∨ what = 8 then 1 else 0) + l) (ei : il' = (if what = 1 ∨ what = 8 then false else if what = 4 then true else il))
    (DP : ENR r R → DPR h3 R G r (rsB r) sc l il nk wk nm (nsC r) fS) (DS : ENR r R → ∀ c, c ∈ cch R (rsB r) → SCF h4 R G c)
    (H1 : ∀ h' rc x ks' B' ns' fS' n, OPD r X1 D what → goL D n (stpF r) rc → RIL rc → gi rc 1452 = -1 → gi rc 1451 = 125 → dN rc = D + 1 → ES h' T U e0 1 (clA rc) D l' il' so → FX (EPa T U e0 sc) h4 h' → LST h' U e0 nm fW ns' fS' ks' B' → ns' = nsC rc → (∀ k, k < nsC r → fS' k = fS k) → B0 ≤ B' + 3 * qN (clA rc) → (tg h' x = 3 ∧ x < tp h' ∧ tp h4 ≤ x) → (ENR r R → ENR rc R ∧ ∃ G', BPO h4 h' U R (fun q i => if q = 0 ∧ i = rsN r then tp h else G q i) G' (stpF r) rc (nbN r) x ks4 ks' fS' ∧ cch R (nbN r) = cch R (rsB r)) → Q (some (vr (some x))) h')
    (H2 : ∀ h' rw x ks' B' ns' fS' n, goK D n (stpF r) rw → ¬ gi rw 1452 = -1 → ES h' T U e0 1 rw D l' il' so → FX (EPa T U e0 sc) h4 h' → LST h' U e0 nm fW ns' fS' ks' B' → (∀ k, k < nsC r → fS' k = fS k) → B0 + D + 1 ≤ B' + 3 * tn (gi r 1448) + 20 → (tg h' x = 3 ∧ x < tp h' ∧ tp h4 ≤ x) → Q (some (vr (some x))) h') : wp d K_X5_takeBlock 0 [] [(0, vr (some (U + 9)))] h4 Q := by
  have d0 : 0 < dN r := by omega
  have hk : HKK r (dN r) := Or.inl ⟨rfl, Or.inr d1⟩
  obtain ⟨op, oq⟩ := opq (q := 26) (i := rsN r) (num := 0) (v := opV X1) M hk ⟨by omega, by omega⟩ O (Or.inr (Or.inl ⟨rfl, by omega⟩)) (by decide) (by decide) (fun z => absurd z n6)
  rw [show tI (opF X1 what (nI (rsN r)) 0) 26 (rsN r) (opV X1) = stpF r from st.symm, hD] at op
  rw [show tI (opF X1 what (nI (rsN r)) 0) 26 (rsN r) (opV X1) = stpF r from st.symm] at oq
  have er1 := M.2.1
  have OD : okO X1 = true → OPD r X1 D what := fun z => by
    obtain ⟨q1, q2, q3, q4, q5⟩ := oq z
    obtain ⟨-, -, op3⟩ := op
    obtain ⟨-, -, y⟩ := op3 er1
    obtain ⟨y1, y2, y3, y4, y5, y6, y7, y8, y9⟩ := y z
    have ok1 := y2
    have rl := (st_cls A hr d0 d1 (n := 0) (r' := stpF r) rfl ok1)
    have O := q2
    obtain ⟨o1, o2, o3, ⟨o4, o4'⟩, -⟩ := O
    have rl2 : rsN r < rsN (stpF r) := by
      obtain ⟨i1, hz, sst⟩ := inb_rs A hr (dN_0 d0) d1 ok1
      have en : ai (stpF r) 45 (rsB r) = nI (rsN r) := by rw [sst]; exact end_rs A d0 hz
      obtain ⟨ok1', A1', O', A2', F1', F2', KP', pd', p46'⟩ := st_seg A hr d0 d1 (n := 0) (r' := stpF r) rfl ok1
      have eo : obN (stpF r) (dN r - 1) = rsB r := by unfold obN; rw [p46' _ (by omega)]; rfl
      obtain ⟨-, -, -, -, p5⟩ := q1.o (j := dN r - 1) (by omega)
      have sm := small A
      rw [eo, en] at p5
      rcases p5 with p5 | ⟨e', g1, g2, g3, -⟩
      · exact absurd p5 (nI_ne_m1 (by omega))
      · have sm1 := small q1
        have := congrArg tn g1
        rw [tn_nI sm.1, tn_nI (by omega)] at this
        omega
    refine ⟨y2, y1, q2, y4, y5, y6, by omega, q3, q4, q5, ?_, fun q h1 h2 => ⟨?_, ?_⟩⟩
    · rw [st]; unfold opB; rw [ai_tI, if_pos ⟨rfl, rfl⟩]; unfold opV; rw [if_pos z, M.nb]
    · rw [st]; unfold opB; rw [ai_ne h2, ai_op (by omega)]
    · rw [st]; unfold opB
      show al (opF X1 what (nI (rsN r)) 0) q = _
      rw [op_al]
  have DPI : okO X1 = true → ENR (stpF r) R → DPR h4 R (fun q i => if q = 0 ∧ i = rsN r then tp h else G q i) (stpF r) (nbN r) sc l' il' nk wk nm (nsC r + 1) (up1 fS (nsC r) (tp h)) ∧ cch R (nbN r) = cch R (rsB r) := fun z E2 => by
    have EN := E2.back hr (RIL_pre A)
    obtain ⟨q1, q2, q3, q4, q5, q6, q7, q8, q9, q10⟩ := OD z
    have := dpr_in (h := h) A hr d0 d1 EN (DP EN) q2 q6 q8 q9 n0 n6 (DS EN)
    rw [← el, ← ei] at this
    exact ⟨this.1, this.2.1⟩
  refine HB d h4 Q T U e0 l' il' so sc X1 (stpF r) R (nbN r) nk par wk pk nm fW (nsC r + 1) (up1 fS (nsC r) (tp h)) ks4 B B0 (fun q i => if q = 0 ∧ i = rsN r then tp h else G q i) hd hl E4 CH K L4 op (fun _ => cr) (fun z => absurd er1 z) (by rw [M.2.2.2.1]; exact hB0) (fun _ z => ?_) (fun _ z E2 => (DPI z E2).1) ?_ ?_
  · obtain ⟨q1, q2, q3, q4, q5, q6, q7, q8, q9, q10⟩ := OD z
    obtain ⟨o1, -⟩ := q3
    have w2 : wN (stpF r) = wN r := by unfold wN; rw [o1]
    have e1 : rsN r = wN r * 120 + nsC r := rfl
    have e2 : rsN (stpF r) = wN r * 120 + nsC (stpF r) := by rw [← w2]; rfl
    omega
  · intro h' rc x ks' B' ns' fS' n _ z g Ac ec c125 dc Ec Xc Lc ens fk crc tx dd
    refine H1 h' rc x ks' B' ns' fS' n (OD z) g Ac ec c125 dc Ec Xc Lc ens (fun k hk => ?_) crc tx (fun EN => ?_)
    · rw [fk k (by omega)]
      unfold up1; rw [if_neg (by omega)]
    · obtain ⟨d2, G', bp⟩ := dd (EN.step hr)
      exact ⟨d2, G', bp, (DPI z (EN.step hr)).2⟩
  · intro h' rw x ks' B' ns' fS' hh bad Ew Xw Lw fk crw tx
    rcases hh with ⟨z, -⟩ | ⟨-, n, g⟩
    · exact absurd er1 z
    · refine H2 h' rw x ks' B' ns' fS' n (goL_K g) bad Ew Xw Lw (fun k hk => ?_) (by rw [← M.2.2.2.1]; exact crw) tx
      rw [fk k (by omega)]
      unfold up1; rw [if_neg (by omega)]
