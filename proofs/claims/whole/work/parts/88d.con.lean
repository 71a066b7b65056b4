/-! The contracts of reading a statement, a block -/
def mpC (R : RV) (s i : Nat) : List Nat := lif (decide (¬ prT R s i = none)) (keyN (tn (ai R 35 (4 * s + i))) 2 0) ++ flr (unkL (fun j => ai R 38 (4 * (4 * s + i) + j)) (cgK R (wN R) (nkN R) (4 * s + i))) (tn (ai R 36 (4 * s + i))) 0
/-- the mistakes that are noted while statement s is read -/
def mpS (R : RV) (s : Nat) : List Nat := if ai R 19 s = 2 then (match prS R s with
    | none => lif (decide (kN R (wN R) (nkN R) (al R 24 s) (ai R 25 s) = none)) (keyN (tn (ai R 25 s)) 1 0)
    | some _ => [])
  else if ai R 19 s = 3 then jsS R s (prS R s) (psS R s)
  else if ai R 19 s = 7 then lif (decide (tgS R s = none)) (keyN (tn (ai R 20 s)) 8 0)
  else if ai R 19 s = 9 then flr (mpC R s) (tn (ai R 32 s)) 0
  else if ai R 19 s = 10 then flr (unkL (fun i => ai R 31 (4 * s + i)) (fun i => kN R (wN R) (nkN R) (al R 30 (4 * s + i)) (ai R 31 (4 * s + i)))) (tn (ai R 29 s)) 0
  else []
def sumN (f : Nat → Nat) : Nat → Nat → Nat
  | 0, _ => 0
  | m + 1, k => f k + sumN f m (k + 1)
def wtC (R : RV) (s i : Nat) : Nat := 2 * tn (ai R 36 (4 * s + i)) + 3
def wtS (R : RV) (s : Nat) : Nat := 2 * tn (ai R 29 s) + sumN (wtC R s) (tn (ai R 32 s)) 0
theorem sumN_add (f : Nat → Nat) : ∀ m n k, sumN f (m + n) k = sumN f m k + sumN f n (k + m) := by
  intro m
  induction m with
  | zero => intro n k; rw [Nat.zero_add]; show _ = 0 + sumN f n (k + 0); rw [Nat.zero_add, Nat.add_zero]
  | succ m ih =>
    intro n k
    rw [show m + 1 + n = (m + n) + 1 by omega, sumN, sumN, ih, show k + 1 + m = k + (m + 1) by omega]
    omega
theorem flr_add (f : Nat → List Nat) : ∀ m n k, flr f (m + n) k = flr f m k ++ flr f n (k + m) := by
  intro m
  induction m with
  | zero => intro n k; rw [Nat.zero_add]; rfl
  | succ m ih =>
    intro n k
    rw [show m + 1 + n = (m + n) + 1 by omega, flr, flr, ih, show k + 1 + m = k + (m + 1) by omega, List.append_assoc]
def CTK (ks' A ks : List Nat) : Prop := ∀ a, List.count a ks' = List.count a A + List.count a ks
theorem CTK.rf {ks : List Nat} : CTK ks [] ks := fun a => by simp
theorem CTK.tr {ks ks1 ks2 A B : List Nat} (x : CTK ks1 A ks) (y : CTK ks2 B ks1) : CTK ks2 (A ++ B) ks := fun a => by
  rw [List.count_append, y a, x a]; omega
theorem CTK.pm {ks ks' A : List Nat} (p : ks'.Perm (A ++ ks)) : CTK ks' A ks := fun a => by
  rw [p.count_eq, List.count_append]
/-- what is known of a catch around -/
def SCF (h : AH) (R : RV) (G : Nat → Nat → Nat) (c : Nat) : Prop := fJ h 20303 (G 2 c) = conv (al R 34 c) ∧ WV (al R 34 c) ∧ fI h 302 (G 2 c) = nI (lmB R (tn (ai R 21 (c / 4)))) ∧ fI h 603 (G 2 c + 1) = nI (tn (ai R 36 c)) ∧ tn (ai R 36 c) ≤ 4 ∧ lmB R (tn (ai R 21 (c / 4))) < 2 ^ 20
/-- what is known, if the text is right, where block b is the innermost one -/
def DPR (h : AH) (R : RV) (G : Nat → Nat → Nat) (r : RV) (b : Nat) (sc : List Nat) (l : Nat) (il : Bool) (nk : Nat) (wk : Nat → Int64) (nm ns : Nat) (fS : Nat → Nat) : Prop :=
  (nk = nkN r ∧ ∀ k, k < nk → wk k = conv (al R 3 (wN r * 16 + k)) ∧ WV (al R 3 (wN r * 16 + k)) ∧ ai R 5 (wN r * 16 + k) < gi r 1449) ∧ nm = nmN r ∧ (∀ k, k < ns → fS k = G 0 (wN r * 120 + k)) ∧
  sc = (cch R b).map (G 2) ∧ (∀ c, c ∈ cch R b → SCF h R G c ∧ c / 4 < rsN r) ∧ l = lmB R b ∧ il = inL R b ∧ UPD R
/-- what a statement leaves, if the text is right -/
def DPO (h h' : AH) (U : Nat) (R : RV) (G G' : Nat → Nat → Nat) (r r' : RV) (x : Nat) (ks ks' : List Nat) (fS' : Nat → Nat) : Prop :=
  GA (rsN r) (nbN r) G G' ∧ (∀ k, k < nsC r' → fS' k = G' 0 (wN r * 120 + k)) ∧ AD h' U (tp h) (tp h') R G' (fun s => s = rsN r) (rsN r) (rsN r') (nbN r) (nbN r') ∧ G' 3 (rsN r) = rsN r' ∧ x = G' 0 (rsN r) ∧
  (∀ c, c ∈ cch R (rsB r) → fI h' 10304 (G 2 c) = (if stR R (rsN r) (rsN r') c then 1 else fI h 10304 (G 2 c))) ∧ CTK ks' (flr (mpS R) (rsN r' - rsN r) (rsN r)) ks ∧ sumN (wtS R) (rsN r' - rsN r) (rsN r) + 2 * (nbN r' - nbN r) + qN r ≤ qN r'
/-- what a block leaves, if the text is right -/
def BPO (h h' : AH) (U : Nat) (R : RV) (G G' : Nat → Nat → Nat) (r2 rc : RV) (b x : Nat) (ks ks' : List Nat) (fS' : Nat → Nat) : Prop :=
  GA (rsN r2) b G G' ∧ (∀ k, k < nsC rc → fS' k = G' 0 (wN r2 * 120 + k)) ∧ AD h' U (tp h) (tp h') R G' (fun _ => False) (rsN r2) (rsN rc) b (nbN rc) ∧ (G' 1 b = x ∧ G' 4 b = rsN r2 ∧ G' 5 b = rsN rc) ∧
  (∀ c, c ∈ cch R b → fI h' 10304 (G 2 c) = (if stR R (rsN r2) (rsN rc) c then 1 else fI h 10304 (G 2 c))) ∧ CTK ks' (flr (mpS R) (rsN rc - rsN r2) (rsN r2)) ks ∧ sumN (wtS R) (rsN rc - rsN r2) (rsN r2) + 2 * (nbN rc - nbN r2) + qN r2 ≤ qN rc
/-- a place lies in the text -/
theorem rt_len {r : RV} (T : RT r) : qN r ≤ tn (gi r 1448) := by
  obtain ⟨⟨pp, nn, hp, hn', l1, l2⟩, ⟨q, e, l, -⟩, -⟩ := T
  rw [hp, tn_nI (by omega)] at l
  have : qN r = q := by unfold qN; rw [e, tn_nI (by omega)]
  rw [hn', tn_nI (by omega)]
  omega
def STC (D : Nat) : Prop := ∀ (d : Nat) (h : AH) (Q : Option V → AH → Prop) (T U e0 l : Nat) (il : Bool) (so : Option Nat) (sc : List Nat) (r R : RV) (nk : Nat) (par : Nat → Nat) (wk : Nat → Int64) (pk : Nat → Int32) (nm : Nat) (fW : Nat → Nat) (ns : Nat) (fS : Nat → Nat) (ks : List Nat) (B B0 : Nat) (G : Nat → Nat → Nat),
  20 * (9 - D) + 10 ≤ d → RIL r → rng r → dN r = D → ¬ gi r 1451 = 125 → l ≤ D → ES h T U e0 1 r D l il so → CHN h U sc so → KD h (U + 1) nk par wk pk → LST h U e0 nm fW ns fS ks B → ns = nsC r → B0 ≤ B + 3 * qN r → 3 * tn (gi r 1448) + 100 ≤ B0 → (ENR r R → DPR h R G r (rsB r) sc l il nk wk nm ns fS) →
  (∀ h' r' x ks' B' ns' fS' n, goK D n (stpF r) r' → ES h' T U e0 1 r' D l il so → FX (EPa T U e0 sc) h h' → LST h' U e0 nm fW ns' fS' ks' B' → (∀ k, k < ns → fS' k = fS k) → (gi r' 1452 = -1 → ns' = nsC r' ∧ ns < ns' ∧ B0 ≤ B' + 3 * qN r' ∧ dN r' = D) → (¬ gi r' 1452 = -1 → B0 + D ≤ B' + 3 * tn (gi r 1448) + 20) → (tg h' x = 9 ∧ x < tp h' ∧ tp h ≤ x) → (ENR r R → ENR r' R ∧ ∃ G', DPO h h' U R G G' r r' x ks ks' fS') → Q (some (vr (some x))) h') →
  wp d K_X5_takeStatement 0 [] [(0, vr (some (U + 9)))] h Q
/-- how the reference opens the block that the class is about to read -/
def OPQ (r1 r2 : RV) (D b : Nat) : Prop := gi r2 1448 = gi r1 1448 ∧ ai r2 1 = ai r1 1 ∧ (gi r1 1452 = -1 → gi r1 1455 = nI D ∧ (okO r1 = false → gi r2 1452 = gi r1 1449) ∧ (okO r1 = true → RIL r2 ∧ gi r2 1452 = -1 ∧ TE (advF r1) r2 ∧ dN r2 = D + 1 ∧ rsB r2 = b ∧ nbN r2 = b + 1 ∧ ai r2 45 b = -1 ∧ ai r2 44 b = -1 ∧ ai r2 43 b = gi r1 1449))
def BLC (D : Nat) : Prop := ∀ (d : Nat) (h : AH) (Q : Option V → AH → Prop) (T U e0 l : Nat) (il : Bool) (so : Option Nat) (sc : List Nat) (r1 r2 R : RV) (b nk : Nat) (par : Nat → Nat) (wk : Nat → Int64) (pk : Nat → Int32) (nm : Nat) (fW : Nat → Nat) (ns : Nat) (fS : Nat → Nat) (ks : List Nat) (B B0 : Nat) (G : Nat → Nat → Nat),
  20 * (9 - D) ≤ d → l ≤ D + 1 → ES h T U e0 1 r1 D l il so → CHN h U sc so → KD h (U + 1) nk par wk pk → LST h U e0 nm fW ns fS ks (B + 1) → OPQ r1 r2 D b → (gi r1 1452 = -1 → B0 ≤ B + 2 + 3 * qN r1) → (¬ gi r1 1452 = -1 → B0 + D + 1 ≤ B + 3 * tn (gi r1 1448) + 20) → 3 * tn (gi r1 1448) + 100 ≤ B0 → (gi r1 1452 = -1 → okO r1 = true → ns = nsC r2) → (gi r1 1452 = -1 → okO r1 = true → ENR r2 R → DPR h R G r2 b sc l il nk wk nm ns fS) →
  (∀ h' rc x ks' B' ns' fS' n, gi r1 1452 = -1 → okO r1 = true → goL D n r2 rc → RIL rc → gi rc 1452 = -1 → gi rc 1451 = 125 → dN rc = D + 1 → ES h' T U e0 1 (clA rc) D l il so → FX (EPa T U e0 sc) h h' → LST h' U e0 nm fW ns' fS' ks' B' → ns' = nsC rc → (∀ k, k < ns → fS' k = fS k) → B0 ≤ B' + 3 * qN (clA rc) → (tg h' x = 3 ∧ x < tp h' ∧ tp h ≤ x) → (ENR r2 R → ENR rc R ∧ ∃ G', BPO h h' U R G G' r2 rc b x ks ks' fS') → Q (some (vr (some x))) h') →
  (∀ h' rw x ks' B' ns' fS', ((¬ gi r1 1452 = -1 ∧ gi rw 1452 = gi r1 1452) ∨ (gi r1 1452 = -1 ∧ ∃ n, goL D n r2 rw)) → ¬ gi rw 1452 = -1 → ES h' T U e0 1 rw D l il so → FX (EPa T U e0 sc) h h' → LST h' U e0 nm fW ns' fS' ks' B' → (∀ k, k < ns → fS' k = fS k) → B0 + D + 1 ≤ B' + 3 * tn (gi r1 1448) + 20 → (tg h' x = 3 ∧ x < tp h' ∧ tp h ≤ x) → Q (some (vr (some x))) h') →
  wp d K_X5_takeBlock 0 [] [(0, vr (some (U + 9)))] h Q
/-- a number of the reader is set -/
theorem ES.ps {h : AH} {T U e0 m : Nat} {r : RV} {D l D' l' : Nat} {il il' : Bool} {so so' : Option Nat} (s : ES h T U e0 m r D l il so) {h' : AH} (x : FX (fun g y => y = U + 9 ∧ (g = 703 ∨ g = 704 ∨ g = 10705 ∨ g = 30706)) h h') (e : fI h' 703 (U + 9) = nI D' ∧ fI h' 704 (U + 9) = nI l' ∧ fI h' 10705 (U + 9) = b2i il' ∧ fP h' 30706 (U + 9) = so') : ES h' T U e0 m r D' l' il' so' := by
  obtain ⟨c, e2, ⟨p1, p2, p3, p4, p5⟩, ⟨p, q1, q2⟩, e5⟩ := s
  have c3 := c.2.2.1
  have ct := c.2.1
  have lT : T < tp h := by omega
  have nT : ∀ g y, ¬ y = U + 9 → ¬ (y = U + 9 ∧ (g = 703 ∨ g = 704 ∨ g = 10705 ∨ g = 30706)) := fun g y hy z => hy z.1
  have nG : ∀ g y, ¬ (g = 703 ∨ g = 704 ∨ g = 10705 ∨ g = 30706) → ¬ (y = U + 9 ∧ (g = 703 ∨ g = 704 ∨ g = 10705 ∨ g = 30706)) := fun g y hg z => hg z.2
  have ts : ∀ (t : Nat → Int32) n, TS h T t n → TS h' T t n := fun t n a => a.fy c.1.2 x (nT _ _ (by omega)) (nT _ _ (by omega)) (nT _ _ (by omega)) (nT _ _ (by omega)) (nT _ _ (by omega)) (fun y => ⟨nG _ _ (by omega), nG _ _ (by omega), nG _ _ (by omega), nG _ _ (by omega), nG _ _ (by omega)⟩) (fun y hy => nT _ _ (by omega))
  refine ⟨c.fx x (fun y => ⟨nG _ _ (by omega), nG _ _ (by omega), nG _ _ (by omega), nG _ _ (by omega), nG _ _ (by omega)⟩) ⟨nG _ _ (by omega), nG _ _ (by omega), nG _ _ (by omega), nG _ _ (by omega)⟩ ⟨nG _ _ (by omega), nG _ _ (by omega)⟩, ts _ _ e2, ⟨?_, e⟩, ⟨p, by rw [x.fI lT (nT _ _ (by omega))]; exact q1, q2⟩, fun z => ?_⟩
  · rw [x.fI c3 (nG _ _ (by omega))]; exact p1
  · obtain ⟨⟨k1, k2, k3, k4, k5⟩, R⟩ := e5 z
    refine ⟨⟨ts _ _ k1, ?_, ?_, fun y => ?_, fun y => ?_⟩, R⟩
    · rw [x.fI lT (nT _ _ (by omega))]; exact k2
    · rw [x.fI lT (nT _ _ (by omega))]; exact k3
    · rw [x.fI lT (nT _ _ (by omega))]; exact k4 y
    · rw [x.fJ lT (nT _ _ (by omega))]; exact k5 y
theorem ES.br {h : AH} {T U e0 m : Nat} {r : RV} {D l D' : Nat} {il : Bool} {so : Option Nat} (s : ES h T U e0 m r D l il so) : ES (setFI h 703 (U + 9) (nI D')) T U e0 m r D' l il so := by
  have p := s.2.2.1
  refine s.ps (FX.FI ⟨rfl, Or.inl rfl⟩) ⟨fFI_same _ _ _ _, ?_, ?_, p.2.2.2.2⟩
  · rw [fI_setFI, if_neg (by omega)]; exact p.2.2.1
  · rw [fI_setFI, if_neg (by omega)]; exact p.2.2.2.1
theorem LST.ps {h h' : AH} {U e0 nm ns B : Nat} {fW fS : Nat → Nat} {ks : List Nat} (s : LST h U e0 nm fW ns fS ks B) (x : FX (fun g y => y = U + 9 ∧ (g = 703 ∨ g = 704 ∨ g = 10705 ∨ g = 30706)) h h') (r1 : rc h' = rc h) (r2 : rs h' = rs h) : LST h' U e0 nm fW ns fS ks B :=
  LST.fx 0 s x (fun L hL => ⟨fun z => by omega, fun z => by omega⟩) (fun e z => by omega) (fun y z => by omega) (by omega) (by omega)
