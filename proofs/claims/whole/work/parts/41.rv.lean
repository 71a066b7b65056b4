/-! VIEWS of the reference's cells; folds; sets of kinds as bits -/
abbrev RV : Type := (Nat → Int32) × (Nat → Int64) × (Nat → Nat → Int32) × (Nat → Nat → Int64)
def view (h : AH) (a : Nat) : RV := (fun f => fI h f a, fun f => fJ h f a, fun k i => aI h (a + k) i, fun k i => aJ h (a + k) i)
def gi (r : RV) (f : Nat) : Int32 := r.1 f
def gl (r : RV) (f : Nat) : Int64 := r.2.1 f
def ai (r : RV) (k i : Nat) : Int32 := r.2.2.1 k i
def al (r : RV) (k i : Nat) : Int64 := r.2.2.2 k i
def sI (r : RV) (f : Nat) (v : Int32) : RV := (up1 r.1 f v, r.2)
def sL (r : RV) (f : Nat) (v : Int64) : RV := (r.1, up1 r.2.1 f v, r.2.2)
def tI (r : RV) (k i : Nat) (v : Int32) : RV := (r.1, r.2.1, up2 r.2.2.1 k i v, r.2.2.2)
def tL (r : RV) (k i : Nat) (v : Int64) : RV := (r.1, r.2.1, r.2.2.1, up2 r.2.2.2 k i v)
theorem gi_sI (r : RV) (f : Nat) (v : Int32) (g : Nat) : gi (sI r f v) g = if g = f then v else gi r g := rfl
theorem gi_sL (r : RV) (f : Nat) (v : Int64) : gi (sL r f v) = gi r := rfl
theorem gi_tI (r : RV) (k i : Nat) (v : Int32) : gi (tI r k i v) = gi r := rfl
theorem gi_tL (r : RV) (k i : Nat) (v : Int64) : gi (tL r k i v) = gi r := rfl
theorem gl_sI (r : RV) (f : Nat) (v : Int32) : gl (sI r f v) = gl r := rfl
theorem gl_sL (r : RV) (f : Nat) (v : Int64) (g : Nat) : gl (sL r f v) g = if g = f then v else gl r g := rfl
theorem gl_tI (r : RV) (k i : Nat) (v : Int32) : gl (tI r k i v) = gl r := rfl
theorem gl_tL (r : RV) (k i : Nat) (v : Int64) : gl (tL r k i v) = gl r := rfl
theorem ai_sI (r : RV) (f : Nat) (v : Int32) : ai (sI r f v) = ai r := rfl
theorem ai_sL (r : RV) (f : Nat) (v : Int64) : ai (sL r f v) = ai r := rfl
theorem ai_tI (r : RV) (k i : Nat) (v : Int32) (q j : Nat) : ai (tI r k i v) q j = if q = k ∧ j = i then v else ai r q j := rfl
theorem ai_tL (r : RV) (k i : Nat) (v : Int64) : ai (tL r k i v) = ai r := rfl
theorem al_sI (r : RV) (f : Nat) (v : Int32) : al (sI r f v) = al r := rfl
theorem al_sL (r : RV) (f : Nat) (v : Int64) : al (sL r f v) = al r := rfl
theorem al_tI (r : RV) (k i : Nat) (v : Int32) : al (tI r k i v) = al r := rfl
theorem al_tL (r : RV) (k i : Nat) (v : Int64) (q j : Nat) : al (tL r k i v) q j = if q = k ∧ j = i then v else al r q j := rfl
theorem view_FI (h : AH) (f a : Nat) (v : Int32) : view (setFI h f a v) a = sI (view h a) f v := by
  show (_, _, _, _) = (_, _, _, _)
  congr 1
  funext g
  show (if g = f ∧ a = a then v else _) = if g = f then v else _
  simp only [and_true]
  rfl
theorem view_FJ (h : AH) (f a : Nat) (v : Int64) : view (setFJ h f a v) a = sL (view h a) f v := by
  show (_, _, _, _) = (_, _, _, _)
  congr 2
  funext g
  show (if g = f ∧ a = a then v else _) = if g = f then v else _
  simp only [and_true]
  rfl
theorem view_AI (h : AH) (a k i : Nat) (v : Int32) : view (setAI h (a + k) i v) a = tI (view h a) k i v := by
  show (_, _, _, _) = (_, _, _, _)
  congr 3
  funext q j
  show (if a + q = a + k ∧ j = i then v else _) = if q = k ∧ j = i then v else _
  simp only [Nat.add_left_cancel_iff]
  rfl
theorem view_AJ (h : AH) (a k i : Nat) (v : Int64) : view (setAJ h (a + k) i v) a = tL (view h a) k i v := by
  show (_, _, _, _) = (_, _, _, _)
  congr 3
  funext q j
  show (if a + q = a + k ∧ j = i then v else _) = if q = k ∧ j = i then v else _
  simp only [Nat.add_left_cancel_iff]
  rfl
theorem RS_FI {h : AH} {a : Nat} (f b : Nat) (v : Int32) (hs : RS h a) : RS (setFI h f b v) a := hs
theorem RS_FJ {h : AH} {a : Nat} (f b : Nat) (v : Int64) (hs : RS h a) : RS (setFJ h f b v) a := hs
theorem RS_AI {h : AH} {a : Nat} (f b : Nat) (v : Int32) (hs : RS h a) : RS (setAI h f b v) a := hs
theorem RS_AJ {h : AH} {a : Nat} (f b : Nat) (v : Int64) (hs : RS h a) : RS (setAJ h f b v) a := hs
/-- a loop upwards -/
def fup {α : Type} (f : Nat → α → α) : Nat → Nat → α → α
  | 0, _, x => x
  | m + 1, k, x => fup f m (k + 1) (f k x)
theorem fup_ind {α : Type} {f : Nat → α → α} (W : Nat → α → Prop) (n : Nat) (hs : ∀ k x, k < n → W (k + 1) (f k x) → W k x) : ∀ m k x, k + m = n → W n (fup f m k x) → W k x := by
  intro m
  induction m with
  | zero => intro k x e H; have e : k = n := by omega
            subst e; exact H
  | succ m ih => intro k x e H; exact hs k x (by omega) (ih (k + 1) _ (by omega) H)
theorem fup_last {α : Type} (f : Nat → α → α) : ∀ m k x, fup f (m + 1) k x = f (k + m) (fup f m k x) := by
  intro m
  induction m with
  | zero => intro k x; rfl
  | succ m ih => intro k x
                 show fup f (m + 1) (k + 1) (f k x) = _
                 rw [ih, show k + 1 + m = k + (m + 1) by omega]; rfl
theorem fup_congr {α : Type} {f g : Nat → α → α} : ∀ m k x, (∀ j y, k ≤ j → j < k + m → f j y = g j y) → fup f m k x = fup g m k x := by
  intro m
  induction m with
  | zero => intros; rfl
  | succ m ih => intro k x H
                 show fup f m (k + 1) (f k x) = fup g m (k + 1) (g k x)
                 rw [H k x (Nat.le_refl _) (by omega)]
                 exact ih _ _ (fun j y h1 h2 => H j y (by omega) (by omega))
/-- the first one -/
def ffst (p : Nat → Bool) : Nat → Nat → Option Nat
  | 0, _ => none
  | m + 1, k => if p k then some k else ffst p m (k + 1)
theorem ffst_some {p : Nat → Bool} : ∀ {m k j}, ffst p m k = some j → k ≤ j ∧ j < k + m ∧ p j = true ∧ ∀ i, k ≤ i → i < j → p i = false := by
  intro m
  induction m with
  | zero => intro k j e; cases e
  | succ m ih =>
    intro k j e
    unfold ffst at e
    by_cases c : p k = true
    · rw [if_pos c] at e
      cases e
      exact ⟨Nat.le_refl _, by omega, c, fun i h1 h2 => by omega⟩
    · rw [if_neg c] at e
      obtain ⟨a1, a2, a3, a4⟩ := ih e
      refine ⟨by omega, by omega, a3, fun i h1 h2 => ?_⟩
      by_cases z : i = k
      · subst z; exact Bool.eq_false_iff.mpr c
      · exact a4 i (by omega) h2
theorem ffst_none {p : Nat → Bool} : ∀ {m k}, ffst p m k = none → ∀ i, k ≤ i → i < k + m → p i = false := by
  intro m
  induction m with
  | zero => intro k e i h1 h2; omega
  | succ m ih =>
    intro k e i h1 h2
    unfold ffst at e
    by_cases c : p k = true
    · rw [if_pos c] at e; cases e
    · rw [if_neg c] at e
      by_cases z : i = k
      · subst z; exact Bool.eq_false_iff.mpr c
      · exact ih e i (by omega) (by omega)
theorem ffst_is {p : Nat → Bool} {m k j : Nat} (h1 : k ≤ j) (h2 : j < k + m) (h3 : p j = true) (h4 : ∀ i, k ≤ i → i < j → p i = false) : ffst p m k = some j := by
  cases e : ffst p m k with
  | none => have := ffst_none e j h1 h2; rw [h3] at this; cases this
  | some i =>
    obtain ⟨a1, a2, a3, a4⟩ := ffst_some e
    rcases Nat.lt_trichotomy i j with c | c | c
    · have := h4 i a1 c; rw [a3] at this; cases this
    · rw [c]
    · have := a4 j h1 c; rw [h3] at this; cases this
theorem ffst_isn {p : Nat → Bool} {m k : Nat} (h4 : ∀ i, k ≤ i → i < k + m → p i = false) : ffst p m k = none := by
  cases e : ffst p m k with
  | none => rfl
  | some i => obtain ⟨a1, a2, a3, a4⟩ := ffst_some e
              have := h4 i a1 a2; rw [a3] at this; cases this
/-- an index, or -1 -/
def oI : Option Nat → Int32
  | none => -1
  | some k => nI k
theorem nI_ne_m1 {k : Nat} (hk : k < 2 ^ 31) : ¬ nI k = -1 := fun e => by
  have := congrArg Int32.toInt e
  rw [nI_toInt hk] at this
  have z : (-1 : Int32).toInt = -1 := by decide
  omega
theorem oI_m1 {o : Option Nat} (ho : ∀ k, o = some k → k < 2 ^ 31) : oI o = -1 ↔ o = none := by
  cases o with
  | none => exact ⟨fun _ => rfl, fun _ => rfl⟩
  | some k => exact ⟨fun e => absurd e (nI_ne_m1 (ho k rfl)), fun e => by cases e⟩
/-- sets -/
def one (k : Nat) : Int32 := 1 <<< (nI k &&& 31)
def hasB (s : Int32) (k : Nat) : Bool := decide ((s >>> (nI k &&& 31)) &&& 1 = 1)
def onlyO : Option Nat → Int32
  | none => 0
  | some k => one k
theorem bv5 {k : Nat} (hk : k < 32) : (nI k &&& 31) = nI k := by
  have : ∀ k, k < 32 → (nI k &&& 31) = nI k := by decide
  exact this k hk
theorem smod32 : ∀ k, k < 32 → ((nI k &&& 31).toBitVec.smod 32#32).toNat = k := by decide
theorem hasB_bit {s : Int32} {k : Nat} (hk : k < 32) : hasB s k = s.toBitVec.getLsbD k := by
  have e2 : ((s >>> (nI k &&& 31)) &&& 1 = 1) ↔ s.toBitVec.getLsbD k = true := by
    rw [← Int32.toBitVec_inj]
    rw [Int32.toBitVec_and, Int32.toBitVec_shiftRight]
    rw [show (1 : Int32).toBitVec = 1#32 from rfl]
    have g0 : (s.toBitVec.sshiftRight' ((nI k &&& 31).toBitVec.smod 32)).getLsbD 0 = s.toBitVec.getLsbD k := by
      rw [BitVec.sshiftRight', BitVec.getLsbD_sshiftRight, show ((nI k &&& 31).toBitVec.smod 32).toNat = k from smod32 k hk]
      simp [hk]
    rw [← g0]
    generalize s.toBitVec.sshiftRight' ((nI k &&& 31).toBitVec.smod 32) = x
    constructor
    · intro e
      have := congrArg (fun z => BitVec.getLsbD z 0) e
      simpa using this
    · intro e
      apply BitVec.eq_of_getLsbD_eq
      intro i hi
      rw [BitVec.getLsbD_and, BitVec.getLsbD_one]
      by_cases c : i = 0
      · subst c; simp [e]
      · simp [c]
  unfold hasB
  cases h : s.toBitVec.getLsbD k
  · rw [decide_eq_false]; rw [e2, h]; exact Bool.false_ne_true
  · rw [decide_eq_true]; rw [e2, h]
theorem hasB_or (s t : Int32) {k : Nat} (hk : k < 32) : hasB (s ||| t) k = (hasB s k || hasB t k) := by
  rw [hasB_bit hk, hasB_bit hk, hasB_bit hk, Int32.toBitVec_or, BitVec.getLsbD_or]
theorem hasB_and (s t : Int32) {k : Nat} (hk : k < 32) : hasB (s &&& t) k = (hasB s k && hasB t k) := by
  rw [hasB_bit hk, hasB_bit hk, hasB_bit hk, Int32.toBitVec_and, BitVec.getLsbD_and]
theorem hasB_one {j k : Nat} (hj : j < 32) (hk : k < 32) : hasB (one j) k = decide (j = k) := by
  have : ∀ j, j < 32 → ∀ k, k < 32 → hasB (one j) k = decide (j = k) := by decide +kernel
  exact this j hj k hk
theorem hasB_zero {k : Nat} (hk : k < 32) : hasB 0 k = false := by
  have : ∀ k, k < 32 → hasB 0 k = false := by decide +kernel
  exact this k hk
theorem hasB_ext {s t : Int32} (H : ∀ k, k < 32 → hasB s k = hasB t k) : s = t := by
  apply Int32.toBitVec_inj.mp
  apply BitVec.eq_of_getLsbD_eq
  intro i hi
  rw [← hasB_bit hi, ← hasB_bit hi]
  exact H i hi
/-- the set of those of the first n that are p -/
def mask (p : Nat → Bool) (n : Nat) : Int32 := fup (fun k x => if p k then x ||| one k else x) n 0 0
theorem hasB_mask (p : Nat → Bool) : ∀ n, n ≤ 32 → ∀ k, k < 32 → hasB (mask p n) k = (decide (k < n) && p k) := by
  intro n
  induction n with
  | zero => intro _ k hk; show hasB 0 k = _; rw [hasB_zero hk]; simp
  | succ n ih =>
    intro hn k hk
    have e : mask p (n + 1) = if p n then mask p n ||| one n else mask p n := by
      unfold mask; rw [fup_last, Nat.zero_add]
    rw [e]
    have ih := ih (by omega) k hk
    by_cases c : p n = true
    · rw [if_pos c, hasB_or _ _ hk, ih, hasB_one (by omega) hk]
      by_cases z : n = k
      · subst z; simp [c]
      · have : (k < n + 1) = (k < n) := propext ⟨fun _ => by omega, fun _ => by omega⟩
        simp [z, this]
    · rw [if_neg c, ih]
      by_cases z : n = k
      · subst z; simp [Bool.eq_false_iff.mpr c]
      · have : (k < n + 1) = (k < n) := propext ⟨fun _ => by omega, fun _ => by omega⟩
        simp [this]
theorem mask_congr {p q : Nat → Bool} {n : Nat} (H : ∀ k, k < n → p k = q k) : mask p n = mask q n := fup_congr _ _ _ (fun j y _ h2 => by rw [H j (by omega)])
