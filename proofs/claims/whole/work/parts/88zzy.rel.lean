/-! What every run keeps: a relation of heaps that each step respects -/
def okI (oF oO : Nat → Bool) (oA : Bool) (oM : Nat → Bool) : ClassFile.Instr → Bool
  | .putfield f => oF (f / 100 % 100)
  | .newarray _ => oA
  | .anewarray _ => oA
  | .new f => oO (f % 100)
  | .invokespecial m => Nat.beq m 0 || oM m
  | .invokevirtual m => oM m
  | .invokestatic m => oM m
  | _ => true
/-- the heaps that a step may come to -/
def HOP (oF oO : Nat → Bool) (oA : Bool) (h : AH) (P : AH → Prop) : Prop := P h ∧ (∀ f a v, oF (f / 100 % 100) = true → tg h a = f / 100 % 100 + 1 → P (setFI h f a v)) ∧ (∀ f a v, oF (f / 100 % 100) = true → tg h a = f / 100 % 100 + 1 → P (setFJ h f a v)) ∧ (∀ f a v, oF (f / 100 % 100) = true → tg h a = f / 100 % 100 + 1 → P (setFP h f a v)) ∧ (∀ a j v, tg h a = 101 ∨ tg h a = 103 ∨ tg h a = 104 → P (setAI h a j v)) ∧ (∀ a j v, tg h a = 102 → P (setAJ h a j v)) ∧ (∀ a j v, tg h a = 109 → P (setAP h a j v)) ∧ (∀ a i b j n, tg h b = 109 → P (cpyP h a i b j n)) ∧ (∀ t n, oA = true → P (newA h t n)) ∧ (∀ c n, oO c = true → P (newO h c n))
section
variable {oF oO : Nat → Bool} {oA : Bool} {h : AH} {P : AH → Prop}
theorem HOP.rf (z : HOP oF oO oA h P) : P h := z.1
theorem HOP.fi (z : HOP oF oO oA h P) : ∀ f a v, oF (f / 100 % 100) = true → tg h a = f / 100 % 100 + 1 → P (setFI h f a v) := z.2.1
theorem HOP.fj (z : HOP oF oO oA h P) : ∀ f a v, oF (f / 100 % 100) = true → tg h a = f / 100 % 100 + 1 → P (setFJ h f a v) := z.2.2.1
theorem HOP.fp (z : HOP oF oO oA h P) : ∀ f a v, oF (f / 100 % 100) = true → tg h a = f / 100 % 100 + 1 → P (setFP h f a v) := z.2.2.2.1
theorem HOP.ai (z : HOP oF oO oA h P) : ∀ a j v, tg h a = 101 ∨ tg h a = 103 ∨ tg h a = 104 → P (setAI h a j v) := z.2.2.2.2.1
theorem HOP.aj (z : HOP oF oO oA h P) : ∀ a j v, tg h a = 102 → P (setAJ h a j v) := z.2.2.2.2.2.1
theorem HOP.ap (z : HOP oF oO oA h P) : ∀ a j v, tg h a = 109 → P (setAP h a j v) := z.2.2.2.2.2.2.1
theorem HOP.cp (z : HOP oF oO oA h P) : ∀ a i b j n, tg h b = 109 → P (cpyP h a i b j n) := z.2.2.2.2.2.2.2.1
theorem HOP.na (z : HOP oF oO oA h P) : ∀ t n, oA = true → P (newA h t n) := z.2.2.2.2.2.2.2.2.1
theorem HOP.no (z : HOP oF oO oA h P) : ∀ c n, oO c = true → P (newO h c n) := z.2.2.2.2.2.2.2.2.2
end
theorem nn_R {o : Option Nat} {k k' : Nat → Prop} (H : ∀ a, k a → k' a) : nn o k → nn o k' := nn_mono H
theorem putf_R {oF oO : Nat → Bool} {oA : Bool} {f : Nat} {st : List V} {h : AH} {P : AH → Prop} {k k' : AH → List V → Prop} (hp : HOP oF oO oA h P) (ok : oF (f / 100 % 100) = true) (H : ∀ h' r, P h' → k h' r → k' h' r) : putf f st h k → putf f st h k' := by
  unfold putf; split
  · exact nn_mono fun _ z => ⟨z.1, H _ _ (hp.fi _ _ _ ok z.1) z.2⟩
  · exact nn_mono fun _ z => ⟨z.1, z.2.1, H _ _ (hp.fi _ _ _ ok z.1) z.2.2⟩
  · exact nn_mono fun _ z => ⟨z.1, H _ _ (hp.fj _ _ _ ok z.1) z.2⟩
  · exact nn_mono fun _ z => ⟨z.1, H _ _ (hp.fp _ _ _ ok z.1) z.2⟩
  · exact id
set_option maxHeartbeats 4000000 in
theorem stepC_rel {oF oO : Nat → Bool} {oA : Bool} {oM : Nat → Bool} {P : AH → Prop} {ins : ClassFile.Instr} {i : Nat} {st : List V} {ls : Ls} {h : AH} {K K' : Nat → List V → Ls → AH → Prop} {C C' : Nat → List V → List V → Prop} {R R' : Option V → AH → Prop} (hp : HOP oF oO oA h P) (ok : okI oF oO oA oM ins = true)
    (hK : ∀ i st ls h', P h' → K i st ls h' → K' i st ls h') (hC : ∀ m a r, oM m = true → C m a r → C' m a r) (hR : ∀ v, R v h → R' v h) : stepC ins i st ls h K C R → stepC ins i st ls h K' C' R' := by
  have hk : ∀ i st ls, K i st ls h → K' i st ls h := fun i st ls => hK i st ls h hp.rf
  unfold stepC
  split
  all_goals first
    | exact id
    | exact hk _ _ _
    | exact hR _
    | exact ldI_mono fun _ => hk _ _ _
    | exact ldL_mono fun _ => hk _ _ _
    | exact ldP_mono fun _ => hk _ _ _
    | exact i1_mono fun _ _ => hk _ _ _
    | exact i2_mono fun _ _ _ => hk _ _ _
    | exact i2_mono fun _ _ _ => and2 (hk _ _ _)
    | exact l1_mono fun _ _ => hk _ _ _
    | exact l2_mono fun _ _ _ => hk _ _ _
    | exact l2_mono fun _ _ _ => and2 (hk _ _ _)
    | exact li_mono fun _ _ _ => hk _ _ _
    | exact p1_mono fun _ _ => hk _ _ _
    | exact p1_mono fun _ _ => and2 (hk _ _ _)
    | exact p1_mono fun _ _ => nn_mono fun _ => and2 (hk _ _ _)
    | exact p1_mono fun _ _ => p1_mono fun _ _ => br2 (hk _ _ _) (hk _ _ _)
    | exact p1_mono fun _ _ => nn_mono fun _ => and2 (and2 (hk _ _ _))
    | exact p1_mono fun _ _ => br2 (hk _ _ _) (hk _ _ _)
    | exact p1_mono fun _ _ => br3 (hk _ _ _) (hk _ _ _)
    | exact i1_mono fun _ _ => br2 (hk _ _ _) (hk _ _ _)
    | exact i2_mono fun _ _ _ => br2 (hk _ _ _) (hk _ _ _)
    | exact pi_mono fun _ _ _ => nn_mono fun _ => and2 (and2 (hk _ _ _))
    | exact i1_mono fun _ _ => pi_mono fun _ _ _ => nn_mono fun _ z => ⟨z.1, z.2.1, hK _ _ _ _ (hp.ai _ _ _ (Or.inl z.1)) z.2.2⟩
    | exact i1_mono fun _ _ => pi_mono fun _ _ _ => nn_mono fun _ z => ⟨z.1, z.2.1, hK _ _ _ _ (hp.ai _ _ _ (Or.inr (z.1.elim (fun y => Or.inl y.1) (fun y => Or.inr y.1)))) z.2.2⟩
    | exact l1_mono fun _ _ => pi_mono fun _ _ _ => nn_mono fun _ z => ⟨z.1, z.2.1, hK _ _ _ _ (hp.aj _ _ _ z.1) z.2.2⟩
    | exact p1_mono fun _ _ => nn_mono fun _ => pi_mono fun _ _ _ => nn_mono fun _ z => ⟨z.1, z.2.1, z.2.2.1, hK _ _ _ _ (hp.ap _ _ _ z.1) z.2.2.2⟩
    | exact bI_mono (hk _ _ _) (hk _ _ _)
    | exact i1_mono fun _ _ => and2 (and2 (and2 (gB_mono (hK _ _ _ _ (hp.na _ _ ok)))))
    | exact i1_mono fun _ _ => and2 (and2 (and2 (hK _ _ _ _ (hp.na _ _ ok))))
    | exact and2 (and2 (hK _ _ _ _ (hp.no _ _ ok)))
    | exact gB_mono (hC _ _ _ ok)
    | exact gB_mono (hC _ _ _ (by rename_i m x; have ok' : (Nat.beq m 0 || oM m) = true := ok; rcases (Bool.or_eq_true _ _).mp ok' with q | q; exact absurd (Nat.eq_of_beq_eq_true q) x; exact q))
    | exact i2_mono fun _ _ _ => gB_mono (hk _ _ _)
    | exact p1_mono fun _ _ => nn_mono fun _ => gB_mono (hk _ _ _)
    | exact p1_mono fun _ _ => nn_mono fun _ => and2 (gB_mono (hk _ _ _))
    | exact putf_R hp ok fun _ _ q => hK _ _ _ _ q
    | exact i1_mono fun _ _ => hR _
    | exact i1_mono fun _ _ => and2 (hR _)
    | exact l1_mono fun _ _ => hR _
    | exact p1_mono fun _ _ => hR _
    | exact i1_mono fun _ _ H => ⟨fun z => hk _ _ _ (H.1 z), fun j hj z => hk _ _ _ (H.2 j hj z)⟩
    | skip
  all_goals first
    | (split <;> first | exact id | exact gB_mono (hk _ _ _) | exact and2 (hk _ _ _) | exact and2 (and2 (hk _ _ _)) | exact hR _ | exact and2 (hR _) | exact nn_mono fun _ => nn_mono fun _ z => ⟨z.1, z.2.1, z.2.2.1, z.2.2.2.1, hK _ _ _ _ (hp.cp _ _ _ _ _ z.2.1) z.2.2.2.2⟩)
/-- a relation that every step respects holds between the beginning and the end -/
theorem rel_run {oF oO : Nat → Bool} {oA : Bool} {oM : Nat → Bool} {ρ : AH → AH → Prop} (tr : ∀ a b c, ρ a b → ρ b c → ρ a c) (op : ∀ h, HOP oF oO oA h (ρ h)) (cl : ∀ k, oM k = true → ∀ ins, ins ∈ codeOf k → okI oF oO oA oM ins = true) {d k i : Nat} {st : List V} {ls : Ls} {h : AH} {Q : Option V → AH → Prop} (H : wp d k i st ls h Q) (hk : oM k = true) : wp d k i st ls h (fun v h' => Q v h' ∧ ρ h h') := by
  have G : oM k = true → ∀ h0, ρ h0 h → wp d k i st ls h (fun v h' => Q v h' ∧ ρ h0 h') := by
    refine H (fun d k i st ls h Q => oM k = true → ∀ h0, ρ h0 h → wp d k i st ls h (fun v h' => Q v h' ∧ ρ h0 h')) ?_ ?_
    · intro d k i st ls h Q Q' hQ z hk h0 a1
      exact wp_mono _ _ _ _ _ _ _ _ (fun v h' q => ⟨hQ _ _ q.1, q.2⟩) (z hk h0 a1)
    · intro d k i st ls h Q z hk h0 a1
      rw [wp_eq]
      unfold wpStep at z ⊢
      unfold insOf at z ⊢
      cases e : (codeOf k)[i]? with
      | none => rw [e] at z; exact z.elim
      | some ins =>
        rw [e] at z
        refine stepC_rel (op h) (cl k hk ins (List.mem_of_getElem? e)) (fun i' st' ls' h' f y => y hk h0 (tr _ _ _ a1 f)) (fun m a r om y => ?_) (fun v y => ⟨y, a1⟩) z
        unfold callP at y ⊢
        split at y
        · exact y.elim
        · exact recOk_mono (fun y => wp_mono _ _ _ _ _ _ _ _ (fun v h' q => q.1 hk h0 (tr _ _ _ a1 q.2)) (y om h (op h).rf)) y
  exact G hk h (op h).rf
/-- what no run touches -/
def OL (h h' : AH) : Prop := tp h ≤ tp h' ∧ (∀ x, x < tp h → tg h' x = tg h x ∧ ln h' x = ln h x) ∧
  (∀ f x, (69 ≤ f / 100 % 100 ∨ (x < tp h ∧ ¬ tg h x = f / 100 % 100 + 1)) → fI h' f x = fI h f x ∧ fJ h' f x = fJ h f x ∧ fP h' f x = fP h f x) ∧
  (∀ x, x < tp h → ¬ (tg h x = 101 ∨ tg h x = 103 ∨ tg h x = 104) → ∀ i, aI h' x i = aI h x i) ∧ (∀ x, x < tp h → ¬ tg h x = 102 → ∀ i, aJ h' x i = aJ h x i) ∧ ∀ x, x < tp h → ¬ tg h x = 109 → ∀ i, aP h' x i = aP h x i
theorem OL.rf {h : AH} : OL h h := ⟨Nat.le_refl _, fun _ _ => ⟨rfl, rfl⟩, fun _ _ _ => ⟨rfl, rfl, rfl⟩, fun _ _ _ _ => rfl, fun _ _ _ _ => rfl, fun _ _ _ _ => rfl⟩
theorem OL.tr {h h' h'' : AH} (a : OL h h') (b : OL h' h'') : OL h h'' := by
  obtain ⟨a1, a2, a3, a4, a5, a6⟩ := a
  obtain ⟨b1, b2, b3, b4, b5, b6⟩ := b
  refine ⟨by omega, fun x hx => ?_, fun f x hx => ?_, fun x hx ht i => ?_, fun x hx ht i => ?_, fun x hx ht i => ?_⟩
  · have p := a2 x hx
    have q := b2 x (by omega)
    exact ⟨q.1.trans p.1, q.2.trans p.2⟩
  · have p := a3 f x hx
    have q := b3 f x (hx.imp id (fun z => ⟨by omega, by rw [(a2 x z.1).1]; exact z.2⟩))
    exact ⟨q.1.trans p.1, q.2.1.trans p.2.1, q.2.2.trans p.2.2⟩
  · rw [b4 x (by omega) (by rw [(a2 x hx).1]; exact ht) i, a4 x hx ht i]
  · rw [b5 x (by omega) (by rw [(a2 x hx).1]; exact ht) i, a5 x hx ht i]
  · rw [b6 x (by omega) (by rw [(a2 x hx).1]; exact ht) i, a6 x hx ht i]
theorem OL.op (h : AH) : HOP (fun c => decide (c < 69)) (fun c => decide (c < 69)) true h (OL h) := ⟨OL.rf,
  fun f a v ok ht => ⟨Nat.le_refl _, fun _ _ => ⟨rfl, rfl⟩, fun g x hx => ⟨by
    rw [fI_setFI, if_neg (fun z => by
      have := of_decide_eq_true ok
      rcases hx with hx | hx
      · rw [z.1] at hx; omega
      · rw [z.1, z.2] at hx; exact hx.2 ht)], rfl, rfl⟩, fun _ _ _ _ => rfl, fun _ _ _ _ => rfl, fun _ _ _ _ => rfl⟩,
  fun f a v ok ht => ⟨Nat.le_refl _, fun _ _ => ⟨rfl, rfl⟩, fun g x hx => ⟨rfl, by
    rw [fJ_setFJ, if_neg (fun z => by
      have := of_decide_eq_true ok
      rcases hx with hx | hx
      · rw [z.1] at hx; omega
      · rw [z.1, z.2] at hx; exact hx.2 ht)], rfl⟩, fun _ _ _ _ => rfl, fun _ _ _ _ => rfl, fun _ _ _ _ => rfl⟩,
  fun f a v ok ht => ⟨Nat.le_refl _, fun _ _ => ⟨rfl, rfl⟩, fun g x hx => ⟨rfl, rfl, by
    rw [fP_setFP, if_neg (fun z => by
      have := of_decide_eq_true ok
      rcases hx with hx | hx
      · rw [z.1] at hx; omega
      · rw [z.1, z.2] at hx; exact hx.2 ht)]⟩, fun _ _ _ _ => rfl, fun _ _ _ _ => rfl, fun _ _ _ _ => rfl⟩,
  fun a j v ht => ⟨Nat.le_refl _, fun _ _ => ⟨rfl, rfl⟩, fun _ _ _ => ⟨rfl, rfl, rfl⟩, fun x _ nx i => by
    rw [aI_setAI, if_neg (fun z => by rw [z.1] at nx; exact nx ht)], fun _ _ _ _ => rfl, fun _ _ _ _ => rfl⟩,
  fun a j v ht => ⟨Nat.le_refl _, fun _ _ => ⟨rfl, rfl⟩, fun _ _ _ => ⟨rfl, rfl, rfl⟩, fun _ _ _ _ => rfl, fun x _ nx i => by
    rw [aJ_setAJ, if_neg (fun z => by rw [z.1] at nx; exact nx ht)], fun _ _ _ _ => rfl⟩,
  fun a j v ht => ⟨Nat.le_refl _, fun _ _ => ⟨rfl, rfl⟩, fun _ _ _ => ⟨rfl, rfl, rfl⟩, fun _ _ _ _ => rfl, fun _ _ _ _ => rfl, fun x _ nx i => by
    rw [aP_setAP, if_neg (fun z => by rw [z.1] at nx; exact nx ht)]⟩,
  fun a i b j n ht => ⟨Nat.le_refl _, fun _ _ => ⟨rfl, rfl⟩, fun _ _ _ => ⟨rfl, rfl, rfl⟩, fun _ _ _ _ => rfl, fun _ _ _ _ => rfl, fun x _ nx k => by
    show (if x = b ∧ j ≤ k ∧ k < j + n then aP h a (i + (k - j)) else aP h x k) = _
    rw [if_neg (fun z => by rw [z.1] at nx; exact nx ht)]⟩,
  fun t n _ => ⟨by rw [tp_newA]; omega, fun x hx => ⟨by rw [tg_newA, if_neg (by omega)], by rw [ln_newA, if_neg (by omega)]⟩, fun f x _ => ⟨rfl, rfl, rfl⟩, fun x hx _ i => by rw [aI_newA, if_neg (by omega)], fun x hx _ i => by rw [aJ_newA, if_neg (by omega)], fun x hx _ i => by rw [aP_newA, if_neg (by omega)]⟩,
  fun c n ok => ⟨by rw [tp_newO]; omega, fun x hx => ⟨by rw [tg_newO, if_neg (by omega)], rfl⟩, fun f x hx => by
    have := of_decide_eq_true ok
    have nz : ¬ (x = tp h ∧ f / 100 % 100 = c) := fun z => by
      rcases hx with hx | hx
      · omega
      · have := hx.1; omega
    exact ⟨by rw [fI_newO, if_neg nz], by rw [fJ_newO, if_neg nz], by rw [fP_newO, if_neg nz]⟩, fun x hx _ i => rfl, fun x hx _ i => rfl, fun x hx _ i => rfl⟩⟩
theorem codeN_ok : ∀ n, n < 242 → (codeN n).all (okI (fun c => decide (c < 69)) (fun c => decide (c < 69)) true (fun _ => true)) = true := by decide +kernel
theorem codeN_hi {n : Nat} (hn : 241 ≤ n) : codeN n = codeN 241 := by
  have e : codeN n = cd_J3_checkFromToIndex_8c36e := by
    unfold codeN
    rw [if_neg (show ¬ n < 121 by omega), if_neg (show ¬ n < 181 by omega), if_neg (show ¬ n < 211 by omega), if_neg (show ¬ n < 226 by omega), if_neg (show ¬ n < 234 by omega), if_neg (show ¬ n < 238 by omega), if_neg (show ¬ n < 240 by omega), if_neg (show ¬ n < 241 by omega)]
  rw [e]; rfl
theorem OL.run {d k i : Nat} {st : List V} {ls : Ls} {h : AH} {Q : Option V → AH → Prop} (H : wp d k i st ls h Q) : wp d k i st ls h (fun v h' => Q v h' ∧ OL h h') := by
  refine rel_run (ρ := OL) (oM := fun _ => true) (fun a b c x y => x.tr y) OL.op (fun k _ ins m => ?_) H rfl
  unfold codeOf at m
  by_cases y : k / 1000000 < 242
  · exact List.all_eq_true.mp (codeN_ok _ y) ins m
  · rw [codeN_hi (by omega)] at m
    exact List.all_eq_true.mp (codeN_ok 241 (by omega)) ins m
/-- the reference's methods make nothing new -/
def refM (k : Nat) : Bool := Nat.ble 116 (k / 1000000) && Nat.ble (k / 1000000) 192
def SAM (h h' : AH) : Prop := tp h' = tp h ∧ rc h' = rc h ∧ rs h' = rs h
theorem SAM.op (oF : Nat → Bool) (h : AH) : HOP oF (fun _ => false) false h (SAM h) := ⟨⟨rfl, rfl, rfl⟩,
  fun _ _ _ _ _ => ⟨rfl, rfl, rfl⟩,
  fun _ _ _ _ _ => ⟨rfl, rfl, rfl⟩,
  fun _ _ _ _ _ => ⟨rfl, rfl, rfl⟩,
  fun _ _ _ _ => ⟨rfl, rfl, rfl⟩,
  fun _ _ _ _ => ⟨rfl, rfl, rfl⟩,
  fun _ _ _ _ => ⟨rfl, rfl, rfl⟩,
  fun _ _ _ _ _ _ => ⟨rfl, rfl, rfl⟩,
  fun _ _ z => (by cases z),
  fun _ _ z => (by cases z)⟩
theorem refM_ok : ∀ n, n < 242 → 116 ≤ n → n ≤ 192 → (codeN n).all (okI (fun _ => true) (fun _ => false) false refM) = true := by decide +kernel
theorem SAM.run {d k i : Nat} {st : List V} {ls : Ls} {h : AH} {Q : Option V → AH → Prop} (H : wp d k i st ls h Q) (hk : refM k = true) : wp d k i st ls h (fun v h' => Q v h' ∧ SAM h h') := by
  refine rel_run (ρ := SAM) (oM := refM) (fun a b c x y => ⟨y.1.trans x.1, y.2.1.trans x.2.1, y.2.2.trans x.2.2⟩) (SAM.op (fun _ => true)) (fun k hk ins m => ?_) H hk
  unfold codeOf at m
  have z := hk
  unfold refM at z
  rw [Bool.and_eq_true] at z
  have z1 := Nat.le_of_ble_eq_true z.1
  have z2 := Nat.le_of_ble_eq_true z.2
  exact List.all_eq_true.mp (refM_ok _ (by omega) z1 z2) ins m
/-- the reference's methods write its own fields alone -/
def RFO (h h' : AH) : Prop := ∀ f x, ¬ f / 100 % 100 = 14 → fI h' f x = fI h f x ∧ fJ h' f x = fJ h f x ∧ fP h' f x = fP h f x
theorem RFO.op (h : AH) : HOP (fun c => decide (c = 14)) (fun _ => false) false h (RFO h) := ⟨fun _ _ _ => ⟨rfl, rfl, rfl⟩,
  fun f a v ok _ g x ng => ⟨by rw [fI_setFI, if_neg (fun z => ng (by rw [z.1]; exact of_decide_eq_true ok))], rfl, rfl⟩,
  fun f a v ok _ g x ng => ⟨rfl, by rw [fJ_setFJ, if_neg (fun z => ng (by rw [z.1]; exact of_decide_eq_true ok))], rfl⟩,
  fun f a v ok _ g x ng => ⟨rfl, rfl, by rw [fP_setFP, if_neg (fun z => ng (by rw [z.1]; exact of_decide_eq_true ok))]⟩,
  fun _ _ _ _ _ _ _ => ⟨rfl, rfl, rfl⟩, fun _ _ _ _ _ _ _ => ⟨rfl, rfl, rfl⟩, fun _ _ _ _ _ _ _ => ⟨rfl, rfl, rfl⟩, fun _ _ _ _ _ _ _ _ _ => ⟨rfl, rfl, rfl⟩, fun _ _ z => (by cases z), fun _ _ z => (by cases z)⟩
theorem refF_ok : ∀ n, n < 242 → 116 ≤ n → n ≤ 192 → (codeN n).all (okI (fun c => decide (c = 14)) (fun _ => false) false refM) = true := by decide +kernel
theorem RFO.run {d k i : Nat} {st : List V} {ls : Ls} {h : AH} {Q : Option V → AH → Prop} (H : wp d k i st ls h Q) (hk : refM k = true) : wp d k i st ls h (fun v h' => Q v h' ∧ RFO h h') := by
  refine rel_run (ρ := RFO) (oM := refM) (fun a b c x y f z nf => ⟨(y f z nf).1.trans (x f z nf).1, (y f z nf).2.1.trans (x f z nf).2.1, (y f z nf).2.2.trans (x f z nf).2.2⟩) RFO.op (fun k hk ins m => ?_) H hk
  unfold codeOf at m
  have z := hk
  unfold refM at z
  rw [Bool.and_eq_true] at z
  have z1 := Nat.le_of_ble_eq_true z.1
  have z2 := Nat.le_of_ble_eq_true z.2
  exact List.all_eq_true.mp (refF_ok _ (by omega) z1 z2) ins m
/-- all that a run of the reference leaves as it was -/
theorem ref_run {S : Nat → Prop} {d k i : Nat} {st : List V} {ls : Ls} {h : AH} {Q : Option V → AH → Prop} (H : wp d k i st ls h Q) (hk : refM k = true) (hI : NP S h) (hst : okS S st) (hls : okL S ls) : wp d k i st ls h (fun v h' => Q v h' ∧ SAM h h' ∧ NP S h' ∧ FX (fun g y => ¬ S y ∧ (g / 100 % 100 = 14 ∨ ((g = 90001 ∨ g = 90003) ∧ (tg h y = 101 ∨ tg h y = 102 ∨ tg h y = 103 ∨ tg h y = 104 ∨ tg h y = 109)))) h h') := by
  refine wp_mono _ _ _ _ _ _ _ _ (fun v h' q => ?_) (OL.run (SAM.run (RFO.run (frame H hI hst hls) hk) hk))
  obtain ⟨⟨⟨⟨q1, q2, q3, -⟩, q4⟩, q5⟩, q6⟩ := q
  obtain ⟨a1, a2, a3, a4, a5, a6⟩ := q6
  refine ⟨q1, q5, q3, a1, a2, fun f x hx ne => ?_, fun x hx ne j => ?_, fun x hx ne j => ?_⟩
  · by_cases y : f / 100 % 100 = 14
    · have sx : S x := Classical.byContradiction (fun z => ne ⟨z, Or.inl y⟩)
      have := q2.1 x sx
      exact ⟨this.1 f, this.2.1 f, this.2.2.1 f⟩
    · exact q4 f x y
  · by_cases y : S x
    · have := q2.1 x y
      exact ⟨this.2.2.2.1 j, this.2.2.2.2.1 j⟩
    · have n : ¬ (tg h x = 101 ∨ tg h x = 102 ∨ tg h x = 103 ∨ tg h x = 104 ∨ tg h x = 109) := fun z => ne ⟨y, Or.inr ⟨Or.inl rfl, z⟩⟩
      exact ⟨a4 x hx (by omega) j, a5 x hx (by omega) j⟩
  · by_cases y : S x
    · exact (q2.1 x y).2.2.2.2.2.1 j
    · have n : ¬ (tg h x = 101 ∨ tg h x = 102 ∨ tg h x = 103 ∨ tg h x = 104 ∨ tg h x = 109) := fun z => ne ⟨y, Or.inr ⟨Or.inr rfl, z⟩⟩
      exact a6 x hx (by omega) j
