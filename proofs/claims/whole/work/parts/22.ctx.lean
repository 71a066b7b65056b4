/-! THE CONTEXT of a method's walk; runs of the machine that my runs stand for -/
def nestW (s : State) : Prop := (∀ a i b n d z, Cond.fieldLinkNest a i b n d z ∈ lw_tbl → va_Nw (.fieldLinkNest a i b n d z) s) ∧ ∀ a i x z, Cond.methodLinkNest a i x z ∈ lw_tbl → va_Nw (.methodLinkNest a i x z) s
abbrev oA (w : Wd) : Nat → Prop := fun q => bs w ≤ q
abbrev oH (w : Wd) : Heap := w.2.2.2.1
/-- the value of a static -/
def gsV (w : Wd) (v : Nat) : Value := if v = 1 then .int 1 else if v = 2 then .int 127 else if v = 50 then .ref (exA w 20) else if v = 51 then .ref (exA w 22) else va_rf (if exA w 23 = 0 then none else some (exA w 23 - 1))
/-- of old things: texts, statics, the empty array, the class of arrays of objects; casts to Object -/
def KX (w : Wd) (s : State) : Prop :=
  vk_S 6 lenS bytS (fun i => exA w i) (fun i => exA w (10 + i)) (oA w) s (oH w) ∧
  (∀ q ∈ slk, ∀ own t, ocN[q.1]? = some own → strT[q.2.2.1]? = some t → vk_R own q.2.1 t (exA w q.2.2.1) s) ∧
  (∀ v, v = 1 ∨ v = 2 ∨ v = 50 ∨ v = 51 ∨ v = 52 → va_Z (gsN v).1 (gsN v).2.1 (gsN v).2.2 (gsV w v) (oA w) s (oH w)) ∧
  va_T (.object "java/lang/Object") (exA w 20) 0 (fun _ => .null) (oA w) s (oH w) ∧
  va_Mi "[Ljava/lang/Object;" (exA w 21) s ∧ va_Dc s ∧ va_AO "java/lang/Object" s ∧ (∀ C, Cond.castable C "java/lang/Object" ∈ lw_tbl → va_Nw (.castable C "java/lang/Object") s)
theorem KX.warm {w : Wd} {s U : State} (hW : s.WarmedH U.vm) (h : KX w s) : KX w U := by
  obtain ⟨h1, h2, h3, h4, h5, h6, h7, h8⟩ := h
  exact ⟨vk_S.moved hW.alike h1, fun q hq own t a b => vk_R.warm hW (h2 q hq own t a b), fun v hv => va_Z.moved hW.alike (h3 v hv), va_T.moved hW.alike h4, va_Mi.moved hW.alike h5, va_Dc.moved hW.alike h6, va_AO.moved hW.alike h7, fun C hC => va_Nw.warmC hW (h8 C hC)⟩
theorem KX.same {w : Wd} {s U : State} (hv : s.vm = U.vm) (h : KX w s) : KX w U := by
  have ha : s.vm.Alike U.vm := by rw [← hv]; exact Vm.Alike.refl s.vm
  obtain ⟨h1, h2, h3, h4, h5, h6, h7, h8⟩ := h
  exact ⟨vk_S.moved ha h1, fun q hq own t a b => vk_R.same hv.symm (h2 q hq own t a b), fun v hv => va_Z.moved ha (h3 v hv), va_T.moved ha h4, va_Mi.moved ha h5, va_Dc.moved ha h6, va_AO.moved ha h7, fun C hC => va_Nw.same rfl hv (h8 C hC)⟩
def KW (w : Wd) (s : State) : Prop := va_K w.1 vwCl (atys w) s ∧ nestW s ∧ (s.isArrayOf w.2.2.2.2.1 .int ∧ w.2.2.2.2.1.vm ≠ .unknown) ∧ KX w s
theorem KW.warm {w : Wd} {s U : State} (hW : s.WarmedH U.vm) (h : KW w s) : KW w U :=
  ⟨va_K.moved hW.alike h.1, ⟨fun a i b n d z hm => va_Nw.warmF hW (h.2.1.1 a i b n d z hm), fun a i x z hm => va_Nw.warmM hW (h.2.1.2 a i x z hm)⟩, ⟨State.isArrayOf_alike hW.alike h.2.2.1.1, h.2.2.1.2⟩, h.2.2.2.warm hW⟩
theorem KW.same {w : Wd} {s U : State} (hv : s.vm = U.vm) (h : KW w s) : KW w U := by
  have ha : s.vm.Alike U.vm := by rw [← hv]; exact Vm.Alike.refl s.vm
  exact ⟨va_K.moved ha h.1, ⟨fun a i b n d z hm => va_Nw.same rfl hv (h.2.1.1 a i b n d z hm), fun a i x z hm => va_Nw.same rfl hv (h.2.1.2 a i x z hm)⟩, ⟨State.isArrayOf_alike ha h.2.2.1.1, h.2.2.1.2⟩, h.2.2.2.same hv⟩
def CT (w : Wd) (p : Program) (s : State) (m : MethodId) (args : Array Value) (meth : Method) (c : Code) (y : MethodName) (b : ByteArray) (L : Nat) (rt : Option FieldType) : Prop :=
  p.tables.exec = Jvm.exec ∧ c.code = b ∧ c.maxLocals = L ∧ s.vm.findClass y.cls = some m.cls ∧ (∀ x ∈ lw_good, x.before args s = true) ∧ KW w s ∧ meth.sig.returnType = rt ∧ meth.locks = false ∧ (y.name = "<init>" → meth.name = "<init>")
def ST (w : Wd) (d : Nat) (R : Room) (L : Nat) (h h' : AH) (H : Heap) (lsA : Array Slot) (ls : Ls) (cells slots : Nat) (locs : List Loc) : Prop :=
  HR w h H ∧ lv_has lsA L (VL ls) ∧ (cells + (rc h - rc h') ≤ R.cells ∧ slots + (rs h - rs h') ≤ R.slots ∧ rs h ≤ 8000000) ∧ (∀ q ∈ locs, w.2.2.1 ≤ q.base) ∧ d + 1 ≤ R.frames ∧ 41 * d + 30 ≤ R.locals
def QC (w : Wd) (v : Option V) (h' : AH) : Array Value → State → Outcome → State → Prop := fun _ _ o t => o = .returned (v.map VA) ∧ HR w h' t.heap
def MR (w : Wd) (l : Launch) (d k i : Nat) (st : List V) (ls : Ls) (h : AH) (v : Option V) (h' : AH) : Prop :=
  ∀ (p : Program) (e : Env) (R : Room) (s : State) (m : MethodId) (args : Array Value) (below : List Frame) (meth : Method) (c : Code) (oc : Nat) (y : MethodName) (b : ByteArray) (L : Nat) (rt : Option FieldType) (ws pcs : List Nat) (pc : Nat) (H : Heap) (locs : List Loc) (cells slots : Nat) (lsA : Array Slot),
    minf (k / 1000000) = (oc, y, b, L, rt, ws, pcs) → CT w p s m args meth c y b L rt → ST w d R L h h' H lsA ls cells slots locs → pcs[i]? = some pc →
    W p l e R s m args below meth c H locs cells slots (MQ below (QC w v h') args s (cells + (rc h - rc h')) (slots + (rs h - rs h')) (fun q => w.2.2.1 ≤ q)) (F0 m pc lsA (st.map VA))
def EX (w : Wd) (l : Launch) (d k i : Nat) (st : List V) (ls : Ls) (h : AH) (Q : Option V → AH → Prop) : Prop := ∃ v h', Q v h' ∧ (rc h' ≤ rc h ∧ rs h' ≤ rs h) ∧ MR w l d k i st ls h v h'
theorem vcat_eq (v : V) : (VA v).category = vcat v := by
  rcases v with x | x | x
  · rfl
  · rfl
  · cases x <;> rfl
theorem catS_eq (st : List V) : ((st.map VA).map fun v => v.category).sum = catS st := by
  induction st with
  | nil => rfl
  | cons v r ih => simp only [List.map_cons, List.sum_cons, catS, ih, vcat_eq]
theorem ld_mem : ∀ {ls : Ls} {i : Nat} {v : V}, ld ls i = some v → (i, v) ∈ ls := by
  intro ls
  induction ls with
  | nil => intro i v h; simp [ld] at h
  | cons q r ih =>
    intro i v h
    simp only [ld] at h
    split at h
    · rename_i e
      cases h
      subst e
      exact List.mem_cons_self
    · exact List.mem_cons_of_mem _ (ih h)
theorem ld_at {lsA : Array Slot} {L : Nat} {ls : Ls} {i : Nat} {v : V} (h : lv_has lsA L (VL ls)) (hd : ld ls i = some v) : lsA[i]? = some (.val (VA v)) := h.2.2 (i, VA v) (List.mem_map.mpr ⟨_, ld_mem hd, rfl⟩)
theorem insL_mem {i : Nat} {v : V} : ∀ {ls : Ls} {q : Nat × V}, q ∈ insL i v ls → q = (i, v) ∨ q ∈ ls := by
  intro ls
  induction ls with
  | nil => intro q h; simp only [insL, List.mem_singleton] at h; exact Or.inl h
  | cons x r ih =>
    intro q h
    simp only [insL] at h
    split at h
    · rcases List.mem_cons.mp h with h | h
      · exact Or.inl h
      · exact Or.inr h
    · rcases List.mem_cons.mp h with h | h
      · exact Or.inr (by rw [h]; exact List.mem_cons_self)
      · rcases ih h with h | h
        · exact Or.inl h
        · exact Or.inr (List.mem_cons_of_mem _ h)
theorem has_sub {lsA : Array Slot} {L : Nat} {a b : List (Nat × Value)} (h : lv_has lsA L a) (hs : ∀ q ∈ b, q ∈ a) : lv_has lsA L b := ⟨h.1, h.2.1, fun q hq => h.2.2 q (hs q hq)⟩
theorem st1_sub (ls : Ls) (i : Nat) (v : V) : ∀ q ∈ VL (st1 ls i v), q ∈ (i, VA v) :: (VL ls).filter (fun q => !(q.1 == i) && !(q.1 + 1 == i && q.2.category == 2)) := by
  intro q hq
  obtain ⟨⟨j, x⟩, hx, rfl⟩ := List.mem_map.mp hq
  rcases insL_mem hx with h | h
  · cases h; exact List.mem_cons_self
  · obtain ⟨h1, h2⟩ := List.mem_filter.mp h
    refine List.mem_cons_of_mem _ (List.mem_filter.mpr ⟨List.mem_map.mpr ⟨_, h1, rfl⟩, ?_⟩)
    simp only [vcat_eq]
    exact h2
theorem st2_sub (ls : Ls) (i : Nat) (v : V) : ∀ q ∈ VL (st2 ls i v), q ∈ (i, VA v) :: (VL ls).filter (fun q => !(q.1 == i) && (!(q.1 == i + 1) && !(q.1 + 1 == i && q.2.category == 2))) := by
  intro q hq
  obtain ⟨⟨j, x⟩, hx, rfl⟩ := List.mem_map.mp hq
  rcases insL_mem hx with h | h
  · cases h; exact List.mem_cons_self
  · obtain ⟨h1, h2⟩ := List.mem_filter.mp h
    refine List.mem_cons_of_mem _ (List.mem_filter.mpr ⟨List.mem_map.mpr ⟨_, h1, rfl⟩, ?_⟩)
    simp only [vcat_eq]
    exact h2
theorem ent_args : ∀ (args : List V) (i : Nat), VL (ent i args) = lv_args i (args.map VA) := by
  intro args
  induction args with
  | nil => intro i; rfl
  | cons v r ih =>
    intro i
    have e : (if (VA v).category = 2 then i + 2 else i + 1) = i + vcat v := by
      rw [vcat_eq]
      rcases v with x | x | x <;> rfl
    simp only [ent, List.map_cons, lv_args]
    rw [e, ← ih]
    rfl
theorem lg_len : ∀ args : List V, (lg_sl (args.map VA)).length = catS args := by
  intro args
  induction args with
  | nil => rfl
  | cons v r ih =>
    have e : lg_sl (VA v :: r.map VA) = (if (VA v).category = 2 then [.val (VA v), .second] else [.val (VA v)]) ++ lg_sl (r.map VA) := rfl
    rw [List.map_cons, e, List.length_append, ih, vcat_eq, catS]
    rcases v with x | x | x <;> rfl
section EXS
variable {w : Wd} {l : Launch} {d k i j : Nat} {ls ls' : Ls} {st st' : List V} {h h1 : AH} {Q : Option V → AH → Prop} {oc : Nat} {y : MethodName} {b : ByteArray} {L : Nat} {rt : Option FieldType} {ws pcs : List Nat} {pc pc' : Nat}
/-- a step that changes neither heap nor locals -/
theorem ex_pure (hm : minf (k / 1000000) = (oc, y, b, L, rt, ws, pcs)) (hpc : pcs[i]? = some pc) (hn : pcs[j]? = some pc')
    (hk : EX w l d k j st' ls h Q)
    (hrow : ∀ (p : Program) (e : Env) (R : Room) (s : State) (m : MethodId) (args : Array Value) (below : List Frame) (meth : Method) (c : Code) (H : Heap) (locs : List Loc) (cells slots : Nat) (Q' : State → Prop) (lsA : Array Slot),
      CT w p s m args meth c y b L rt → HR w h H → lv_has lsA L (VL ls) → (cells ≤ R.cells ∧ slots ≤ R.slots ∧ 1 ≤ R.frames ∧ 30 ≤ R.locals) → W p l e R s m args below meth c H locs cells slots Q' (F0 m pc' lsA (st'.map VA)) → W p l e R s m args below meth c H locs cells slots Q' (F0 m pc lsA (st.map VA))) : EX w l d k i st ls h Q := by
  obtain ⟨v, h', hq, hr, hM⟩ := hk
  refine ⟨v, h', hq, hr, ?_⟩
  intro p e R s m args below meth c oc2 y2 b2 L2 rt2 ws2 pcs2 pc2 H locs cells slots lsA hm2 hC hS hp
  cases hm.symm.trans hm2
  cases hpc.symm.trans hp
  have hS2 := hS
  obtain ⟨-, -, ⟨z1, z2, -⟩, -, z3, z4⟩ := hS2
  exact hrow p e R s m args below meth c H locs cells slots _ lsA hC hS.1 hS.2.1 ⟨by omega, by omega, by omega, by omega⟩ (hM p e R s m args below meth c oc y b L rt ws pcs pc' H locs cells slots lsA hm hC hS hn)
/-- a step that changes locals -/
theorem ex_loc (hm : minf (k / 1000000) = (oc, y, b, L, rt, ws, pcs)) (hpc : pcs[i]? = some pc) (hn : pcs[j]? = some pc')
    (hk : EX w l d k j st' ls' h Q)
    (hrow : ∀ (p : Program) (e : Env) (R : Room) (s : State) (m : MethodId) (args : Array Value) (below : List Frame) (meth : Method) (c : Code) (H : Heap) (locs : List Loc) (cells slots : Nat) (Q' : State → Prop) (lsA : Array Slot),
      CT w p s m args meth c y b L rt → lv_has lsA L (VL ls) → (∀ lsB, lv_has lsB L (VL ls') → W p l e R s m args below meth c H locs cells slots Q' (F0 m pc' lsB (st'.map VA))) → W p l e R s m args below meth c H locs cells slots Q' (F0 m pc lsA (st.map VA))) : EX w l d k i st ls h Q := by
  obtain ⟨v, h', hq, hr, hM⟩ := hk
  refine ⟨v, h', hq, hr, ?_⟩
  intro p e R s m args below meth c oc2 y2 b2 L2 rt2 ws2 pcs2 pc2 H locs cells slots lsA hm2 hC hS hp
  cases hm.symm.trans hm2
  cases hpc.symm.trans hp
  exact hrow p e R s m args below meth c H locs cells slots _ lsA hC hS.2.1 (fun lsB hB => hM p e R s m args below meth c oc y b L rt ws pcs pc' H locs cells slots lsB hm hC ⟨hS.1, hB, hS.2.2⟩ hn)
/-- a step that changes an old cell -/
theorem ex_put (hm : minf (k / 1000000) = (oc, y, b, L, rt, ws, pcs)) (hpc : pcs[i]? = some pc) (hn : pcs[j]? = some pc') (hrc : rc h1 = rc h) (hrs : rs h1 = rs h)
    (hk : EX w l d k j st' ls h1 Q)
    (hrow : ∀ (p : Program) (e : Env) (R : Room) (s : State) (m : MethodId) (args : Array Value) (below : List Frame) (meth : Method) (c : Code) (H : Heap) (locs : List Loc) (cells slots : Nat) (Q' : State → Prop) (lsA : Array Slot),
      CT w p s m args meth c y b L rt → HR w h H → (∀ (H1 : Heap) (a sl : Nat), HR w h1 H1 → w.2.2.1 ≤ a → W p l e R s m args below meth c H1 (locs ++ [⟨a, sl⟩]) cells slots Q' (F0 m pc' lsA (st'.map VA))) → W p l e R s m args below meth c H locs cells slots Q' (F0 m pc lsA (st.map VA))) : EX w l d k i st ls h Q := by
  obtain ⟨v, h', hq, hr, hM⟩ := hk
  rw [hrc, hrs] at hr
  refine ⟨v, h', hq, hr, ?_⟩
  intro p e R s m args below meth c oc2 y2 b2 L2 rt2 ws2 pcs2 pc2 H locs cells slots lsA hm2 hC hS hp
  cases hm.symm.trans hm2
  cases hpc.symm.trans hp
  refine hrow p e R s m args below meth c H locs cells slots _ lsA hC hS.1 (fun H1 a sl hH ha => ?_)
  have hM2 := hM p e R s m args below meth c oc y b L rt ws pcs pc' H1 (locs ++ [⟨a, sl⟩]) cells slots lsA hm hC ⟨hH, hS.2.1, by rw [hrc, hrs]; exact hS.2.2.1, fun q hq => by
    rcases List.mem_append.mp hq with z | z
    · exact hS.2.2.2.1 q z
    · rw [List.mem_singleton.mp z]; exact ha, hS.2.2.2.2⟩ hn
  rw [hrc, hrs] at hM2
  exact hM2
/-- a step that makes a cell of n slots -/
theorem ex_new (hm : minf (k / 1000000) = (oc, y, b, L, rt, ws, pcs)) (hpc : pcs[i]? = some pc) (hn : pcs[j]? = some pc') {n : Nat} (hrc : rc h1 = rc h - 1) (hrs : rs h1 = rs h - n) (hg : 0 < rc h) (hgs : n ≤ rs h)
    (hk : EX w l d k j st' ls h1 Q)
    (hrow : ∀ (p : Program) (e : Env) (R : Room) (s : State) (m : MethodId) (args : Array Value) (below : List Frame) (meth : Method) (c : Code) (H : Heap) (locs : List Loc) (cells slots : Nat) (Q' : State → Prop) (lsA : Array Slot),
      CT w p s m args meth c y b L rt → HR w h H → cells + 1 ≤ R.cells → slots + n ≤ R.slots → n ≤ 8000000 → (∀ H1 : Heap, HR w h1 H1 → W p l e R s m args below meth c H1 locs (cells + 1) (slots + n) Q' (F0 m pc' lsA (st'.map VA))) → W p l e R s m args below meth c H locs cells slots Q' (F0 m pc lsA (st.map VA))) : EX w l d k i st ls h Q := by
  obtain ⟨v, h', hq, hr, hM⟩ := hk
  rw [hrc, hrs] at hr
  refine ⟨v, h', hq, ⟨by omega, by omega⟩, ?_⟩
  intro p e R s m args below meth c oc2 y2 b2 L2 rt2 ws2 pcs2 pc2 H locs cells slots lsA hm2 hC hS hp
  cases hm.symm.trans hm2
  cases hpc.symm.trans hp
  have hS2 := hS
  obtain ⟨-, -, ⟨z1, z2, z3⟩, -⟩ := hS2
  refine hrow p e R s m args below meth c H locs cells slots _ lsA hC hS.1 (by omega) (by omega) (by omega) (fun H1 hH => ?_)
  have hM2 := hM p e R s m args below meth c oc y b L rt ws pcs pc' H1 locs (cells + 1) (slots + n) lsA hm hC ⟨hH, hS.2.1, by rw [hrc, hrs]; exact ⟨by omega, by omega, by omega⟩, hS.2.2.2⟩ hn
  rw [hrc, hrs] at hM2
  rw [show cells + (rc h - rc h') = cells + 1 + (rc h - 1 - rc h') by omega, show slots + (rs h - rs h') = slots + n + (rs h - n - rs h') by omega]
  exact hM2
/-- a return -/
theorem ex_ret {v : Option V} (hm : minf (k / 1000000) = (oc, y, b, L, rt, ws, pcs)) (hpc : pcs[i]? = some pc)
    (hq : Q v h)
    (hrow : ∀ (p : Program) (e : Env) (R : Room) (s : State) (m : MethodId) (args : Array Value) (below : List Frame) (meth : Method) (c : Code) (H : Heap) (locs : List Loc) (cells slots : Nat) (lsA : Array Slot),
      CT w p s m args meth c y b L rt → (∀ t : State, t.heap = H → s.WarmedH t.vm → QC w v h args s (.returned (v.map VA)) t) → (∀ q ∈ locs, w.2.2.1 ≤ q.base) → W p l e R s m args below meth c H locs cells slots (MQ below (QC w v h) args s cells slots (fun q => w.2.2.1 ≤ q)) (F0 m pc lsA (st.map VA))) : EX w l d k i st ls h Q := by
  refine ⟨v, h, hq, ⟨Nat.le_refl _, Nat.le_refl _⟩, ?_⟩
  intro p e R s m args below meth c oc2 y2 b2 L2 rt2 ws2 pcs2 pc2 H locs cells slots lsA hm2 hC hS hp
  cases hm.symm.trans hm2
  cases hpc.symm.trans hp
  rw [Nat.sub_self, Nat.sub_self, Nat.add_zero, Nat.add_zero]
  exact hrow p e R s m args below meth c H locs cells slots lsA hC (fun t ht _ => ⟨rfl, by rw [ht]; exact hS.1⟩) hS.2.2.2.1
end EXS
