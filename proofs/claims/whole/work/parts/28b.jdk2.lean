/-! arraycopy, tableswitch, calls on texts -/
section JE
variable {w : Wd} {l : Launch} {d k i : Nat} {ls : Ls} {st st' : List V} {h h1 : AH} {Q : Option V → AH → Prop} {oc : Nat} {y : MethodName} {b : ByteArray} {L : Nat} {rt : Option FieldType} {ws pcs : List Nat} {pc : Nat}
theorem ex_putL {j pc' : Nat} (hm : minf (k / 1000000) = (oc, y, b, L, rt, ws, pcs)) (hpc : pcs[i]? = some pc) (hn : pcs[j]? = some pc') (hrc : rc h1 = rc h) (hrs : rs h1 = rs h)
    (hk : EX w l d k j st' ls h1 Q)
    (hrow : ∀ (p : Program) (e : Env) (R : Room) (s : State) (m : MethodId) (args : Array Value) (below : List Frame) (meth : Method) (c : Code) (H : Heap) (locs : List Loc) (cells slots : Nat) (Q' : State → Prop) (lsA : Array Slot),
      CT w p s m args meth c y b L rt → HR w h H → lsA.size = L → (1 ≤ R.frames ∧ 30 ≤ R.locals) → (∀ (H1 : Heap) (Lo : List Loc), HR w h1 H1 → (∀ q ∈ Lo, w.2.2.1 ≤ q.base) → W p l e R s m args below meth c H1 (locs ++ Lo) cells slots Q' (F0 m pc' lsA (st'.map VA))) → W p l e R s m args below meth c H locs cells slots Q' (F0 m pc lsA (st.map VA))) : EX w l d k i st ls h Q := by
  obtain ⟨v, h', hq, hr, hM⟩ := hk
  rw [hrc, hrs] at hr
  refine ⟨v, h', hq, hr, ?_⟩
  intro p e R s m args below meth c oc2 y2 b2 L2 rt2 ws2 pcs2 pc2 H locs cells slots lsA hm2 hC hS hp
  cases hm.symm.trans hm2
  cases hpc.symm.trans hp
  have hS2 := hS
  obtain ⟨-, -, -, -, z3, z4⟩ := hS2
  refine hrow p e R s m args below meth c H locs cells slots _ lsA hC hS.1 hS.2.1.1 ⟨by omega, by omega⟩ (fun H1 Lo hH ha => ?_)
  have hM2 := hM p e R s m args below meth c oc y b L rt ws pcs pc' H1 (locs ++ Lo) cells slots lsA hm hC ⟨hH, hS.2.1, by rw [hrc, hrs]; exact hS.2.2.1, fun q hq => by
    rcases List.mem_append.mp hq with z | z
    · exact hS.2.2.2.1 q z
    · exact ha q z, hS.2.2.2.2⟩ hn
  rw [hrc, hrs] at hM2
  exact hM2
theorem ex_copy (hm : minf (k / 1000000) = (oc, y, b, L, rt, ws, pcs)) (hpc : pcs[i]? = some pc) (ho : ocN[oc]? = some y.cls) {idx : Nat} (hs : ntAt oc idx 1 = true) (hd : decode b pc = .ok (.invokestatic idx, 3)) (hn : pcs[i + 1]? = some (pc + 3)) {n dp sp : Int32} {a c : Nat} {r : List V}
    (ta : tg h a = 109) (tc : tg h c = 109) (hb1 : 0 ≤ n ∧ 0 ≤ sp ∧ 0 ≤ dp ∧ sp.toNatClampNeg + n.toNatClampNeg ≤ ln h a ∧ dp.toNatClampNeg + n.toNatClampNeg ≤ ln h c) (hcat : catS r ≤ 8) (hel : ∀ j y, j < n.toNatClampNeg → aP h a (sp.toNatClampNeg + j) = some y → tg h y = 1 ∨ tg h y = 9 ∨ tg h y = 13)
    (H : EX w l d k (i + 1) r ls (cpyP h a sp.toNatClampNeg c dp.toNatClampNeg n.toNatClampNeg) Q) : EX w l d k i (vi n :: vi dp :: vr (some c) :: vi sp :: vr (some a) :: r) ls h Q := by
  obtain ⟨b1, b2, b3, b4, b5⟩ := hb1
  refine ex_putL (h1 := cpyP h a sp.toNatClampNeg c dp.toNatClampNeg n.toNatClampNeg) hm hpc hn rfl rfl H (fun p e R s m args below meth cd HH locs cells slots Q' lsA hC hR hsz hrm z => ?_)
  have hts := hC.2.2.2.2.1
  have s9 : arS 9 := Or.inr (Or.inr (Or.inr (Or.inr rfl)))
  have hc0 := ((hR.2.2.2.1 a).2.1 9 s9 ta).2
  obtain ⟨hba, hc1⟩ := (hR.2.2.2.1 c).2.1 9 s9 tc
  have h1 : ¬ sp < 0 := Int32.not_lt.mpr b2
  have h2 : ¬ dp < 0 := Int32.not_lt.mpr b3
  have h3 : ¬ n < 0 := Int32.not_lt.mpr b1
  have nn : ∀ z : Int32, ¬ z < 0 → z.toInt = (z.toNatClampNeg : Int) := by
    intro z hz
    have hz0 : (0 : Int) ≤ z.toInt := by
      have := Int32.not_lt.mp hz
      simpa using Int32.le_iff_toInt_le.mp this
    show z.toInt = ((z.toInt.toNat : Nat) : Int)
    omega
  have eV : ∀ x, arV h 9 x = fun j => va_rf (aP h x j) := fun x => by
    funext j
    unfold arV
    rw [if_neg (by decide), if_pos rfl]
  rw [eV] at hc0 hc1
  intro T hT X
  obtain ⟨-, k0, hk0, cm0, hkk0⟩ := (hC.2.2.2.2.2.1.1.2 4 _ rfl).1 (ln h a) (fun j => va_rf (aP h a j))
  obtain ⟨-, k1, hk1, cm1, hkk1⟩ := (hC.2.2.2.2.2.1.1.2 4 _ rfl).1 (ln h c) (fun j => va_rf (aP h c j))
  obtain ⟨vm', X', step⟩ := X.arraycopy hC.1 hC.2.2.2.1 (hts _ ((nt_facts hs ho).2.1 rfl)) (hts _ n_ac1) (hts _ n_ac2) (hts _ n_ac3) (src := a) (dst := c) (cs := arrV (w.2.1 9) (ln h a) (fun j => va_rf (aP h a j))) (cd := arrV (w.2.1 9) (ln h c) (fun j => va_rf (aP h c j))) (srcPos := sp) (destPos := dp) (n := n) (by rw [hT]; exact hc0) (by rw [hT]; exact hc1)
    (fun _ h => by cases h) (fun _ h => by cases h) (fun h => by cases h) (fun h => by cases h) hk0 hk1 hkk0 hkk1 rfl h1 h2 h3
    (by rw [nn sp h1, nn n h3]; show ¬ _ > ((arrV (w.2.1 9) (ln h a) (fun j => va_rf (aP h a j))).slots.size : Int); rw [arrV_size]; omega)
    (by rw [nn dp h2, nn n h3]; show ¬ _ > ((arrV (w.2.1 9) (ln h c) (fun j => va_rf (aP h c j))).slots.size : Int); rw [arrV_size]; omega)
    (fun vm₁ hal i hi => by
      have e : (arrV (w.2.1 9) (ln h a) (fun j => va_rf (aP h a j))).slots.getD (sp.toNatClampNeg + i) .null = va_rf (aP h a (sp.toNatClampNeg + i)) := by
        rw [Array.getD_eq_getD_getElem?, arrV_read _ _ (by omega)]
        rfl
      rw [e]
      cases hy : aP h a (sp.toNatClampNeg + i) with
      | none => exact ⟨rfl, trivial⟩
      | some y =>
        obtain ⟨cellV, kV, t0, g1, g2, g3, g4, g5⟩ := el_cell hC.2.2.2.2.2.1 hR (hel i y hi hy)
        obtain ⟨kA, comp, r1, r2, r3, -⟩ := (hC.2.2.2.2.2.1.1.2 4 _ rfl).2
        cases hk1.symm.trans r1
        cases hkk1.symm.trans r2
        cases g4.symm.trans r3
        obtain ⟨kE, hkE, -⟩ := Vm.findClass_spec r3
        obtain ⟨kC', hkC', -⟩ := hal.2.2 _ _ g3
        obtain ⟨kE', hkE', -⟩ := hal.2.2 _ _ hkE
        refine ⟨rfl, cellV, (show T.heap[y]? = some cellV by rw [hT]; exact g1), (fun q h => by rw [g2] at h; cases h), ⟨kC', hkC'⟩, ?_, ?_⟩
        · exact ⟨kE', hkE'⟩
        · show vm₁.assignable _ _ = true
          rw [hal.assignable]
          exact g5)
    (g := F0 m pc lsA (.int n :: .int dp :: .ref c :: .int sp :: .ref a :: r.map VA)) rfl (hsz.trans hC.2.2.1.symm) (rest := r.map VA) rfl (by rw [hC.2.1]; exact hd) hrm.1 (by
      show 2 * 0 + ((r.map VA).map fun v => v.category).sum + _ ≤ _
      rw [catS_eq]
      have hw : nativeFrameWords "java/lang/System" "arraycopy" 5 = 7 := (by decide)
      have := hrm.2
      omega)
  have e1 : copied (arrV (w.2.1 9) (ln h a) (fun j => va_rf (aP h a j))) (arrV (w.2.1 9) (ln h c) (fun j => va_rf (aP h c j))) sp dp n = arrV (w.2.1 9) (ln h c) (fun j => va_rf (va_cpy (aP h a) (aP h c) sp.toNatClampNeg dp.toNatClampNeg n.toNatClampNeg j)) :=
    va_copied (fun z => va_rf z) (w.2.1 9) (w.2.1 9) (aP h a) (aP h c) b4
  rw [e1] at X' step
  have hl : c < HH.size := (Array.getElem?_eq_some_iff.mp hc1).1
  have hheap : ((T.setVm vm').setCell c (arrV (w.2.1 9) (ln h c) (fun j => va_rf (va_cpy (aP h a) (aP h c) sp.toNatClampNeg dp.toNatClampNeg n.toNatClampNeg j)))).heap = HH.setIfInBounds c (arrV (w.2.1 9) (ln h c) (fun j => va_rf (va_cpy (aP h a) (aP h c) sp.toNatClampNeg dp.toNatClampNeg n.toNatClampNeg j))) := by rw [← hT]; rfl
  have hH1 : HR w (cpyP h a sp.toNatClampNeg c dp.toNatClampNeg n.toNatClampNeg) (HH.setIfInBounds c (arrV (w.2.1 9) (ln h c) (fun j => va_rf (va_cpy (aP h a) (aP h c) sp.toNatClampNeg dp.toNatClampNeg n.toNatClampNeg j)))) := by
    refine HR_arr (f := fun j => va_rf (va_cpy (aP h a) (aP h c) sp.toNatClampNeg dp.toNatClampNeg n.toNatClampNeg j)) hR s9 tc (by simp [Array.getElem?_setIfInBounds, hl]) (by simp) (fun q hq => by simp [Array.getElem?_setIfInBounds, Ne.symm hq]) rfl rfl rfl (fun j => ?_) rfl rfl rfl ⟨fun _ _ _ => rfl, fun _ _ _ => rfl, fun x j hx => ?_⟩
    · unfold arV
      rw [if_neg (by decide), if_pos rfl]
      show _ = va_rf (if c = c ∧ dp.toNatClampNeg ≤ j ∧ j < dp.toNatClampNeg + n.toNatClampNeg then aP h a (sp.toNatClampNeg + (j - dp.toNatClampNeg)) else aP h c j)
      unfold va_cpy
      by_cases q : dp.toNatClampNeg ≤ j ∧ j < dp.toNatClampNeg + n.toNatClampNeg
      · rw [if_pos q, if_pos ⟨rfl, q⟩]
      · rw [if_neg q, if_neg (fun u => q u.2)]
    · show (if x = c ∧ dp.toNatClampNeg ≤ j ∧ j < dp.toNatClampNeg + n.toNatClampNeg then aP h a (sp.toNatClampNeg + (j - dp.toNatClampNeg)) else aP h x j) = _
      rw [if_neg (fun u => hx u.1)]
  obtain ⟨t, a1, b1⟩ := z _ _ hH1 (fun q hq => by
    obtain ⟨u, -, hu⟩ := List.mem_map.mp hq
    rw [← hu]
    exact hba) _ hheap X'
  exact ⟨t, step t a1, b1⟩
theorem tgt_of {pcs : List Nat} {pc : Nat} {off t : Int} (h : tgtOk pcs pc off t = true) : ∃ q, pcs[t.toNat]? = some q ∧ (pc : Int) + off = (q : Int) := by
  unfold tgtOk at h
  split at h
  · rename_i q e
    exact ⟨q, e, of_decide_eq_true h⟩
  · cases h
theorem ofI_nI {a : Nat} (h : a < 2 ^ 30) : Int32.ofInt (a : Int) = nI a := by
  apply Int32.toInt_inj.mp
  rw [nI_toInt (by omega), Int32.toInt_ofInt_of_le (by omega) (by omega)]
theorem ex_table (hm : minf (k / 1000000) = (oc, y, b, L, rt, ws, pcs)) (hpc : pcs[i]? = some pc) {dft lo hi dt : Int} {offs ts : Array Int} {len : Nat} (hd : decode b pc = .ok (.tableswitch dft lo hi offs, len)) (h1 : hi + 1 = lo + ts.size) (h2 : ts.size = offs.size) (h3 : 0 ≤ lo ∧ lo < 1000 ∧ ts.size < 1000) (h4 : tgtOk pcs pc dft dt = true)
    (h5 : (List.range ts.size).all (fun j => tgtOk pcs pc (offs.toList.getD j 0) (ts.toList.getD j dt)) = true)
    (H : i1 st (fun x r => (x < Int32.ofInt lo ∨ Int32.ofInt lo + Int32.ofNat ts.size ≤ x → EX w l d k dt.toNat r ls h Q) ∧ ∀ j, j < ts.size → x = Int32.ofInt lo + Int32.ofNat j → EX w l d k (swAt ts.toList j dt) r ls h Q)) : EX w l d k i st ls h Q := by
  obtain ⟨n, hn⟩ : ∃ n, n = ts.size := ⟨_, rfl⟩
  rw [← hn] at h1 h2 h3 h5 H
  obtain ⟨a, rfl⟩ : ∃ a : Nat, lo = (a : Int) := ⟨lo.toNat, by omega⟩
  obtain ⟨q1, q2, q3⟩ := h3
  have ea : Int32.ofInt (a : Int) = nI a := ofI_nI (by omega)
  rw [ea] at H
  unfold i1 at H
  split at H
  · rename_i x r
    have hlt : x < nI a ↔ x.toInt < a := by rw [Int32.lt_iff_toInt_lt, nI_toInt (by omega)]
    have hge : nI a + Int32.ofNat n ≤ x ↔ (a + n : Int) ≤ x.toInt := by
      rw [show nI a + Int32.ofNat n = nI (a + n) from nI_add a n, Int32.le_iff_toInt_le, nI_toInt (by omega)]
      omega
    by_cases hx : x.toInt < (a : Int) ∨ hi < x.toInt
    · obtain ⟨q, hq, hq2⟩ := tgt_of h4
      refine ex_pure hm hpc hq (H.1 ?_) (fun _ _ _ _ _ _ _ _ _ _ _ _ _ _ _ hC _ _ _ z => lv_tableOut hC.1 hC.2.1 hd hx hq2 z)
      rcases hx with u | u
      · exact Or.inl (hlt.mpr u)
      · exact Or.inr (hge.mpr (by omega))
    · have u1 : ¬ x.toInt < (a : Int) := fun z => hx (Or.inl z)
      have u2 : ¬ hi < x.toInt := fun z => hx (Or.inr z)
      obtain ⟨j, hj⟩ : ∃ j : Nat, x.toInt = (a : Int) + j := ⟨(x.toInt - a).toNat, by omega⟩
      have hjn : j < n := by omega
      have hxj : x = nI a + Int32.ofNat j := by
        rw [show nI a + Int32.ofNat j = nI (a + j) from nI_add a j]
        apply Int32.toInt_inj.mp
        rw [nI_toInt (by omega), hj]
        omega
      have h6 := List.all_eq_true.mp h5 j (List.mem_range.mpr hjn)
      obtain ⟨q, hq, hq2⟩ := tgt_of h6
      have ho : offs[(x.toInt - (a : Int)).toNat]? = some (offs.toList.getD j 0) := by
        rw [show (x.toInt - (a : Int)).toNat = j by omega]
        rw [← Array.getElem?_toList, List.getD_eq_getElem?_getD]
        rw [List.getElem?_eq_getElem (by rw [Array.length_toList]; omega)]
        rfl
      exact ex_pure hm hpc hq (H.2 j hjn hxj) (fun _ _ _ _ _ _ _ _ _ _ _ _ _ _ _ hC _ _ _ z => lv_tableIn hC.1 hC.2.1 hd u1 u2 ho hq2 z)
  · exact H.elim
theorem ex_callT (hm : minf (k / 1000000) = (oc, y, b, L, rt, ws, pcs)) (hpc : pcs[i]? = some pc) {idx K : Nat} (hd : decode b pc = .ok (.invokevirtual idx, 3)) (hn : pcs[i + 1]? = some (pc + 3)) (hkk : kkAt 3 K = true) (hl : Cond.methodLink y.cls idx (minf (K / 1000000)).2.1 ∈ lw_good ∨ Cond.methodLinkNest y.cls idx (minf (K / 1000000)).2.1 "ThrowRules" ∈ lw_tbl)
    (g1 : K / 100 % 100 ≤ st.length) (g2 : catS (st.drop (K / 100 % 100)) ≤ 8) (H : callP (PP w l) d K (st.take (K / 100 % 100)).reverse h (fun v h' => EX w l d k (i + 1) (psh v (st.drop (K / 100 % 100))) ls h' Q)) : EX w l d k i st ls h Q := by
  obtain ⟨y', b', L', rt', ws', pcs', ⟨oc', hm'⟩, c1, c2, c3, c4, c5, c6, c7, c8⟩ := callee_of hkk
  obtain ⟨hk1, hk2, hk3⟩ := kk_facts hkk
  unfold kOk at hk1
  rw [hm'] at hk1 hl
  simp only [Bool.and_eq_true, decide_eq_true_eq] at hk1
  obtain ⟨-, ⟨⟨⟨⟨k0, k00⟩, kst⟩, ksel⟩, kpar⟩, kcl⟩ := hk1
  cases d with
  | zero => exact H.elim
  | succ d =>
    obtain ⟨a, as, ea, hta, hcat, H⟩ := rec_split (by omega) H
    obtain ⟨v1, h1, hq1, hr1, hM1⟩ := H ⟨by omega, hk3⟩
    obtain ⟨t1, t2⟩ := take_map2 g1 ea
    refine ex_call hm hpc hn hr1 hq1 (fun p e R s m args below meth c HH locs cells slots lsA hC hR hsz h8 hf hfr hlo => ⟨(Value.ref a :: as.map VA).toArray, ?_⟩)
    have hts := hC.2.2.2.2.1
    have hM := met_of hm' c1 c2 h8 (by omega) hM1
    have hst : (Cond.instanceMethod y').before args s = true := hts _ (good_at kst rfl)
    have hse : (Cond.selects y'.cls y' y').before args s = true := hts _ (good_at ksel rfl)
    have ht70 : tg h a = 70 := by omega
    have hcell : ∃ cellB : Cell, HH[a]? = some cellB ∧ cellB.vm.isStatics = false ∧ s.vm.findClass y'.cls = some cellB.cls := by
      obtain ⟨i0, e1, e2, e3, e4⟩ := (hR.2.2.2.1 a).2.2.2.1 ht70
      have hb := (hR.2.2.2.1 a).2.2.2.2.2.2 (Or.inl ht70)
      obtain ⟨cell, o1, o2, o3, -⟩ := (hC.2.2.2.2.2.1.2.2.2.1.1 i0 e1).1
      exact ⟨cell, by rw [hR.2.2.1 a hb, e2]; exact o1, o2, by rw [kcl]; exact o3⟩
    have hp : PreV s HH y'.cls a (fun a U => a = ((st.take (K / 100 % 100)).reverse.map VA).toArray ∧ HR w h U.heap ∧ KW w U) (as.map VA) := ⟨blind_of, hcell, fun U hU hW => ⟨by rw [ea]; rfl, by rw [hU]; exact hR, hC.2.2.2.2.2.1.warm hW⟩⟩
    rcases hl with hl | hl
    · exact va_runV ⟨hC.1, hC.2.1, hC.2.2.1, hC.2.2.2.1, hts⟩ hM ⟨callB_of _ hts (good_code c5) rfl rfl rfl (hts _ c6) (hts _ hl) ⟨c7, c8, kpar⟩ ⟨hfr, by show 8 + (L' + 11) + (41 * d + 30) ≤ _; omega⟩, hst, hse⟩ hp rfl t2 hsz t1 (room_of g2) hd hf
    · exact va_runVN ⟨hC.1, hC.2.1, hC.2.2.1, hC.2.2.2.1, hts⟩ hM ⟨va_cnB _ hts (good_code c5) rfl rfl rfl (hC.2.2.2.2.2.1.2.1.2 _ _ _ _ hl) (hts _ c6) ⟨c7, c8, kpar⟩ ⟨hfr, by show 8 + (L' + 11) + (41 * d + 30) ≤ _; omega⟩, hst, hse⟩ hp rfl t2 hsz t1 (room_of g2) hd hf
end JE
