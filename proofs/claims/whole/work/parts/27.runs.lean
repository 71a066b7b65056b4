/-! EVERY RUN of mine is a run of the machine -/
def PP (w : Wd) (l : Launch) : WP := fun d k i st ls h Q => (1 ≤ k / 1000000 ∧ k / 1000000 ≤ 241) → EX w l d k i st ls h Q
theorem PP_mono {w : Wd} {l : Launch} : Mono (PP w l) := fun _ _ _ _ _ _ _ _ hQ H ok => by
  obtain ⟨v, h', hq, hr, hM⟩ := H ok
  exact ⟨v, h', hQ _ _ hq, hr, hM⟩
theorem kk_facts {kd K : Nat} (h : kkAt kd K = true) : kOk kd K = true ∧ 2 ≤ K / 1000000 ∧ K / 1000000 ≤ 241 := by
  obtain ⟨⟨a, c⟩, hq, he⟩ := List.any_eq_true.mp h
  simp only [Bool.and_eq_true, beq_iff_eq] at he
  obtain ⟨rfl, rfl⟩ := he
  have h1 := List.all_eq_true.mp kks_all _ hq
  have h2 := List.all_eq_true.mp kks_in _ hq
  simp only [decide_eq_true_eq] at h2
  exact ⟨h1, h2⟩
theorem good_code {y : MethodName} {b : ByteArray} {L : Nat} {rt : Option FieldType} (h : Cond.code y b L rt ∈ lw_good) : GoodIn lw_good (.code y b L rt :: lw_good) := fun x hx => by
  rcases List.mem_cons.mp hx with rfl | hx
  · exact lw_good_in _ h
  · exact lw_good_in _ hx
/-- what the tables say of a callee -/
def Callee (K : Nat) (y : MethodName) (b : ByteArray) (L : Nat) (rt : Option FieldType) (ws pcs : List Nat) : Prop := (∃ oc, minf (K / 1000000) = (oc, y, b, L, rt, ws, pcs)) ∧ plainName y.cls = true ∧ pcs[0]? = some 0 ∧ L ≤ 20 ∧ K / 10000 % 100 ≤ L ∧ Cond.code y b L rt ∈ lw_good ∧ Cond.initialized y.cls ∈ lw_good ∧ y.cls ≠ "java/lang/invoke/MethodHandle" ∧ y.cls ≠ "java/lang/invoke/VarHandle"
theorem callee_of {kd K : Nat} (h : kkAt kd K = true) : ∃ y b L rt ws pcs, Callee K y b L rt ws pcs := by
  obtain ⟨h1, h2, h3⟩ := kk_facts h
  obtain ⟨oc, y, b, L, rt, ws, pcs, hm⟩ : ∃ oc y b L rt ws pcs, minf (K / 1000000) = (oc, y, b, L, rt, ws, pcs) := ⟨_, _, _, _, _, _, _, rfl⟩
  have hcw := cw_all _ h2 h3
  have hck := chk_all (K / 1000000) (by omega) h3
  unfold chkM at hck
  unfold cwOk at hcw
  rw [hm] at hck hcw
  simp only [Bool.and_eq_true, decide_eq_true_eq] at hck
  unfold kOk at h1
  rw [hm] at h1
  simp only [Bool.and_eq_true, decide_eq_true_eq] at h1
  obtain ⟨⟨hmo, hL⟩, -⟩ := h1
  unfold mOk at hmo
  rw [hm] at hmo
  simp only [Bool.and_eq_true, decide_eq_true_eq] at hmo
  obtain ⟨⟨⟨⟨⟨-, e2⟩, e3⟩, e4⟩, e5⟩, e6⟩ := hmo
  exact ⟨y, b, L, rt, ws, pcs, ⟨oc, hm⟩, e5, by rw [← List.head?_eq_getElem?]; exact hck.2, e2, hL, good_at hcw rfl, good_at e6 rfl, e3, e4⟩
section CK
variable {w : Wd} {l : Launch} {d k i : Nat} {ls : Ls} {st : List V} {h : AH} {Q : Option V → AH → Prop} {oc : Nat} {y : MethodName} {b : ByteArray} {L : Nat} {rt : Option FieldType} {ws pcs : List Nat} {pc : Nat}
theorem rec_static {K : Nat} {A : List V} {X : Prop} (h0 : K % 100 = 0) (hr : recOk K A h X) : catS A = K / 10000 % 100 ∧ X := by
  unfold recOk at hr
  rw [h0] at hr
  obtain ⟨e, H⟩ := gB_out hr
  exact ⟨by simpa using e, H⟩
theorem rec_split {K : Nat} {A : List V} {X : Prop} (h0 : 0 < K % 100) (hr : recOk K A h X) : ∃ a as, A = vr (some a) :: as ∧ tg h a = K % 100 ∧ catS A = K / 10000 % 100 ∧ X := by
  unfold recOk at hr
  split at hr
  · omega
  · rename_i o r _
    obtain ⟨e, H⟩ := gB_out hr
    cases o with
    | none => exact H.elim
    | some a => exact ⟨a, r, rfl, H.1, by simp only [beq_iff_eq] at e; exact e, H.2⟩
  · exact hr.elim
theorem take_map {n : Nat} (hn : n ≤ st.length) : st.map VA = ((st.take n).reverse.map VA).reverse ++ (st.drop n).map VA ∧ ((st.take n).reverse.map VA).length = n := by
  refine ⟨?_, by simp; omega⟩
  rw [← List.map_reverse, List.reverse_reverse, ← List.map_append, List.take_append_drop]
theorem room_of {rest : List V} {m : MethodId} {lsA : Array Slot} {s0 : List Value} (hc : catS rest ≤ 8) : 2 * (F0 m pc lsA s0).monitorRoom + ((rest.map VA).map fun v => v.category).sum ≤ 8 := by
  rw [catS_eq]
  show 2 * 0 + _ ≤ 8
  omega
theorem ex_callS (hm : minf (k / 1000000) = (oc, y, b, L, rt, ws, pcs)) (hpc : pcs[i]? = some pc) {idx K : Nat} (hd : decode b pc = .ok (.invokestatic idx, 3)) (hn : pcs[i + 1]? = some (pc + 3)) (hkk : kkAt 0 K = true) (hl : Cond.methodLink y.cls idx (minf (K / 1000000)).2.1 ∈ lw_good ∨ Cond.methodLinkNest y.cls idx (minf (K / 1000000)).2.1 "ThrowRules" ∈ lw_tbl)
    (g1 : K / 100 % 100 ≤ st.length) (g2 : catS (st.drop (K / 100 % 100)) ≤ 8) (H : callP (PP w l) d K (st.take (K / 100 % 100)).reverse h (fun v h' => EX w l d k (i + 1) (psh v (st.drop (K / 100 % 100))) ls h' Q)) : EX w l d k i st ls h Q := by
  obtain ⟨y', b', L', rt', ws', pcs', ⟨oc', hm'⟩, c1, c2, c3, c4, c5, c6, c7, c8⟩ := callee_of hkk
  obtain ⟨hk1, hk2, hk3⟩ := kk_facts hkk
  unfold kOk at hk1
  rw [hm'] at hk1 hl
  simp only [Bool.and_eq_true, decide_eq_true_eq] at hk1
  obtain ⟨-, ⟨k0, kst⟩, kpar⟩ := hk1
  cases d with
  | zero => exact H.elim
  | succ d =>
    obtain ⟨hrec, H⟩ := rec_static k0 H
    obtain ⟨v1, h1, hq1, hr1, hM1⟩ := H ⟨by omega, hk3⟩
    obtain ⟨t1, t2⟩ := take_map g1
    refine ex_call hm hpc hn hr1 hq1 (fun p e R s m args below meth c HH locs cells slots lsA hC hR hsz h8 hf hfr hlo => ⟨((st.take (K / 100 % 100)).reverse.map VA).toArray, ?_⟩)
    have hts := hC.2.2.2.2.1
    have hM := met_of hm' c1 c2 h8 (by omega) hM1
    have hst : (Cond.static y').before args s = true := hts _ (good_at kst rfl)
    rcases hl with hl | hl
    · exact va_runS ⟨hC.1, hC.2.1, hC.2.2.1, hC.2.2.2.1, hts⟩ hM ⟨callB_of _ hts (good_code c5) rfl rfl rfl (hts _ c6) (hts _ hl) ⟨c7, c8, kpar⟩ ⟨hfr, by show 8 + (L' + 11) + (41 * d + 30) ≤ _; omega⟩, hst⟩ ⟨blind_of, fun U hU hW => ⟨rfl, by rw [hU]; exact hR, hC.2.2.2.2.2.1.warm hW⟩⟩ rfl t2 hsz t1 (room_of g2) hd hf
    · exact va_runSN ⟨hC.1, hC.2.1, hC.2.2.1, hC.2.2.2.1, hts⟩ hM ⟨va_cnB _ hts (good_code c5) rfl rfl rfl (hC.2.2.2.2.2.1.2.1.2 _ _ _ _ hl) (hts _ c6) ⟨c7, c8, kpar⟩ ⟨hfr, by show 8 + (L' + 11) + (41 * d + 30) ≤ _; omega⟩, hst, trivial⟩ ⟨blind_of, fun U hU hW => ⟨rfl, by rw [hU]; exact hR, hC.2.2.2.2.2.1.warm hW⟩⟩ rfl t2 hsz t1 (room_of g2) hd hf
theorem take_map2 {n a : Nat} {as : List V} (hn : n ≤ st.length) (e : (st.take n).reverse = vr (some a) :: as) : st.map VA = (as.map VA).reverse ++ .ref a :: (st.drop n).map VA ∧ (as.map VA).length = n - 1 := by
  obtain ⟨t1, t2⟩ := take_map (st := st) hn
  rw [e] at t1 t2
  refine ⟨?_, by simp at t2 ⊢; omega⟩
  rw [t1]
  simp [VA, va_rf]
theorem ex_callI (hm : minf (k / 1000000) = (oc, y, b, L, rt, ws, pcs)) (hpc : pcs[i]? = some pc) {idx K : Nat} (hd : decode b pc = .ok (.invokespecial idx, 3)) (hn : pcs[i + 1]? = some (pc + 3)) (hkk : kkAt 1 K = true) (hl : Cond.methodLink y.cls idx (minf (K / 1000000)).2.1 ∈ lw_good ∨ Cond.methodLinkNest y.cls idx (minf (K / 1000000)).2.1 "ThrowRules" ∈ lw_tbl)
    (g1 : K / 100 % 100 ≤ st.length) (g2 : catS (st.drop (K / 100 % 100)) ≤ 8) (H : callP (PP w l) d K (st.take (K / 100 % 100)).reverse h (fun v h' => EX w l d k (i + 1) (psh v (st.drop (K / 100 % 100))) ls h' Q)) : EX w l d k i st ls h Q := by
  obtain ⟨y', b', L', rt', ws', pcs', ⟨oc', hm'⟩, c1, c2, c3, c4, c5, c6, c7, c8⟩ := callee_of hkk
  obtain ⟨hk1, hk2, hk3⟩ := kk_facts hkk
  unfold kOk at hk1
  rw [hm'] at hk1 hl
  simp only [Bool.and_eq_true, decide_eq_true_eq] at hk1
  obtain ⟨-, ⟨⟨⟨⟨k0, k00⟩, krt⟩, kin⟩, kst⟩, kpar⟩ := hk1
  cases d with
  | zero => exact H.elim
  | succ d =>
    obtain ⟨a, as, ea, hta, hcat, H⟩ := rec_split k0 H
    obtain ⟨v1, h1, hq1, hr1, hM1⟩ := H ⟨by omega, hk3⟩
    obtain ⟨t1, t2⟩ := take_map2 g1 ea
    refine ex_call hm hpc hn hr1 hq1 (fun p e R s m args below meth c HH locs cells slots lsA hC hR hsz h8 hf hfr hlo => ⟨(Value.ref a :: as.map VA).toArray, ?_⟩)
    have hts := hC.2.2.2.2.1
    have hM := met_of hm' c1 c2 h8 (by omega) hM1
    subst krt
    have hst : (Cond.instanceMethod y').before args s = true := hts _ (good_at kst rfl)
    have hp : PreS s HH (fun a U => a = ((st.take (K / 100 % 100)).reverse.map VA).toArray ∧ HR w h U.heap ∧ KW w U) (.ref a :: as.map VA) := ⟨blind_of, fun U hU hW => ⟨by rw [ea]; rfl, by rw [hU]; exact hR, hC.2.2.2.2.2.1.warm hW⟩⟩
    rcases hl with hl | hl
    · exact va_runI ⟨hC.1, hC.2.1, hC.2.2.1, hC.2.2.2.1, hts⟩ hM ⟨callB_of _ hts (good_code c5) rfl rfl rfl (hts _ c6) (hts _ hl) ⟨c7, c8, kpar⟩ ⟨hfr, by show 8 + (L' + 11) + (41 * d + 30) ≤ _; omega⟩, kin, hst⟩ hp rfl t2 hsz t1 (room_of g2) hd hf
    · exact va_runIN ⟨hC.1, hC.2.1, hC.2.2.1, hC.2.2.2.1, hts⟩ hM ⟨va_cnB _ hts (good_code c5) rfl rfl rfl (hC.2.2.2.2.2.1.2.1.2 _ _ _ _ hl) (hts _ c6) ⟨c7, c8, kpar⟩ ⟨hfr, by show 8 + (L' + 11) + (41 * d + 30) ≤ _; omega⟩, kin, hst⟩ hp rfl t2 hsz t1 (room_of g2) hd hf
theorem ex_callV (hm : minf (k / 1000000) = (oc, y, b, L, rt, ws, pcs)) (hpc : pcs[i]? = some pc) {idx K : Nat} (hd : decode b pc = .ok (.invokevirtual idx, 3)) (hn : pcs[i + 1]? = some (pc + 3)) (hkk : kkAt 2 K = true) (hl : Cond.methodLink y.cls idx (minf (K / 1000000)).2.1 ∈ lw_good ∨ Cond.methodLinkNest y.cls idx (minf (K / 1000000)).2.1 "ThrowRules" ∈ lw_tbl)
    (g1 : K / 100 % 100 ≤ st.length) (g2 : catS (st.drop (K / 100 % 100)) ≤ 8) (H : callP (PP w l) d K (st.take (K / 100 % 100)).reverse h (fun v h' => EX w l d k (i + 1) (psh v (st.drop (K / 100 % 100))) ls h' Q)) : EX w l d k i st ls h Q := by
  obtain ⟨y', b', L', rt', ws', pcs', ⟨oc', hm'⟩, c1, c2, c3, c4, c5, c6, c7, c8⟩ := callee_of hkk
  obtain ⟨hk1, hk2, hk3⟩ := kk_facts hkk
  unfold kOk at hk1
  rw [hm'] at hk1 hl
  simp only [Bool.and_eq_true, decide_eq_true_eq] at hk1
  obtain ⟨-, ⟨⟨⟨⟨⟨k0, k00⟩, kst⟩, ksel⟩, kpar⟩, knm⟩, kcl⟩ := hk1
  cases d with
  | zero => exact H.elim
  | succ d =>
    obtain ⟨a, as, ea, hta, hcat, H⟩ := rec_split k0 H
    obtain ⟨v1, h1, hq1, hr1, hM1⟩ := H ⟨by omega, hk3⟩
    obtain ⟨t1, t2⟩ := take_map2 g1 ea
    refine ex_call hm hpc hn hr1 hq1 (fun p e R s m args below meth c HH locs cells slots lsA hC hR hsz h8 hf hfr hlo => ⟨(Value.ref a :: as.map VA).toArray, ?_⟩)
    have hts := hC.2.2.2.2.1
    have hM := met_of hm' c1 c2 h8 (by omega) hM1
    have hst : (Cond.instanceMethod y').before args s = true := hts _ (good_at kst rfl)
    have hse : (Cond.selects y'.cls y' y').before args s = true := hts _ (good_at ksel rfl)
    obtain ⟨⟨C, T, N⟩, hv, hvc⟩ := Option.map_eq_some_iff.mp kcl
    have hcell : ∃ cellB : Cell, HH[a]? = some cellB ∧ cellB.vm.isStatics = false ∧ s.vm.findClass y'.cls = some cellB.cls := by
      obtain ⟨-, cell, q1, q2, q3, -⟩ := (hR.2.2.2.1 a).1 (K % 100 - 1) C T N (by omega) hv
      exact ⟨cell, q1, by rw [q3]; rfl, by rw [q2, ← hvc]; exact (hC.2.2.2.2.2.1.1.1 _ _ hv).2.1⟩
    have hp : PreV s HH y'.cls a (fun a U => a = ((st.take (K / 100 % 100)).reverse.map VA).toArray ∧ HR w h U.heap ∧ KW w U) (as.map VA) := ⟨blind_of, hcell, fun U hU hW => ⟨by rw [ea]; rfl, by rw [hU]; exact hR, hC.2.2.2.2.2.1.warm hW⟩⟩
    rcases hl with hl | hl
    · exact va_runV ⟨hC.1, hC.2.1, hC.2.2.1, hC.2.2.2.1, hts⟩ hM ⟨callB_of _ hts (good_code c5) rfl rfl rfl (hts _ c6) (hts _ hl) ⟨c7, c8, kpar⟩ ⟨hfr, by show 8 + (L' + 11) + (41 * d + 30) ≤ _; omega⟩, hst, hse⟩ hp rfl t2 hsz t1 (room_of g2) hd hf
    · exact va_runVN ⟨hC.1, hC.2.1, hC.2.2.1, hC.2.2.2.1, hts⟩ hM ⟨va_cnB _ hts (good_code c5) rfl rfl rfl (hC.2.2.2.2.2.1.2.1.2 _ _ _ _ hl) (hts _ c6) ⟨c7, c8, kpar⟩ ⟨hfr, by show 8 + (L' + 11) + (41 * d + 30) ≤ _; omega⟩, hst, hse⟩ hp rfl t2 hsz t1 (room_of g2) hd hf
end CK
