/-! Instructions of the JDK's methods: texts, statics, arrays of references, casts, natives -/
theorem gs_facts {oc idx v : Nat} {own : String} (h : gsAt oc idx v = true) (ho : ocN[oc]? = some own) : (v = 1 ∨ v = 2 ∨ v = 50 ∨ v = 51 ∨ v = 52) ∧ Cond.fieldLink own idx (gsN v).1 (gsN v).2.1 (gsN v).2.2 ∈ lw_good := by
  obtain ⟨⟨oc', idx', v', w⟩, hq, he⟩ := List.any_eq_true.mp h
  simp only [Bool.and_eq_true, beq_iff_eq] at he
  obtain ⟨⟨rfl, rfl⟩, rfl⟩ := he
  have hk := List.all_eq_true.mp gsk_all _ hq
  simp only [gskOk, ho, Bool.and_eq_true, decide_eq_true_eq] at hk
  exact ⟨hk.1, good_at hk.2 rfl⟩
theorem fs_facts {oc idx f : Nat} {own : String} (h : fsAt oc idx f = true) (ho : ocN[oc]? = some own) : (f = 36900 ∧ Cond.fieldLink own idx "java/lang/String" "value" "[B" ∈ lw_good) ∨ (f = 46901 ∧ Cond.fieldLink own idx "java/lang/String" "coder" "B" ∈ lw_good) := by
  obtain ⟨⟨oc', idx', v', w⟩, hq, he⟩ := List.any_eq_true.mp h
  simp only [Bool.and_eq_true, beq_iff_eq] at he
  obtain ⟨⟨rfl, rfl⟩, rfl⟩ := he
  have hk := List.all_eq_true.mp fsk_all _ hq
  simp only [fskOk, ho, Bool.or_eq_true, Bool.and_eq_true, decide_eq_true_eq] at hk
  rcases hk with hk | hk
  · exact Or.inl ⟨hk.1, good_at hk.2 rfl⟩
  · exact Or.inr ⟨hk.1, good_at hk.2 rfl⟩
theorem sl_facts {oc idx i : Nat} {own : String} (h : slAt oc idx i = true) (ho : ocN[oc]? = some own) : ∃ wd, (oc, idx, i, wd) ∈ slk ∧ i < 6 ∧ ∃ t, strT[i]? = some t := by
  obtain ⟨⟨oc', idx', v', w⟩, hq, he⟩ := List.any_eq_true.mp h
  simp only [Bool.and_eq_true, beq_iff_eq] at he
  obtain ⟨⟨rfl, rfl⟩, rfl⟩ := he
  have hk := List.all_eq_true.mp slk_all _ hq
  simp only [slkOk, ho] at hk
  split at hk
  · rename_i own' t e1 e2
    exact ⟨w, hq, (List.getElem?_eq_some_iff.mp e2).1, t, e2⟩
  · cases hk
theorem cl_facts {oc idx c : Nat} {own : String} (h : clAt oc idx c = true) (ho : ocN[oc]? = some own) : (c = 90 → Cond.classLink own idx "java/lang/Object" ∈ lw_good) ∧ (c = 91 → Cond.classLink own idx "[Ljava/lang/Object;" ∈ lw_good) ∧ (c < 15 → ∃ C T N, vwCl[c]? = some (C, T, N) ∧ Cond.classLink own idx C ∈ lw_good) := by
  obtain ⟨⟨oc', idx', v', w⟩, hq, he⟩ := List.any_eq_true.mp h
  simp only [Bool.and_eq_true, beq_iff_eq] at he
  obtain ⟨⟨rfl, rfl⟩, rfl⟩ := he
  have hk := List.all_eq_true.mp clk_all _ hq
  simp only [clkOk, ho] at hk
  refine ⟨fun e => ?_, fun e => ?_, fun e => ?_⟩
  · rw [if_pos e] at hk
    exact good_at (of_decide_eq_true hk) rfl
  · rw [if_neg (by omega), if_pos e] at hk
    exact good_at (of_decide_eq_true hk) rfl
  · rw [if_neg (by omega), if_neg (by omega)] at hk
    split at hk
    · rename_i C T N e2
      exact ⟨C, T, N, e2, good_at (of_decide_eq_true hk) rfl⟩
    · cases hk
theorem nt_facts {oc idx c : Nat} {own : String} (h : ntAt oc idx c = true) (ho : ocN[oc]? = some own) : (c = 0 → Cond.methodLink own idx ⟨"java/lang/Object", "getClass", "()Ljava/lang/Class;"⟩ ∈ lw_good) ∧ (c = 1 → Cond.methodLink own idx arraycopyName ∈ lw_good) ∧ (c = 2 → Cond.methodLink own idx Lib.Math.max.name ∈ lw_good) ∧ (c = 3 → Cond.methodLink own idx Lib.Math.min.name ∈ lw_good) := by
  obtain ⟨⟨oc', idx', v', w⟩, hq, he⟩ := List.any_eq_true.mp h
  simp only [Bool.and_eq_true, beq_iff_eq] at he
  obtain ⟨⟨rfl, rfl⟩, rfl⟩ := he
  have hk := List.all_eq_true.mp ntk_all _ hq
  refine ⟨fun e => ?_, fun e => ?_, fun e => ?_, fun e => ?_⟩ <;>
  · subst e
    simp only [ntkOk, ho] at hk
    exact good_at (of_decide_eq_true hk) rfl
theorem n_gc1 : Cond.selects "[Ljava/lang/Object;" ⟨"java/lang/Object", "getClass", "()Ljava/lang/Class;"⟩ ⟨"java/lang/Object", "getClass", "()Ljava/lang/Class;"⟩ ∈ lw_good := by decide +kernel
theorem n_gc2 : Cond.instanceMethod ⟨"java/lang/Object", "getClass", "()Ljava/lang/Class;"⟩ ∈ lw_good := by decide +kernel
theorem n_gc3 : Cond.native ⟨"java/lang/Object", "getClass", "()Ljava/lang/Class;"⟩ ∈ lw_good := by decide +kernel
theorem n_ac1 : Cond.native arraycopyName ∈ lw_good := by decide +kernel
theorem n_ac2 : Cond.static arraycopyName ∈ lw_good := by decide +kernel
theorem n_ac3 : Cond.initialized "java/lang/System" ∈ lw_good := by decide +kernel
theorem n_mm1 : Cond.static Lib.Math.max.name ∈ lw_good := by decide +kernel
theorem n_mm2 : Cond.initialized "java/lang/Math" ∈ lw_good := by decide +kernel
theorem n_mm3 : Cond.code Lib.Math.max.name Lib.Math.max.code 2 (some .int) ∈ lw_good := good_at (i := 427) (by rfl) rfl
theorem n_mm4 : Cond.static Lib.Math.min.name ∈ lw_good := by decide +kernel
theorem n_mm5 : Cond.code Lib.Math.min.name Lib.Math.min.code 2 (some .int) ∈ lw_good := good_at (i := 430) (by rfl) rfl
theorem cs_1 : Cond.castable "java/lang/Integer" "java/lang/Object" ∈ lw_tbl := by decide +kernel
theorem cs_9 : Cond.castable "ThrowRules$Statement" "java/lang/Object" ∈ lw_tbl := by decide +kernel
theorem cs_13 : Cond.castable "ThrowRules$Way" "java/lang/Object" ∈ lw_tbl := by decide +kernel
/-- an element of a list: its cell, and that it is an Object -/
theorem el_cell {w : Wd} {h : AH} {H : Heap} {s : State} (hK : KW w s) (hR : HR w h H) {y : Nat} (ht : tg h y = 1 ∨ tg h y = 9 ∨ tg h y = 13) : ∃ (cell : Cell) (k : Class) (t0 : ClassId), H[y]? = some cell ∧ cell.vm = .none ∧ s.vm.classes[cell.cls]? = some k ∧ s.vm.findClass "java/lang/Object" = some t0 ∧ s.vm.assignable cell.cls t0 = true := by
  have key : ∀ (ci : Nat) (C : String) (T : u_T) (N : Nat), tg h y = ci + 1 → vwCl[ci]? = some (C, T, N) → Cond.castable C "java/lang/Object" ∈ lw_tbl → ∃ (cell : Cell) (k : Class) (t0 : ClassId), H[y]? = some cell ∧ cell.vm = .none ∧ s.vm.classes[cell.cls]? = some k ∧ s.vm.findClass "java/lang/Object" = some t0 ∧ s.vm.assignable cell.cls t0 = true := by
    intro ci C T N hy hv hc
    obtain ⟨-, cell, q1, q2, q3, -⟩ := (hR.2.2.2.1 y).1 ci C T N hy hv
    obtain ⟨hfc, kC, hkC, -⟩ := (hK.1.1 ci _ hv).2
    obtain ⟨c0, t0, f1, f2, f3⟩ := Cond.castable_spec (va_Nw.use (A := #[]) rfl (hK.2.2.2.2.2.2.2.2.2.2 C hc))
    cases hfc.symm.trans f1
    exact ⟨cell, kC, t0, q1, q3, by rw [q2]; exact hkC, f2, by rw [q2]; exact f3⟩
  rcases ht with ht | ht | ht
  · exact key 0 _ _ _ ht rfl cs_1
  · exact key 8 _ _ _ ht rfl cs_9
  · exact key 12 _ _ _ ht rfl cs_13
section JD
variable {w : Wd} {l : Launch} {d k i : Nat} {ls : Ls} {st : List V} {h : AH} {Q : Option V → AH → Prop} {oc : Nat} {y : MethodName} {b : ByteArray} {L : Nat} {rt : Option FieldType} {ws pcs : List Nat} {pc : Nat}
theorem ex_str (hm : minf (k / 1000000) = (oc, y, b, L, rt, ws, pcs)) (hpc : pcs[i]? = some pc) (ho : ocN[oc]? = some y.cls) {idx n : Nat} (hd : decode b pc = .ok (.ldc idx, 2)) (hn : pcs[i + 1]? = some (pc + 2)) (hs : slAt oc idx n = true) (H : EX w l d k (i + 1) (vr (fP h 39800 n) :: st) ls h Q) : EX w l d k i st ls h Q := by
  obtain ⟨wd, h1, h2, t, h3⟩ := sl_facts hs ho
  refine ex_pure hm hpc hn H (fun _ _ _ _ _ _ _ _ _ _ _ _ _ _ _ hC hR _ _ z => va_ldcS hC.1 hC.2.1 hC.2.2.2.1 (hC.2.2.2.2.2.1.2.2.2.2.1 _ h1 _ _ ho h3) hd ?_)
  rw [List.map_cons, hR.2.2.2.2.2.1 n h2] at z
  exact z
theorem w_gets {p : Program} {e : Env} {R : Room} {s : State} {m : MethodId} {args : Array Value} {below : List Frame} {meth : Method} {c : Code} {H : Heap} {locs : List Loc} {cells slots : Nat} {Q' : State → Prop} {lsA : Array Slot} {rest : List Value} {idx v : Nat}
    (hC : CT w p s m args meth c y b L rt) (hR : HR w h H) (hv : v = 1 ∨ v = 2 ∨ v = 50 ∨ v = 51 ∨ v = 52) (hl : Cond.fieldLink y.cls idx (gsN v).1 (gsN v).2.1 (gsN v).2.2 ∈ lw_good) (hd : decode b pc = .ok (.getstatic idx, 3))
    (z : W p l e R s m args below meth c H locs cells slots Q' (F0 m (pc + 3) lsA (gsV w v :: rest))) : W p l e R s m args below meth c H locs cells slots Q' (F0 m pc lsA rest) := by
  obtain ⟨cf, kf, fi, f, a, cell, h1, h2, h3, h4, h5, h6, h7, h8⟩ := hC.2.2.2.2.2.1.2.2.2.2.2.1 v hv
  have hb : a < bs w := Nat.not_le.mp h8
  exact W.gets hC.1 hC.2.1 hC.2.2.2.1 (hC.2.2.2.2.1 _ hl) h1 h2 h3 h4 (by rw [hR.2.2.1 a hb]; exact h5) (fun e => by rw [e] at h6; cases h6) h7 rfl hd z
theorem ex_gets (hm : minf (k / 1000000) = (oc, y, b, L, rt, ws, pcs)) (hpc : pcs[i]? = some pc) (ho : ocN[oc]? = some y.cls) {idx v : Nat} (hd : decode b pc = .ok (.getstatic idx, 3)) (hn : pcs[i + 1]? = some (pc + 3)) (hs : gsAt oc idx v = true)
    (H : bI (v == 1 || v == 2) (EX w l d k (i + 1) (vi (fI h 9900 v) :: st) ls h Q) (EX w l d k (i + 1) (vr (fP h 39900 v) :: st) ls h Q)) : EX w l d k i st ls h Q := by
  obtain ⟨hv, hl⟩ := gs_facts hs ho
  rcases hv with rfl | rfl | rfl | rfl | rfl
  · have H : EX w l d k (i + 1) (vi (fI h 9900 1) :: st) ls h Q := H
    refine ex_pure hm hpc hn H (fun _ _ _ _ _ _ _ _ _ _ _ _ _ _ _ hC hR _ _ z => w_gets hC hR (Or.inl rfl) hl hd ?_)
    rw [List.map_cons, hR.2.2.2.2.2.2.1] at z; exact z
  · have H : EX w l d k (i + 1) (vi (fI h 9900 2) :: st) ls h Q := H
    refine ex_pure hm hpc hn H (fun _ _ _ _ _ _ _ _ _ _ _ _ _ _ _ hC hR _ _ z => w_gets hC hR (Or.inr (Or.inl rfl)) hl hd ?_)
    rw [List.map_cons, hR.2.2.2.2.2.2.2.1] at z; exact z
  · have H : EX w l d k (i + 1) (vr (fP h 39900 50) :: st) ls h Q := H
    refine ex_pure hm hpc hn H (fun _ _ _ _ _ _ _ _ _ _ _ _ _ _ _ hC hR _ _ z => w_gets hC hR (Or.inr (Or.inr (Or.inl rfl))) hl hd ?_)
    rw [List.map_cons, hR.2.2.2.2.2.2.2.2.1] at z; exact z
  · have H : EX w l d k (i + 1) (vr (fP h 39900 51) :: st) ls h Q := H
    refine ex_pure hm hpc hn H (fun _ _ _ _ _ _ _ _ _ _ _ _ _ _ _ hC hR _ _ z => w_gets hC hR (Or.inr (Or.inr (Or.inr (Or.inl rfl)))) hl hd ?_)
    rw [List.map_cons, hR.2.2.2.2.2.2.2.2.2.1] at z; exact z
  · have H : EX w l d k (i + 1) (vr (fP h 39900 52) :: st) ls h Q := H
    refine ex_pure hm hpc hn H (fun _ _ _ _ _ _ _ _ _ _ _ _ _ _ _ hC hR _ _ z => w_gets hC hR (Or.inr (Or.inr (Or.inr (Or.inr rfl)))) hl hd ?_)
    rw [List.map_cons, hR.2.2.2.2.2.2.2.2.2.2.1] at z; exact z
theorem ex_mir (hm : minf (k / 1000000) = (oc, y, b, L, rt, ws, pcs)) (hpc : pcs[i]? = some pc) (ho : ocN[oc]? = some y.cls) {idx : Nat} (hd : decode b pc = .ok (.ldc idx, 2)) (hn : pcs[i + 1]? = some (pc + 2)) (hs : clAt oc idx 91 = true)
    (H : bI (60 == 1 || 60 == 2) (EX w l d k (i + 1) (vi (fI h 9900 60) :: st) ls h Q) (EX w l d k (i + 1) (vr (fP h 39900 60) :: st) ls h Q)) : EX w l d k i st ls h Q := by
  have H : EX w l d k (i + 1) (vr (fP h 39900 60) :: st) ls h Q := H
  refine ex_pure hm hpc hn H (fun _ _ _ _ _ _ _ _ _ _ _ _ _ _ _ hC hR _ _ z => va_ldcM hC.1 hC.2.1 hC.2.2.2.1 (hC.2.2.2.2.1 _ ((cl_facts hs ho).2.1 rfl)) hC.2.2.2.2.2.1.2.2.2.2.2.2.2.1 hd ?_)
  rw [List.map_cons, hR.2.2.2.2.2.2.2.2.2.2.2] at z
  exact z
theorem ex_getS (hm : minf (k / 1000000) = (oc, y, b, L, rt, ws, pcs)) (hpc : pcs[i]? = some pc) (ho : ocN[oc]? = some y.cls) {idx f : Nat} (hs : fsAt oc idx f = true) (hd : decode b pc = .ok (.getfield idx, 3)) (hn : pcs[i + 1]? = some (pc + 3)) (H : p1 st (fun o r => nn o (fun a => tg h a = f / 100 % 100 + 1 ∧ EX w l d k (i + 1) (getf f a h :: r) ls h Q))) : EX w l d k i st ls h Q := by
  unfold p1 at H
  split at H
  · rename_i x r
    cases x with
    | none => exact H.elim
    | some a =>
      obtain ⟨ht, H⟩ := H
      refine ex_pure hm hpc hn H (fun _ _ _ _ _ _ _ _ _ _ _ _ _ _ _ hC hR _ _ z => ?_)
      have ht70 : tg h a = 70 := by rcases fs_facts hs ho with ⟨rfl, -⟩ | ⟨rfl, -⟩ <;> exact ht
      obtain ⟨i0, e1, e2, e3, e4⟩ := (hR.2.2.2.1 a).2.2.2.1 ht70
      have hb := (hR.2.2.2.1 a).2.2.2.2.2.2 (Or.inl ht70)
      obtain ⟨-, o2, o3, -⟩ := hC.2.2.2.2.2.1.2.2.2.1.1 i0 e1
      rcases fs_facts hs ho with ⟨rfl, hl⟩ | ⟨rfl, hl⟩
      · obtain ⟨cf, k, fi, f, cell, h1, h2, h3, h4, h5, h6⟩ := o3
        refine W.getf hC.1 hC.2.1 hC.2.2.2.1 (hC.2.2.2.2.1 _ hl) h1 h2 (by rw [hR.2.2.1 a hb, e2]; exact h3) h4 h5 rfl rfl hd ?_
        rw [List.map_cons, show getf 36900 a h = vr (fP h 36900 a) from rfl, e3] at z
        exact z
      · obtain ⟨cf, k, fi, f, cell, h1, h2, h3, h4, h5, h6⟩ := o2
        refine W.getf hC.1 hC.2.1 hC.2.2.2.1 (hC.2.2.2.2.1 _ hl) h1 h2 (by rw [hR.2.2.1 a hb, e2]; exact h3) h4 h5 rfl rfl hd ?_
        rw [List.map_cons, show getf 46901 a h = vi (fI h 46901 a) from rfl, e4] at z
        exact z
  · exact H.elim
theorem ex_aaload (hm : minf (k / 1000000) = (oc, y, b, L, rt, ws, pcs)) (hpc : pcs[i]? = some pc) (hd : decode b pc = .ok (.aaload, 1)) (hn : pcs[i + 1]? = some (pc + 1)) (H : pi st (fun o j r => nn o (fun a => tg h a = 109 ∧ vp_in j (ln h a) ∧ EX w l d k (i + 1) (vr (aP h a j.toNatClampNeg) :: r) ls h Q))) : EX w l d k i st ls h Q := by
  unfold pi at H
  split at H
  · rename_i j x r
    cases x with
    | none => exact H.elim
    | some a =>
      obtain ⟨ht, hj, H⟩ := H
      refine ex_pure hm hpc hn H (fun _ _ _ _ _ _ _ _ _ _ _ _ _ _ _ hC hR _ _ z => ?_)
      have hc := ((hR.2.2.2.1 a).2.1 9 (Or.inr (Or.inr (Or.inr (Or.inr rfl)))) ht).2
      exact W.aald hC.1 hC.2.1 hc ((hC.2.2.2.2.2.1.1.2 4 _ rfl).1 _ _) rfl (fun h => by cases h) (in_sz hj) (arrV_read _ _ (in_lt hj)) rfl rfl hd z
  · exact H.elim
theorem arV9 (h : AH) (a j : Nat) : arV h 9 a j = va_rf (aP h a j) := by
  unfold arV
  rw [if_neg (by decide : ¬ (9 : Nat) = 2), if_pos rfl]
theorem pic_AP {a n x : Nat} (j : Nat) : updV (arV h 9 a) n (.ref x) j = arV (setAP h a n (some x)) 9 a j := by
  unfold updV
  rw [arV9, arV9]
  show _ = va_rf (up2 h.2.2.2.2.2.1 a n (some x) a j)
  unfold up2
  by_cases e : j = n
  · rw [if_pos e, if_pos ⟨rfl, e⟩]; rfl
  · rw [if_neg e, if_neg (fun z => e z.2)]; rfl
theorem ex_aastore (hm : minf (k / 1000000) = (oc, y, b, L, rt, ws, pcs)) (hpc : pcs[i]? = some pc) (hd : decode b pc = .ok (.aastore, 1)) (hn : pcs[i + 1]? = some (pc + 1)) (H : p1 st (fun v r => nn v (fun x => pi r (fun o j r => nn o (fun a => tg h a = 109 ∧ (tg h x = 1 ∨ tg h x = 9 ∨ tg h x = 13) ∧ vp_in j (ln h a) ∧ EX w l d k (i + 1) r ls (setAP h a j.toNatClampNeg (some x)) Q))))) : EX w l d k i st ls h Q := by
  unfold p1 at H
  split at H
  · rename_i v r0
    cases v with
    | none => exact H.elim
    | some x =>
      change pi r0 _ at H
      unfold pi at H
      split at H
      · rename_i j o r
        cases o with
        | none => exact H.elim
        | some a =>
          obtain ⟨ht, hx, hj, H⟩ := H
          refine ex_put (h1 := setAP h a j.toNatClampNeg (some x)) hm hpc hn rfl rfl H (fun _ _ _ _ _ _ _ _ _ _ _ _ _ _ _ hC hR z => ?_)
          have hs : arS 9 := Or.inr (Or.inr (Or.inr (Or.inr rfl)))
          obtain ⟨hba, hc⟩ := (hR.2.2.2.1 a).2.1 9 hs ht
          obtain ⟨cellV, kV, t0, g1, g2, g3, g4, g5⟩ := el_cell hC.2.2.2.2.2.1 hR hx
          obtain ⟨kA, comp, k1, k2, k3, -⟩ := (hC.2.2.2.2.2.1.1.2 4 _ rfl).2
          cases g4.symm.trans k3
          obtain ⟨kO, hkO, -⟩ := Vm.findClass_spec g4
          refine W.aast hC.1 hC.2.1 hc (fun q h => by cases h) (fun h => by cases h) k1 k2 rfl hkO ⟨fun q => hj (Or.inl q), by rw [arrV_size]; exact in_lt hj⟩ g1 (fun q h => by rw [g2] at h; cases h) g3 g5 rfl rfl hd (fun H' e1 e2 e3 => z H' a _ ?_ hba)
          rw [arrV_store] at e1
          exact HR_arr hR hs ht e1 e2 e3 rfl rfl rfl pic_AP rfl rfl rfl same_AP
      · exact H.elim
  · exact H.elim
theorem ex_anew (hm : minf (k / 1000000) = (oc, y, b, L, rt, ws, pcs)) (hpc : pcs[i]? = some pc) (ho : ocN[oc]? = some y.cls) {idx : Nat} (hs : clAt oc idx 90 = true) (hd : decode b pc = .ok (.anewarray idx, 3)) (hn : pcs[i + 1]? = some (pc + 3))
    (H : i1 st (fun n r => 0 ≤ n ∧ 0 < rc h ∧ n.toNatClampNeg ≤ rs h ∧ EX w l d k (i + 1) (vr (some (tp h)) :: r) ls (newA h 9 n.toNatClampNeg) Q)) : EX w l d k i st ls h Q := by
  unfold i1 at H
  split at H
  · rename_i n r
    obtain ⟨h0, g1, g2, H⟩ := H
    have hn0 : ¬ n < 0 := Int32.not_lt.mpr h0
    refine ex_new (h1 := newA h 9 n.toNatClampNeg) (n := n.toNatClampNeg) hm hpc hn rfl rfl g1 g2 H (fun _ _ _ s _ args _ _ _ HH _ _ _ _ _ hC hR q1 q2 q3 z => ?_)
    have hsz : (Value.ref HH.size) = VA (vr (some (tp h))) := by rw [hR.1]; rfl
    refine W.anew hC.1 hC.2.1 hC.2.2.2.1 (hC.2.2.2.2.1 _ ((cl_facts hs ho).1 rfl)) (va_AO.use hC.2.2.2.2.2.1.2.2.2.2.2.2.2.2.2.1) rfl hd rfl hn0 (by omega) q1 q2 (fun cA kA comp f1 f2 f3 f4 => ?_)
    obtain ⟨kA', comp', k1, k2, k3, k4⟩ := (hC.2.2.2.2.2.1.1.2 4 _ rfl).2
    have hcA : cA = w.2.1 9 := Option.some.inj (f1.symm.trans k4)
    have hH : HR w (newA h 9 n.toNatClampNeg) (HH.push { cls := cA, slots := Array.replicate n.toNatClampNeg .null, vm := .none }) := by
      refine HR_newA hR (Or.inr (Or.inr (Or.inr (Or.inr rfl)))) (by simp) (fun q hq => by rw [Array.getElem?_push, if_neg (Nat.ne_of_lt hq)]) ?_
      have e9 : arV (newA h 9 n.toNatClampNeg) 9 (tp h) = fun _ => Value.null := by
        funext j
        unfold arV
        rw [if_neg (by decide), if_pos rfl]
        show va_rf (if tp h = tp h then none else aP h (tp h) j) = _
        rw [if_pos rfl]; rfl
      rw [e9, ← arrV_new, ← hR.1, hcA]
      simp
    have e := z _ hH
    rw [List.map_cons, ← hsz] at e
    exact e
  · exact H.elim
theorem ex_cast (hm : minf (k / 1000000) = (oc, y, b, L, rt, ws, pcs)) (hpc : pcs[i]? = some pc) (ho : ocN[oc]? = some y.cls) {idx c : Nat} (hs : clAt oc idx c = true) (hc15 : c < 15) (hd : decode b pc = .ok (.checkcast idx, 3)) (hn : pcs[i + 1]? = some (pc + 3))
    (H : p1 st (fun o r => (∀ a, o = some a → tg h a = c + 1) ∧ EX w l d k (i + 1) (vr o :: r) ls h Q)) : EX w l d k i st ls h Q := by
  unfold p1 at H
  split at H
  · rename_i x r
    cases x with
    | none => exact ex_pure hm hpc hn H.2 (fun _ _ _ _ _ _ _ _ _ _ _ _ _ _ _ hC hR _ _ z => lv_castN hC.1 hC.2.1 hd z)
    | some a =>
      obtain ⟨C, T, N, hv, hl⟩ := (cl_facts hs ho).2.2 hc15
      refine ex_pure hm hpc hn H.2 (fun _ _ _ _ _ _ _ _ _ _ _ _ _ _ _ hC hR _ _ z => ?_)
      obtain ⟨-, cell, q1, q2, q3, -⟩ := (hR.2.2.2.1 a).1 c C T N (H.1 a rfl) hv
      have hA := (hC.2.2.2.2.2.1.1.1 c _ hv).2
      exact va_castS hC.1 hC.2.1 hC.2.2.2.1 (hC.2.2.2.2.1 _ hl) hA ⟨cell, q1, by rw [q3]; rfl, by rw [q2]; exact hA.1⟩ hd z
  · exact H.elim
theorem ex_acmp (hm : minf (k / 1000000) = (oc, y, b, L, rt, ws, pcs)) (hpc : pcs[i]? = some pc) {c : ClassFile.ACond} {off : Int} {t q : Nat} (hd : decode b pc = .ok (.if_acmp c off, 3)) (hn : pcs[i + 1]? = some (pc + 3)) (ht : pcs[t]? = some q) (hq : (pc : Int) + off = (q : Int))
    (H : p1 st (fun y r => p1 r (fun x r => (acm c x y → EX w l d k t r ls h Q) ∧ (¬ acm c x y → EX w l d k (i + 1) r ls h Q)))) : EX w l d k i st ls h Q := by
  unfold p1 at H
  split at H
  · rename_i y r0
    split at H
    · rename_i x r
      cases c with
      | eq =>
        by_cases z0 : x = y
        · exact ex_pure hm hpc ht (H.1 z0) (fun _ _ _ _ _ _ _ _ _ _ _ _ _ _ _ hC _ _ _ z => lv_acmp_eq hC.1 hC.2.1 hd hq (fun _ => z) (fun u => absurd z0 u))
        · exact ex_pure hm hpc hn (H.2 z0) (fun _ _ _ _ _ _ _ _ _ _ _ _ _ _ _ hC _ _ _ z => lv_acmp_eq hC.1 hC.2.1 hd hq (fun u => absurd u z0) (fun _ => z))
      | ne =>
        by_cases z0 : x = y
        · exact ex_pure hm hpc hn (H.2 (fun u => u z0)) (fun _ _ _ _ _ _ _ _ _ _ _ _ _ _ _ hC _ _ _ z => lv_acmp_ne hC.1 hC.2.1 hd hq (fun u => absurd z0 u) (fun _ => z))
        · exact ex_pure hm hpc ht (H.1 z0) (fun _ _ _ _ _ _ _ _ _ _ _ _ _ _ _ hC _ _ _ z => lv_acmp_ne hC.1 hC.2.1 hd hq (fun _ => z) (fun u => absurd u z0))
    · exact H.elim
  · exact H.elim
theorem ex_gc (hm : minf (k / 1000000) = (oc, y, b, L, rt, ws, pcs)) (hpc : pcs[i]? = some pc) (ho : ocN[oc]? = some y.cls) {idx : Nat} (hs : ntAt oc idx 0 = true) (hd : decode b pc = .ok (.invokevirtual idx, 3)) (hn : pcs[i + 1]? = some (pc + 3))
    (H : p1 st (fun o r => nn o (fun a => tg h a = 109 ∧ gB (Nat.ble (catS r) 8) (EX w l d k (i + 1) (vr (fP h 39900 60) :: r) ls h Q)))) : EX w l d k i st ls h Q := by
  unfold p1 at H
  split at H
  · rename_i x r
    cases x with
    | none => exact H.elim
    | some a =>
      obtain ⟨ht, H⟩ := H
      obtain ⟨hcat, H⟩ := gB_out H
      have hcat := Nat.le_of_ble_eq_true hcat
      refine ex_pure hm hpc hn H (fun _ _ _ _ _ _ _ _ _ _ _ _ _ _ _ hC hR hl2 hrm z => ?_)
      have hts := hC.2.2.2.2.1
      have hc := ((hR.2.2.2.1 a).2.1 9 (Or.inr (Or.inr (Or.inr (Or.inr rfl)))) ht).2
      obtain ⟨kA', comp', k1, k2, k3, k4⟩ := (hC.2.2.2.2.2.1.1.2 4 _ rfl).2
      rw [List.map_cons, hR.2.2.2.2.2.2.2.2.2.2.2] at z
      refine va_getC hC.1 hC.2.1 (hC.2.2.1.trans hl2.1.symm) hC.2.2.2.1 (hts _ ((nt_facts hs ho).1 rfl)) (va_Dc.use hC.2.2.2.2.2.1.2.2.2.2.2.2.2.2.1) (hts _ n_gc1) (hts _ n_gc2) (hts _ n_gc3) hC.2.2.2.2.2.1.2.2.2.2.2.2.2.1 ⟨_, hc, rfl, k4⟩ hrm.2.2.1 ?_ hd z
      rw [catS_eq]
      have := hrm.2.2.2
      omega
  · exact H.elim
theorem ex_max (hm : minf (k / 1000000) = (oc, y, b, L, rt, ws, pcs)) (hpc : pcs[i]? = some pc) (ho : ocN[oc]? = some y.cls) {idx : Nat} (hs : ntAt oc idx 2 = true) (hd : decode b pc = .ok (.invokestatic idx, 3)) (hn : pcs[i + 1]? = some (pc + 3))
    (H : i2 st (fun x y r => gB (Nat.ble (catS r) 8) (EX w l d k (i + 1) (vi (if x < y then y else x) :: r) ls h Q))) : EX w l d k i st ls h Q := by
  unfold i2 at H
  split at H
  · obtain ⟨hcat, H⟩ := gB_out H
    have hcat := Nat.le_of_ble_eq_true hcat
    refine ex_pure hm hpc hn H (fun _ _ _ _ _ _ _ _ _ _ _ _ _ _ _ hC hR hl2 hrm z => ?_)
    have hts := hC.2.2.2.2.1
    refine va_mmax hC.1 hC.2.1 (hC.2.2.1.trans hl2.1.symm) hC.2.2.2.1 (hts _ ((nt_facts hs ho).2.2.1 rfl)) (hts _ n_mm1) (hts _ n_mm2) (hts _ n_mm3) hrm.2.2.1 ?_ hrm.1 hrm.2.1 hd z
    rw [catS_eq]
    have := hrm.2.2.2
    omega
  · exact H.elim
theorem ex_min (hm : minf (k / 1000000) = (oc, y, b, L, rt, ws, pcs)) (hpc : pcs[i]? = some pc) (ho : ocN[oc]? = some y.cls) {idx : Nat} (hs : ntAt oc idx 3 = true) (hd : decode b pc = .ok (.invokestatic idx, 3)) (hn : pcs[i + 1]? = some (pc + 3))
    (H : i2 st (fun x y r => gB (Nat.ble (catS r) 8) (EX w l d k (i + 1) (vi (if y < x then y else x) :: r) ls h Q))) : EX w l d k i st ls h Q := by
  unfold i2 at H
  split at H
  · obtain ⟨hcat, H⟩ := gB_out H
    have hcat := Nat.le_of_ble_eq_true hcat
    refine ex_pure hm hpc hn H (fun _ _ _ _ _ _ _ _ _ _ _ _ _ _ _ hC hR hl2 hrm z => ?_)
    have hts := hC.2.2.2.2.1
    refine va_mmin hC.1 hC.2.1 (hC.2.2.1.trans hl2.1.symm) hC.2.2.2.1 (hts _ ((nt_facts hs ho).2.2.2 rfl)) (hts _ n_mm4) (hts _ n_mm2) (hts _ n_mm5) hrm.2.2.1 ?_ hrm.1 hrm.2.1 hd z
    rw [catS_eq]
    have := hrm.2.2.2
    omega
  · exact H.elim
end JD
