/-! New cells, returns, calls -/
theorem ac_int : Cond.arrayClass .int ∈ lw_good := by decide +kernel
theorem ac_long : Cond.arrayClass .long ∈ lw_good := by decide +kernel
theorem ac_byte : Cond.arrayClass .byte ∈ lw_good := by decide +kernel
theorem ac_bool : Cond.arrayClass .boolean ∈ lw_good := by decide +kernel
theorem oi_inst : Cond.instanceMethod Lib.objectInit ∈ lw_good := by decide +kernel
theorem oi_code : Cond.code Lib.objectInit ⟨#[0xb1]⟩ 1 none ∈ lw_good := by decide +kernel
theorem fid_c {ci : Nat} {T : u_T} {k : Nat} (hk : k < 100) (hc : ci < 100) : fid ci T k / 100 % 100 = ci := by
  unfold fid
  omega
theorem newO_get {h : AH} {ci n k : Nat} {T : u_T} {ty : FieldType} (hk : k < 100) (hc : ci < 100) (hp : parseFieldDescriptor (T k).2.2.1 = some ty) (hr : kdD (T k).2.2.1 = 3 → refD (T k).2.2.1 = true) : defaultValue ty = objV (newO h ci n) ci T (tp h) k := by
  have e1 := fid_c (T := T) hk hc
  have e2 := fid_k (T := T) hk hc
  unfold objV getf
  have hle := kd_le (T k).2.2.1
  rcases (show kdD (T k).2.2.1 = 0 ∨ kdD (T k).2.2.1 = 1 ∨ kdD (T k).2.2.1 = 2 ∨ kdD (T k).2.2.1 = 3 by omega) with q | q | q | q
  · rw [kd_I q, pd_I] at hp
    cases hp
    rw [e2, q]
    show _ = Value.int (if tp h = tp h ∧ fid ci T k / 100 % 100 = ci then 0 else fI h (fid ci T k) (tp h))
    rw [if_pos ⟨rfl, e1⟩]; rfl
  · rw [kd_Z q, pd_Z] at hp
    cases hp
    rw [e2, q]
    show _ = Value.int (if tp h = tp h ∧ fid ci T k / 100 % 100 = ci then 0 else fI h (fid ci T k) (tp h))
    rw [if_pos ⟨rfl, e1⟩]; rfl
  · rw [kd_J q, pd_J] at hp
    cases hp
    rw [e2, q]
    show _ = Value.long (if tp h = tp h ∧ fid ci T k / 100 % 100 = ci then 0 else fJ h (fid ci T k) (tp h))
    rw [if_pos ⟨rfl, e1⟩]; rfl
  · obtain ⟨ty', hp', ht⟩ := pd_ref (hr q)
    cases hp.symm.trans hp'
    rw [e2, q]
    show _ = va_rf (if tp h = tp h ∧ fid ci T k / 100 % 100 = ci then none else fP h (fid ci T k) (tp h))
    rw [if_pos ⟨rfl, e1⟩]
    rcases ht with ⟨_, rfl⟩ | ⟨_, rfl⟩ <;> rfl
theorem HR_newO {w : Wd} {h : AH} {H H' : Heap} {ci n : Nat} {C : String} {T : u_T} {N : Nat} (hR : HR w h H) (hc : vwCl[ci]? = some (C, T, N)) (z1 : H'.size = H.size + 1) (o1 : ∀ q, q < H.size → H'[q]? = H[q]?) (e1 : t_OB (tp h) (w.1.1 ci) N (w.1.2 ci) H' (objV (newO h ci n) ci T (tp h))) : HR w (newO h ci n) H' := by
  have hlt := (vw_at hc).2
  have ht : tg (newO h ci n) (tp h) = ci + 1 := by
    show (if tp h = tp h then ci + 1 else tg h (tp h)) = _
    rw [if_pos rfl]
  obtain ⟨-, -, -, -, -, -, o4⟩ := hR.2.2.2.1 (tp h)
  have eI : fI (newO h ci n) 9901 (tp h) = fI h 9901 (tp h) := by
    show (if tp h = tp h ∧ 9901 / 100 % 100 = ci then 0 else fI h 9901 (tp h)) = _
    rw [if_neg (by omega)]
  refine HR_new hR z1 o1 (fun b hb => ?_) (fun b hb => rfl) rfl (fun g b hb => ?_) (fun g b hb => ?_) (fun g b hb => ?_) ⟨fun _ _ _ => rfl, fun _ _ _ => rfl, fun _ _ _ => rfl⟩ ?_
  · show (if b = tp h then ci + 1 else tg h b) = _
    rw [if_neg hb]
  · show (if b = tp h ∧ g / 100 % 100 = ci then 0 else fI h g b) = _
    rw [if_neg (by omega)]
  · show (if b = tp h ∧ g / 100 % 100 = ci then 0 else fJ h g b) = _
    rw [if_neg (by omega)]
  · show (if b = tp h ∧ g / 100 % 100 = ci then none else fP h g b) = _
    rw [if_neg (by omega)]
  · refine ⟨fun ci' C' T' N' ht' hc' => ?_, fun t hs ht' => ?_, fun ht' => by omega, fun ht' => by omega, fun ht' => ?_, fun ht' => ?_, fun ht' => ?_⟩
    · have : ci' = ci := by omega
      subst this
      cases hc.symm.trans hc'
      exact ⟨hR.2.1, e1⟩
    · exfalso; rcases hs with q | q | q | q | q <;> omega
    · rw [eI] at ht'; exact absurd (o4 (Or.inr (Or.inl ht'))) (Nat.not_lt.mpr hR.2.1)
    · rw [eI] at ht'; exact absurd (o4 (Or.inr (Or.inr ht'))) (Nat.not_lt.mpr hR.2.1)
    · rcases ht' with ht' | ht'
      · omega
      · rw [eI] at ht'; exact o4 (Or.inr ht')
theorem HR_newA {w : Wd} {h : AH} {H H' : Heap} {t n : Nat} (hR : HR w h H) (hs : arS t) (z1 : H'.size = H.size + 1) (o1 : ∀ q, q < H.size → H'[q]? = H[q]?) (e1 : H'[tp h]? = some (arrV (w.2.1 t) n (arV (newA h t n) t (tp h)))) : HR w (newA h t n) H' := by
  have ht : tg (newA h t n) (tp h) = 100 + t := by
    show (if tp h = tp h then 100 + t else tg h (tp h)) = _
    rw [if_pos rfl]
  obtain ⟨-, -, -, -, -, -, o4⟩ := hR.2.2.2.1 (tp h)
  have hl : ln (newA h t n) (tp h) = n := by
    show (if tp h = tp h then n else ln h (tp h)) = _
    rw [if_pos rfl]
  refine HR_new hR z1 o1 (fun b hb => ?_) (fun b hb => ?_) rfl (fun g b hb => rfl) (fun g b hb => rfl) (fun g b hb => rfl) ⟨fun b j hb => ?_, fun b j hb => ?_, fun b j hb => ?_⟩ ?_
  · show (if b = tp h then 100 + t else tg h b) = _
    rw [if_neg hb]
  · show (if b = tp h then n else ln h b) = _
    rw [if_neg hb]
  · show (if b = tp h then 0 else aI h b j) = _
    rw [if_neg hb]
  · show (if b = tp h then 0 else aJ h b j) = _
    rw [if_neg hb]
  · show (if b = tp h then none else aP h b j) = _
    rw [if_neg hb]
  · refine ⟨fun ci' C' T' N' ht' hc' => ?_, fun t' hs' ht' => ?_, fun ht' => ?_, fun ht' => ?_, fun ht' => ?_, fun ht' => ?_, fun ht' => ?_⟩
    · have := (vw_at hc').2
      exfalso; rcases hs with q | q | q | q | q <;> omega
    · have : t' = t := by omega
      subst this
      exact ⟨hR.2.1, by rw [hl]; exact e1⟩
    · exfalso; rcases hs with q | q | q | q | q <;> omega
    · exfalso; rcases hs with q | q | q | q | q <;> omega
    · exact absurd (o4 (Or.inr (Or.inl ht'))) (Nat.not_lt.mpr hR.2.1)
    · exact absurd (o4 (Or.inr (Or.inr ht'))) (Nat.not_lt.mpr hR.2.1)
    · rcases ht' with ht' | ht'
      · exfalso; rcases hs with q | q | q | q | q <;> omega
      · exact o4 (Or.inr ht')
theorem arV_new {h : AH} {t n : Nat} (h9 : ¬ t = 9) (j : Nat) : arV (newA h t n) t (tp h) j = if t = 2 then .long 0 else .int 0 := by
  unfold arV
  by_cases e : t = 2
  · rw [if_pos e, if_pos e]
    show Value.long (if tp h = tp h then 0 else aJ h (tp h) j) = _
    rw [if_pos rfl]
  · rw [if_neg e, if_neg h9, if_neg e]
    show Value.int (if tp h = tp h then 0 else aI h (tp h) j) = _
    rw [if_pos rfl]
section CL
variable {w : Wd} {l : Launch} {d k i : Nat} {ls : Ls} {st : List V} {h : AH} {Q : Option V → AH → Prop} {oc : Nat} {y : MethodName} {b : ByteArray} {L : Nat} {rt : Option FieldType} {ws pcs : List Nat} {pc : Nat}
theorem ex_newo (hm : minf (k / 1000000) = (oc, y, b, L, rt, ws, pcs)) (hpc : pcs[i]? = some pc) {idx ci N : Nat} {C : String} {T : u_T} (hv : vwCl[ci]? = some (C, T, N)) (hl1 : Cond.classLink y.cls idx C ∈ lw_good) (hl2 : Cond.instantiable C N ∈ lw_good) (hl3 : Cond.initialized C ∈ lw_good)
    (hd : decode b pc = .ok (.new idx, 3)) (hn : pcs[i + 1]? = some (pc + 3)) (g1 : 0 < rc h) (g2 : N ≤ rs h) (H : EX w l d k (i + 1) (vr (some (tp h)) :: st) ls (newO h ci N) Q) : EX w l d k i st ls h Q := by
  obtain ⟨⟨hin, ⟨ty, hty⟩, -, hrf⟩, hlt⟩ := vw_at hv
  have hN : N ≤ 100 := by
    have : ∀ q ∈ vwCl, q.2.2 ≤ 100 := by decide +kernel
    exact this _ (List.mem_of_getElem? hv)
  refine ex_new (h1 := newO h ci N) (n := N) hm hpc hn rfl rfl g1 g2 H (fun _ _ _ s _ args _ _ _ HH _ _ _ _ _ hC hR q1 q2 _ z => ?_)
  have hts := hC.2.2.2.2.1
  have hKn := hC.2.2.2.2.2.1.1.1 ci _ hv
  refine W.newcK hC.1 hC.2.1 hC.2.2.2.1 (hts _ hl1) (hts _ hl2) (hts _ hl3) rfl hd q1 q2 hKn.2.1 hR.1 (fun H1 kC hkC e1 z1 o1 => z H1 ?_)
  refine HR_newO hR hv (by rw [z1, hR.1]) (fun q hq => o1 q (by rw [← hR.1]; exact hq)) ?_
  exact (u_born ty hts hin hKn hkC e1 hty).to (fun j hj => newO_get (Nat.lt_of_lt_of_le hj hN) (by omega) (hty j hj) (hrf j hj))
theorem ex_newa (hm : minf (k / 1000000) = (oc, y, b, L, rt, ws, pcs)) (hpc : pcs[i]? = some pc) {t : ClassFile.ArrayType} (hd : decode b pc = .ok (.newarray t, 2)) (hn : pcs[i + 1]? = some (pc + 2))
    (H : i1 st (fun n r => 0 ≤ n ∧ 0 < rc h ∧ n.toNatClampNeg ≤ rs h ∧ gB (Nat.blt 0 (arrT t)) (EX w l d k (i + 1) (vr (some (tp h)) :: r) ls (newA h (arrT t) n.toNatClampNeg) Q))) : EX w l d k i st ls h Q := by
  unfold i1 at H
  split at H
  · rename_i n r
    obtain ⟨h0, g1, g2, g3⟩ := H
    obtain ⟨g3, H⟩ := gB_out g3
    have hn0 : ¬ n < 0 := Int32.not_lt.mpr h0
    refine ex_new (h1 := newA h (arrT t) n.toNatClampNeg) (n := n.toNatClampNeg) hm hpc hn rfl rfl g1 g2 H (fun _ _ _ s _ args _ _ _ HH _ _ _ _ _ hC hR q1 q2 q3 z => ?_)
    have hts := hC.2.2.2.2.1
    have hKt := hC.2.2.2.2.2.1.1.2
    have fin : ∀ (ty : FieldType) (cA : ClassId), arS (arrT t) → ¬ arrT t = 9 → cA = w.2.1 (arrT t) → defaultValue ty = (if arrT t = 2 then .long 0 else .int 0) → HR w (newA h (arrT t) n.toNatClampNeg) (HH.push { cls := cA, slots := Array.replicate n.toNatClampNeg (defaultValue ty), vm := .none }) := by
      intro ty cA hs h9 hc hdv
      refine HR_newA hR hs (by simp) (fun q hq => by rw [Array.getElem?_push, if_neg (Nat.ne_of_lt hq)]) ?_
      rw [show arV (newA h (arrT t) n.toNatClampNeg) (arrT t) (tp h) = fun _ => defaultValue ty from funext (fun j => by rw [arV_new h9, hdv]), ← arrV_new, ← hR.1, hc]
      simp
    have hsz : (Value.ref HH.size) = VA (vr (some (tp h))) := by rw [hR.1]; rfl
    cases t with
    | int =>
      refine W.newa (atype := .int) hC.1 hC.2.1 (hts _ ac_int) rfl hd rfl hn0 (by show n.toNatClampNeg * 4 ≤ _; omega) q1 q2 (fun cA kA comp h1 _ _ => ?_)
      have e := z _ (fin .int cA (Or.inl rfl) (by decide) (Option.some.inj (h1.symm.trans (hKt 0 _ rfl).2)) rfl)
      rw [List.map_cons, ← hsz] at e
      exact e
    | long =>
      refine W.newa (atype := .long) hC.1 hC.2.1 (hts _ ac_long) rfl hd rfl hn0 (by show n.toNatClampNeg * 8 ≤ _; omega) q1 q2 (fun cA kA comp h1 _ _ => ?_)
      have e := z _ (fin .long cA (Or.inr (Or.inl rfl)) (by decide) (Option.some.inj (h1.symm.trans (hKt 1 _ rfl).2)) rfl)
      rw [List.map_cons, ← hsz] at e
      exact e
    | byte =>
      refine W.newa (atype := .byte) hC.1 hC.2.1 (hts _ ac_byte) rfl hd rfl hn0 (by show n.toNatClampNeg * 1 ≤ _; omega) q1 q2 (fun cA kA comp h1 _ _ => ?_)
      have e := z _ (fin .byte cA (Or.inr (Or.inr (Or.inl rfl))) (by decide) (Option.some.inj (h1.symm.trans (hKt 2 _ rfl).2)) rfl)
      rw [List.map_cons, ← hsz] at e
      exact e
    | boolean =>
      refine W.newa (atype := .boolean) hC.1 hC.2.1 (hts _ ac_bool) rfl hd rfl hn0 (by show n.toNatClampNeg * 1 ≤ _; omega) q1 q2 (fun cA kA comp h1 _ _ => ?_)
      have e := z _ (fin .boolean cA (Or.inr (Or.inr (Or.inr (Or.inl rfl)))) (by decide) (Option.some.inj (h1.symm.trans (hKt 3 _ rfl).2)) rfl)
      rw [List.map_cons, ← hsz] at e
      exact e
    | char => exact absurd g3 (by decide)
    | float => exact absurd g3 (by decide)
    | double => exact absurd g3 (by decide)
    | short => exact absurd g3 (by decide)
  · exact H.elim
theorem ex_vret (hm : minf (k / 1000000) = (oc, y, b, L, rt, ws, pcs)) (hpc : pcs[i]? = some pc) (hd : decode b pc = .ok (.return_, 1)) (hr : rt = none) (H : Q none h) : EX w l d k i [] ls h Q :=
  ex_ret (v := none) hm hpc H (fun _ _ _ _ _ _ _ _ _ _ _ _ _ _ hC hq hf => W.vret hC.1 hC.2.1 (hC.2.2.2.2.2.2.1.trans hr) hq hf hd (hlocks := hC.2.2.2.2.2.2.2.1))
theorem ex_iret (hm : minf (k / 1000000) = (oc, y, b, L, rt, ws, pcs)) (hpc : pcs[i]? = some pc) (hd : decode b pc = .ok (.ireturn, 1)) {ty : FieldType} (hr : rt = some ty) {x : Int32} (hnw : narrow ty (.int x) = .int x) (H : Q (some (vi x)) h) : EX w l d k i [vi x] ls h Q :=
  ex_ret (v := some (vi x)) hm hpc H (fun _ _ _ _ _ _ _ _ _ _ _ _ _ _ hC hq hf => W.zret hC.1 hC.2.1 (hC.2.2.2.2.2.2.1.trans hr) hnw hq hf hd (hlocks := hC.2.2.2.2.2.2.2.1))
theorem ex_lret (hm : minf (k / 1000000) = (oc, y, b, L, rt, ws, pcs)) (hpc : pcs[i]? = some pc) (hd : decode b pc = .ok (.lreturn, 1)) (hr : rt = some .long) {x : Int64} (H : Q (some (vl x)) h) : EX w l d k i [vl x] ls h Q :=
  ex_ret (v := some (vl x)) hm hpc H (fun _ _ _ _ _ _ _ _ _ _ _ _ _ _ hC hq hf => W.lret hC.1 hC.2.1 (hC.2.2.2.2.2.2.1.trans hr) hq hf hd (hlocks := hC.2.2.2.2.2.2.2.1))
theorem ex_aret (hm : minf (k / 1000000) = (oc, y, b, L, rt, ws, pcs)) (hpc : pcs[i]? = some pc) (hd : decode b pc = .ok (.areturn, 1)) {ty : FieldType} (hr : rt = some ty) (hty : (∃ n, ty = .object n) ∨ ∃ t, ty = .array t) {x : Option Nat} (H : Q (some (vr x)) h) : EX w l d k i [vr x] ls h Q :=
  ex_ret (v := some (vr x)) hm hpc H (fun _ _ _ _ _ _ _ _ _ _ _ _ _ _ hC hq hf => W.aret hC.1 hC.2.1 (hC.2.2.2.2.2.2.1.trans hr) hty (by cases x with | none => exact Or.inl rfl | some a => exact Or.inr ⟨a, rfl⟩) hq hf hd (hlocks := hC.2.2.2.2.2.2.2.1))
/-- Object's constructor -/
theorem ex_oinit (hm : minf (k / 1000000) = (oc, y, b, L, rt, ws, pcs)) (hpc : pcs[i]? = some pc) {idx : Nat} (hd : decode b pc = .ok (.invokespecial idx, 3)) (hn : pcs[i + 1]? = some (pc + 3)) (hl : Cond.methodLink y.cls idx Lib.objectInit ∈ lw_good)
    (H : p1 st (fun o r => nn o (fun _ => gB (Nat.ble (catS r) 8) (EX w l d k (i + 1) r ls h Q)))) : EX w l d k i st ls h Q := by
  unfold p1 at H
  split at H
  · rename_i x r
    cases x with
    | none => exact H.elim
    | some a =>
      obtain ⟨hcat, H⟩ := gB_out H
      have hcat := Nat.le_of_ble_eq_true hcat
      refine ex_pure hm hpc hn H (fun _ _ _ s _ args _ _ _ _ _ _ _ _ lsA hC hR hl2 hrm z => ?_)
      have hts := hC.2.2.2.2.1
      refine W.objInit hC.1 hC.2.1 hC.2.2.2.1 (hts _ hl) (hts _ oi_inst) (hts _ oi_code) rfl (hl2.1.trans hC.2.2.1.symm) rfl hd hrm.2.2.1 ?_ z
      have e := catS_eq r
      show 2 * 0 + ((r.map VA).map fun v => v.category).sum + 12 ≤ _
      rw [e]
      have := hrm.2.2.2
      omega
  · exact H.elim
theorem met_of {K : Nat} {v : Option V} {h h' : AH} {args : List V} (hm : minf (K / 1000000) = (oc, y, b, L, rt, ws, pcs)) (hplain : plainName y.cls = true) (hp0 : pcs[0]? = some 0) (hrs : rs h ≤ 8000000) (hcat : catS args ≤ L) (hM : MR w l d K 0 [] (ent 0 args) h v h') :
    Met l y (.code y b L rt :: lw_good) { frames := d + 1, cells := rc h - rc h', slots := rs h - rs h', locals := 41 * d + 30 } (fun a U => a = (args.map VA).toArray ∧ HR w h U.heap ∧ KW w U) (QC w v h') (rc h - rc h') (rs h - rs h') (fun q => w.2.2.1 ≤ q) := by
  refine Met.ofW (cc := b) (maxL := L) (ret := rt) hplain rfl ?_
  intro p e s m args' below meth c s₁ B hml hv
  obtain ⟨rfl, hH, hKW⟩ := hv
  have hts := atoms_spec (ws := .code y b L rt :: lw_good) B.pre
  have hC : CT w p s m (args.map VA).toArray meth c y b L rt := ⟨B.exec, B.bytes, hml, findClass_of_methodNamed B.named, fun x hx => hts x (List.mem_cons_of_mem _ hx), hKW, B.returns, B.notSynchronized, fun hn => (name_of_methodNamed B.named B.method).1.trans hn⟩
  have hl := lv_entry (args.map VA) (n := L) (by rw [lg_len]; exact hcat)
  rw [lg_entry_eq]
  have h2 := hM p e { frames := d + 1, cells := rc h - rc h', slots := rs h - rs h', locals := 41 * d + 30 } s m _ below meth c oc y b L rt ws pcs 0 s.heap [] 0 0 _ hm hC ⟨hH, by rw [ent_args]; exact hl, ⟨by show 0 + (rc h - rc h') ≤ rc h - rc h'; omega, by show 0 + (rs h - rs h') ≤ rs h - rs h'; omega, hrs⟩, (fun q hq => by cases hq), Nat.le_refl _, Nat.le_refl _⟩ hp0
  rw [Nat.zero_add, Nat.zero_add] at h2
  exact h2
theorem blind_of {h : AH} {args : List V} : FrameBlind (fun a U => a = (args.map VA).toArray ∧ HR w h U.heap ∧ KW w U) := fun a U g mk hq => ⟨hq.1, hq.2.1, KW.same (s := U) (U := U.calling g mk a) rfl hq.2.2⟩
theorem ex_call (hm : minf (k / 1000000) = (oc, y, b, L, rt, ws, pcs)) (hpc : pcs[i]? = some pc) (hn : pcs[i + 1]? = some (pc + 3)) {h1 : AH} {v1 : Option V} {rest : List V} (hr1 : rc h1 ≤ rc h ∧ rs h1 ≤ rs h) (hk : EX w l (d + 1) k (i + 1) (psh v1 rest) ls h1 Q)
    (hrow : ∀ (p : Program) (e : Env) (R : Room) (s : State) (m : MethodId) (args : Array Value) (below : List Frame) (meth : Method) (c : Code) (H : Heap) (locs : List Loc) (cells slots : Nat) (lsA : Array Slot), CT w p s m args meth c y b L rt → HR w h H → lsA.size = L → rs h ≤ 8000000 → (cells + (rc h - rc h1) ≤ R.cells ∧ slots + (rs h - rs h1) ≤ R.slots) → d + 1 + 1 ≤ R.frames → 41 * (d + 1) + 30 ≤ R.locals →
      ∃ A, va_Run p l e R s m args below meth c H locs cells slots (rc h - rc h1) (rs h - rs h1) (F0 m pc lsA (st.map VA)) (rest.map VA) (QC w v1 h1 A) (fun q => w.2.2.1 ≤ q)) : EX w l (d + 1) k i st ls h Q := by
  obtain ⟨v, h', hq, hr, hM⟩ := hk
  refine ⟨v, h', hq, ⟨by omega, by omega⟩, ?_⟩
  intro p e R s m args below meth c oc2 y2 b2 L2 rt2 ws2 pcs2 pc2 H locs cells slots lsA hm2 hC hS hp
  cases hm.symm.trans hm2
  cases hpc.symm.trans hp
  have hS2 := hS
  obtain ⟨z0, zl, ⟨z1, z2, z5⟩, zb, z3, z4⟩ := hS2
  obtain ⟨A, run⟩ := hrow p e R s m args below meth c H locs cells slots lsA hC z0 zl.1 z5 ⟨by omega, by omega⟩ z3 z4
  intro T hT X
  obtain ⟨v2, st₀, t, T', Lo, e0, X', hL, e1, e2, hq2, stp⟩ := run T hT X
  obtain ⟨hv, hH⟩ := hq2
  cases hv
  have hM2 := hM p e R s m args below meth c oc y b L rt ws pcs (pc + 3) T'.heap (locs ++ Lo) (cells + (rc h - rc h1)) (slots + (rs h - rs h1)) lsA hm hC ⟨by rw [e1]; exact hH, zl, ⟨by omega, by omega, by omega⟩, fun q hq => by
    rcases List.mem_append.mp hq with u | u
    · exact zb q u
    · exact hL q u, z3, z4⟩ hn
  rw [show cells + (rc h - rc h1) + (rc h1 - rc h') = cells + (rc h - rc h') by omega, show slots + (rs h - rs h1) + (rs h1 - rs h') = slots + (rs h - rs h') by omega] at hM2
  obtain ⟨t2, a1, b1⟩ := hM2 T' rfl X'
  refine ⟨t2, stp t2 ?_, b1⟩
  cases v1 <;> exact a1
end CL
