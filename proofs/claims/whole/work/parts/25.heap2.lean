/-! Heap instructions as steps of mine -/
section HS
variable {w : Wd} {l : Launch} {d k i : Nat} {ls : Ls} {st : List V} {h : AH} {Q : Option V → AH → Prop} {oc : Nat} {y : MethodName} {b : ByteArray} {L : Nat} {rt : Option FieldType} {ws pcs : List Nat} {pc : Nat}
theorem ex_get (hm : minf (k / 1000000) = (oc, y, b, L, rt, ws, pcs)) (hpc : pcs[i]? = some pc) {idx f : Nat} {C : String} {T : u_T} {N : Nat} (hF : FL y.cls idx f C T N) (hd : decode b pc = .ok (.getfield idx, 3)) (hn : pcs[i + 1]? = some (pc + 3)) (H : p1 st (fun o r => nn o (fun a => tg h a = f / 100 % 100 + 1 ∧ EX w l d k (i + 1) (getf f a h :: r) ls h Q))) : EX w l d k i st ls h Q := by
  unfold p1 at H
  split at H
  · rename_i x r
    cases x with
    | none => exact H.elim
    | some a => exact ex_pure hm hpc hn H.2 (fun _ _ _ _ _ _ _ _ _ _ _ _ _ _ _ hC hR _ _ z => w_get hC hR hF H.1 hd z)
  · exact H.elim
theorem ex_putf (hm : minf (k / 1000000) = (oc, y, b, L, rt, ws, pcs)) (hpc : pcs[i]? = some pc) {idx f : Nat} {C : String} {T : u_T} {N : Nat} (hF : FL y.cls idx f C T N) (hfi : finOk y f = true) (hd : decode b pc = .ok (.putfield idx, 3)) (hn : pcs[i + 1]? = some (pc + 3)) (H : putf f st h (fun h' r => EX w l d k (i + 1) r ls h' Q)) : EX w l d k i st ls h Q := by
  obtain ⟨hc, hk, hf, hl⟩ := id hF
  obtain ⟨⟨hin, -, -, hrf⟩, hlt⟩ := vw_at hc
  have hN : N ≤ 100 := by
    have : ∀ q ∈ vwCl, q.2.2 ≤ 100 := by decide +kernel
    exact this _ (List.mem_of_getElem? hc)
  have hkd : f / 10000 = kdD (T (f % 100)).2.2.1 := by
    have e := fid_k (ci := f / 100 % 100) (T := T) (k := f % 100) (by omega) (by omega)
    rw [← hf] at e
    exact e
  unfold putf at H
  split at H
  · rename_i x o r e1
    cases o with
    | none => exact H.elim
    | some a =>
      obtain ⟨ht, H⟩ := H
      have hp := put_pic (h := h) (h1 := setFI h f a x) hN hk hf (getf_FIs (Or.inl e1)) same_FI
      have ed : (T (f % 100)).2.2.1 = "I" := kd_I (hkd.symm.trans e1)
      exact ex_put (h1 := setFI h f a x) hm hpc hn rfl rfl H (fun _ _ _ _ _ _ _ _ _ _ _ _ _ _ _ hC hR z => w_put (h1 := setFI h f a x) (ty := .int) hC hR hF hfi ht hd (by rw [ed]; exact pd_I) rfl rfl rfl rfl rfl hp same_FI rfl rfl rfl z)
  · rename_i x o r e1
    cases o with
    | none => exact H.elim
    | some a =>
      obtain ⟨ht, hx, H⟩ := H
      have hp := put_pic (h := h) (h1 := setFI h f a x) hN hk hf (getf_FIs (Or.inr e1)) same_FI
      have ed : (T (f % 100)).2.2.1 = "Z" := kd_Z (hkd.symm.trans e1)
      have hw : narrow .boolean (.int x) = .int x ∧ fits .boolean (.int x) = true := by rcases hx with rfl | rfl <;> decide
      exact ex_put (h1 := setFI h f a x) hm hpc hn rfl rfl H (fun _ _ _ _ _ _ _ _ _ _ _ _ _ _ _ hC hR z => w_put (h1 := setFI h f a x) (ty := .boolean) hC hR hF hfi ht hd (by rw [ed]; exact pd_Z) hw.1 hw.2 rfl rfl rfl hp same_FI rfl rfl rfl z)
  · rename_i x o r e1
    cases o with
    | none => exact H.elim
    | some a =>
      obtain ⟨ht, H⟩ := H
      have hp := put_pic (h := h) (h1 := setFJ h f a x) hN hk hf (getf_FJs e1) same_FJ
      have ed : (T (f % 100)).2.2.1 = "J" := kd_J (hkd.symm.trans e1)
      exact ex_put (h1 := setFJ h f a x) hm hpc hn rfl rfl H (fun _ _ _ _ _ _ _ _ _ _ _ _ _ _ _ hC hR z => w_put (h1 := setFJ h f a x) (ty := .long) hC hR hF hfi ht hd (by rw [ed]; exact pd_J) rfl rfl rfl rfl rfl hp same_FJ rfl rfl rfl z)
  · rename_i x o r e1
    cases o with
    | none => exact H.elim
    | some a =>
      obtain ⟨ht, H⟩ := H
      have hp := put_pic (h := h) (h1 := setFP h f a x) hN hk hf (getf_FPs e1) same_FP
      obtain ⟨ty, hpd, hty⟩ := pd_ref (hrf _ hk (hkd.symm.trans e1))
      have hw : narrow ty (va_rf x) = va_rf x ∧ fits ty (va_rf x) = true := by rcases hty with ⟨_, rfl⟩ | ⟨_, rfl⟩ <;> cases x <;> exact ⟨rfl, rfl⟩
      exact ex_put (h1 := setFP h f a x) hm hpc hn rfl rfl H (fun _ _ _ _ _ _ _ _ _ _ _ _ _ _ _ hC hR z => w_put (h1 := setFP h f a x) (ty := ty) hC hR hF hfi ht hd hpd hw.1 hw.2 rfl rfl rfl hp same_FP rfl rfl rfl z)
  · exact H.elim
theorem at_ar {w : Wd} {s : State} (hK : KW w s) : ArrOfT s (w.2.1 1) .int ∧ ArrOfT s (w.2.1 2) .long ∧ ArrOfT s (w.2.1 3) .byte ∧ ArrOfT s (w.2.1 4) .boolean :=
  ⟨(hK.1.2 0 _ rfl).1, (hK.1.2 1 _ rfl).1, (hK.1.2 2 _ rfl).1, (hK.1.2 3 _ rfl).1⟩
theorem in_sz {cA : ClassId} {n : Nat} {f : Nat → Value} {j : Int32} (h : vp_in j n) : ¬ (j < 0 ∨ (arrV cA n f).slots.size ≤ j.toNatClampNeg) := by rw [arrV_size]; exact h
theorem in_lt {n : Nat} {j : Int32} (h : vp_in j n) : j.toNatClampNeg < n := Nat.not_le.mp fun q => h (Or.inr q)
theorem ex_iaload (hm : minf (k / 1000000) = (oc, y, b, L, rt, ws, pcs)) (hpc : pcs[i]? = some pc) (hd : decode b pc = .ok (.iaload, 1)) (hn : pcs[i + 1]? = some (pc + 1)) (H : pi st (fun o j r => nn o (fun a => (tg h a = 101 ∨ tg h a = 151) ∧ vp_in j (ln h a) ∧ EX w l d k (i + 1) (vi (aI h a j.toNatClampNeg) :: r) ls h Q))) : EX w l d k i st ls h Q := by
  unfold pi at H
  split at H
  · rename_i j x r
    cases x with
    | none => exact H.elim
    | some a =>
      obtain ⟨ht, hj, H⟩ := H
      refine ex_pure hm hpc hn H (fun _ _ _ _ _ _ _ _ _ _ _ _ _ _ _ hC hR _ _ z => ?_)
      rcases ht with ht | ht
      · have hc := ((hR.2.2.2.1 a).2.1 1 (Or.inl rfl) ht).2
        exact W.iald hC.1 hC.2.1 hc ((at_ar hC.2.2.2.2.2.1).1 _ _) (fun h => by cases h) (in_sz hj) (arrV_read _ _ (in_lt hj)) rfl rfl hd z
      · obtain ⟨-, hc, hz, hv⟩ := (hR.2.2.2.1 a).2.2.1 ht
        exact W.iald hC.1 hC.2.1 hc hC.2.2.2.2.2.1.2.2.1.1 hC.2.2.2.2.2.1.2.2.1.2 (by rw [hz]; exact hj) (hv _ (in_lt hj)) rfl rfl hd z
  · exact H.elim
theorem ex_laload (hm : minf (k / 1000000) = (oc, y, b, L, rt, ws, pcs)) (hpc : pcs[i]? = some pc) (hd : decode b pc = .ok (.laload, 1)) (hn : pcs[i + 1]? = some (pc + 1)) (H : pi st (fun o j r => nn o (fun a => tg h a = 102 ∧ vp_in j (ln h a) ∧ EX w l d k (i + 1) (vl (aJ h a j.toNatClampNeg) :: r) ls h Q))) : EX w l d k i st ls h Q := by
  unfold pi at H
  split at H
  · rename_i j x r
    cases x with
    | none => exact H.elim
    | some a =>
      obtain ⟨ht, hj, H⟩ := H
      refine ex_pure hm hpc hn H (fun _ _ _ _ _ _ _ _ _ _ _ _ _ _ _ hC hR _ _ z => ?_)
      have hc := ((hR.2.2.2.1 a).2.1 2 (Or.inr (Or.inl rfl)) ht).2
      exact W.lald hC.1 hC.2.1 hc ((at_ar hC.2.2.2.2.2.1).2.1 _ _) (fun h => by cases h) (in_sz hj) (arrV_read _ _ (in_lt hj)) rfl rfl hd z
  · exact H.elim
theorem ex_baload (hm : minf (k / 1000000) = (oc, y, b, L, rt, ws, pcs)) (hpc : pcs[i]? = some pc) (hd : decode b pc = .ok (.baload, 1)) (hn : pcs[i + 1]? = some (pc + 1)) (H : pi st (fun o j r => nn o (fun a => (tg h a = 103 ∨ tg h a = 104 ∨ fI h 9901 a = 152) ∧ vp_in j (ln h a) ∧ EX w l d k (i + 1) (vi (aI h a j.toNatClampNeg) :: r) ls h Q))) : EX w l d k i st ls h Q := by
  unfold pi at H
  split at H
  · rename_i j x r
    cases x with
    | none => exact H.elim
    | some a =>
      obtain ⟨ht, hj, H⟩ := H
      refine ex_pure hm hpc hn H (fun _ _ _ _ _ _ _ _ _ _ _ _ _ _ _ hC hR _ _ z => ?_)
      rcases ht with ht | ht | ht
      · have hc := ((hR.2.2.2.1 a).2.1 3 (Or.inr (Or.inr (Or.inl rfl))) ht).2
        exact W.bald hC.1 hC.2.1 hc ((at_ar hC.2.2.2.2.2.1).2.2.1 _ _) (fun h => by cases h) (in_sz hj) (arrV_read _ _ (in_lt hj)) rfl rfl hd z
      · have hc := ((hR.2.2.2.1 a).2.1 4 (Or.inr (Or.inr (Or.inr (Or.inl rfl)))) ht).2
        exact W.zald hC.1 hC.2.1 hc ((at_ar hC.2.2.2.2.2.1).2.2.2 _ _) (fun h => by cases h) (in_sz hj) (arrV_read _ _ (in_lt hj)) rfl rfl hd z
      · obtain ⟨i0, e1, e2, e3, e4⟩ := (hR.2.2.2.1 a).2.2.2.2.1 ht
        obtain ⟨cell, c1, c2, c3, c4, -, c6, -⟩ := (hC.2.2.2.2.2.1.2.2.2.1.1 i0 e1).2.2.2
        have hb := (hR.2.2.2.1 a).2.2.2.2.2.2 (Or.inr (Or.inl ht))
        have hlt := in_lt hj
        refine W.bald hC.1 hC.2.1 (cell := cell) (by rw [hR.2.2.1 a hb, e2]; exact c1) c2 c3 (fun z => z.elim (fun z => hj (Or.inl z)) (fun z => by omega)) ?_ rfl rfl hd z
        rw [c6 _ (by omega), e4 _ hlt]; rfl
  · exact H.elim
theorem same_AI {h : AH} {a n : Nat} {x : Int32} : sameA h (setAI h a n x) a := by
  refine ⟨fun b j hb => ?_, fun _ _ _ => rfl, fun _ _ _ => rfl⟩
  show up2 h.2.2.2.1 a n x b j = h.2.2.2.1 b j
  unfold up2
  rw [if_neg (fun z => hb z.1)]
theorem same_AJ {h : AH} {a n : Nat} {x : Int64} : sameA h (setAJ h a n x) a := by
  refine ⟨fun _ _ _ => rfl, fun b j hb => ?_, fun _ _ _ => rfl⟩
  show up2 h.2.2.2.2.1 a n x b j = h.2.2.2.2.1 b j
  unfold up2
  rw [if_neg (fun z => hb z.1)]
theorem same_AP {h : AH} {a n : Nat} {x : Option Nat} : sameA h (setAP h a n x) a := by
  refine ⟨fun _ _ _ => rfl, fun _ _ _ => rfl, fun b j hb => ?_⟩
  show up2 h.2.2.2.2.2.1 a n x b j = h.2.2.2.2.2.1 b j
  unfold up2
  rw [if_neg (fun z => hb z.1)]
theorem pic_AI {h : AH} {a n t : Nat} {x : Int32} (h2 : ¬ t = 2) (h9 : ¬ t = 9) (j : Nat) : updV (arV h t a) n (.int x) j = arV (setAI h a n x) t a j := by
  unfold updV arV
  rw [if_neg h2, if_neg h9, if_neg h2, if_neg h9]
  show _ = Value.int (up2 h.2.2.2.1 a n x a j)
  unfold up2
  by_cases e : j = n
  · rw [if_pos e, if_pos ⟨rfl, e⟩]
  · rw [if_neg e, if_neg (fun z => e z.2)]; rfl
theorem pic_AJ {h : AH} {a n : Nat} {x : Int64} (j : Nat) : updV (arV h 2 a) n (.long x) j = arV (setAJ h a n x) 2 a j := by
  unfold updV arV
  rw [if_pos rfl, if_pos rfl]
  show _ = Value.long (up2 h.2.2.2.2.1 a n x a j)
  unfold up2
  by_cases e : j = n
  · rw [if_pos e, if_pos ⟨rfl, e⟩]
  · rw [if_neg e, if_neg (fun z => e z.2)]; rfl
theorem ex_iastore (hm : minf (k / 1000000) = (oc, y, b, L, rt, ws, pcs)) (hpc : pcs[i]? = some pc) (hd : decode b pc = .ok (.iastore, 1)) (hn : pcs[i + 1]? = some (pc + 1)) (H : i1 st (fun v r => pi r (fun o j r => nn o (fun a => tg h a = 101 ∧ vp_in j (ln h a) ∧ EX w l d k (i + 1) r ls (setAI h a j.toNatClampNeg v) Q)))) : EX w l d k i st ls h Q := by
  unfold i1 at H
  split at H
  · rename_i v r0
    unfold pi at H
    split at H
    · rename_i j x r
      cases x with
      | none => exact H.elim
      | some a =>
        obtain ⟨ht, hj, H⟩ := H
        refine ex_put (h1 := setAI h a j.toNatClampNeg v) hm hpc hn rfl rfl H (fun _ _ _ _ _ _ _ _ _ _ _ _ _ _ _ hC hR z => ?_)
        obtain ⟨hba, hc⟩ := (hR.2.2.2.1 a).2.1 1 (Or.inl rfl) ht
        refine W.iast hC.1 hC.2.1 hc ((at_ar hC.2.2.2.2.2.1).1 _ _) (fun h => by cases h) (in_sz hj) rfl rfl hd (fun H' e1 e2 e3 => z H' a _ ?_ hba)
        rw [arrV_store] at e1
        exact HR_arr hR (Or.inl rfl) ht e1 e2 e3 rfl rfl rfl (pic_AI (by decide) (by decide)) rfl rfl rfl same_AI
    · exact H.elim
  · exact H.elim
theorem ex_lastore (hm : minf (k / 1000000) = (oc, y, b, L, rt, ws, pcs)) (hpc : pcs[i]? = some pc) (hd : decode b pc = .ok (.lastore, 1)) (hn : pcs[i + 1]? = some (pc + 1)) (H : l1 st (fun v r => pi r (fun o j r => nn o (fun a => tg h a = 102 ∧ vp_in j (ln h a) ∧ EX w l d k (i + 1) r ls (setAJ h a j.toNatClampNeg v) Q)))) : EX w l d k i st ls h Q := by
  unfold l1 at H
  split at H
  · rename_i v r0
    unfold pi at H
    split at H
    · rename_i j x r
      cases x with
      | none => exact H.elim
      | some a =>
        obtain ⟨ht, hj, H⟩ := H
        refine ex_put (h1 := setAJ h a j.toNatClampNeg v) hm hpc hn rfl rfl H (fun _ _ _ _ _ _ _ _ _ _ _ _ _ _ _ hC hR z => ?_)
        obtain ⟨hba, hc⟩ := (hR.2.2.2.1 a).2.1 2 (Or.inr (Or.inl rfl)) ht
        refine W.last hC.1 hC.2.1 hc ((at_ar hC.2.2.2.2.2.1).2.1 _ _) (fun h => by cases h) (in_sz hj) rfl rfl hd (fun H' e1 e2 e3 => z H' a _ ?_ hba)
        rw [arrV_store] at e1
        exact HR_arr hR (Or.inr (Or.inl rfl)) ht e1 e2 e3 rfl rfl rfl pic_AJ rfl rfl rfl same_AJ
    · exact H.elim
  · exact H.elim
theorem ex_bastore (hm : minf (k / 1000000) = (oc, y, b, L, rt, ws, pcs)) (hpc : pcs[i]? = some pc) (hd : decode b pc = .ok (.bastore, 1)) (hn : pcs[i + 1]? = some (pc + 1)) (H : i1 st (fun v r => pi r (fun o j r => nn o (fun a => (tg h a = 103 ∧ v.toInt8.toInt32 = v ∨ tg h a = 104 ∧ (v = 0 ∨ v = 1)) ∧ vp_in j (ln h a) ∧ EX w l d k (i + 1) r ls (setAI h a j.toNatClampNeg v) Q)))) : EX w l d k i st ls h Q := by
  unfold i1 at H
  split at H
  · rename_i v r0
    unfold pi at H
    split at H
    · rename_i j x r
      cases x with
      | none => exact H.elim
      | some a =>
        obtain ⟨ht, hj, H⟩ := H
        refine ex_put (h1 := setAI h a j.toNatClampNeg v) hm hpc hn rfl rfl H (fun _ _ _ _ _ _ _ _ _ _ _ _ _ _ _ hC hR z => ?_)
        rcases ht with ⟨ht, hv⟩ | ⟨ht, hv⟩
        · have hs : arS 3 := Or.inr (Or.inr (Or.inl rfl))
          obtain ⟨hba, hc⟩ := (hR.2.2.2.1 a).2.1 3 hs ht
          refine W.bast hC.1 hC.2.1 hc ((at_ar hC.2.2.2.2.2.1).2.2.1 _ _) (fun h => by cases h) (in_sz hj) rfl rfl hd (fun H' e1 e2 e3 => z H' a _ ?_ hba)
          rw [arrV_store, narrow_byte, hv] at e1
          exact HR_arr hR hs ht e1 e2 e3 rfl rfl rfl (pic_AI (by decide) (by decide)) rfl rfl rfl same_AI
        · have hs : arS 4 := Or.inr (Or.inr (Or.inr (Or.inl rfl)))
          have hw : narrow .boolean (.int v) = .int v := by rcases hv with rfl | rfl <;> decide
          obtain ⟨hba, hc⟩ := (hR.2.2.2.1 a).2.1 4 hs ht
          refine W.zast hC.1 hC.2.1 hc ((at_ar hC.2.2.2.2.2.1).2.2.2 _ _) (fun h => by cases h) (in_sz hj) rfl rfl hd (fun H' e1 e2 e3 => z H' a _ ?_ hba)
          rw [arrV_store, hw] at e1
          exact HR_arr hR hs ht e1 e2 e3 rfl rfl rfl (pic_AI (by decide) (by decide)) rfl rfl rfl same_AI
    · exact H.elim
  · exact H.elim
theorem ex_alen (hm : minf (k / 1000000) = (oc, y, b, L, rt, ws, pcs)) (hpc : pcs[i]? = some pc) (hd : decode b pc = .ok (.arraylength, 1)) (hn : pcs[i + 1]? = some (pc + 1)) (H : p1 st (fun o r => nn o (fun a => (tg h a = 151 ∨ fI h 9901 a = 152 ∨ fI h 9901 a = 153 ∨ tg h a = 101 ∨ tg h a = 102 ∨ tg h a = 103 ∨ tg h a = 104 ∨ tg h a = 109) ∧ EX w l d k (i + 1) (vi (Int32.ofNat (ln h a)) :: r) ls h Q))) : EX w l d k i st ls h Q := by
  unfold p1 at H
  split at H
  · rename_i x r
    cases x with
    | none => exact H.elim
    | some a =>
      obtain ⟨ht, H⟩ := H
      refine ex_pure hm hpc hn H (fun _ _ _ s _ _ _ _ _ _ _ _ _ _ _ hC hR _ _ z => ?_)
      have ht2 : tg h a = 151 ∨ fI h 9901 a = 152 ∨ fI h 9901 a = 153 ∨ ∃ t, arS t ∧ tg h a = 100 + t := by
        rcases ht with q | q | q | q | q | q | q | q
        · exact Or.inl q
        · exact Or.inr (Or.inl q)
        · exact Or.inr (Or.inr (Or.inl q))
        · exact Or.inr (Or.inr (Or.inr ⟨1, Or.inl rfl, q⟩))
        · exact Or.inr (Or.inr (Or.inr ⟨2, Or.inr (Or.inl rfl), q⟩))
        · exact Or.inr (Or.inr (Or.inr ⟨3, Or.inr (Or.inr (Or.inl rfl)), q⟩))
        · exact Or.inr (Or.inr (Or.inr ⟨4, Or.inr (Or.inr (Or.inr (Or.inl rfl))), q⟩))
        · exact Or.inr (Or.inr (Or.inr ⟨9, Or.inr (Or.inr (Or.inr (Or.inr rfl))), q⟩))
      rcases ht2 with ht | ht | ht | ⟨t, hs, ht⟩
      · obtain ⟨-, hc, hz, -⟩ := (hR.2.2.2.1 a).2.2.1 ht
        exact W.alen hC.1 hC.2.1 hc hC.2.2.2.2.2.1.2.2.1.1 (by rw [hz]) rfl rfl hd z
      · obtain ⟨i0, e1, e2, e3, e4⟩ := (hR.2.2.2.1 a).2.2.2.2.1 ht
        obtain ⟨cell, c1, c2, c3, c4, c5, c6, -⟩ := (hC.2.2.2.2.2.1.2.2.2.1.1 i0 e1).2.2.2
        have hb := (hR.2.2.2.1 a).2.2.2.2.2.2 (Or.inr (Or.inl ht))
        exact W.alen hC.1 hC.2.1 (cell := cell) (by rw [hR.2.2.1 a hb, e2]; exact c1) c2 (by rw [e3]; exact c5) rfl rfl hd z
      · obtain ⟨e2, e3⟩ := (hR.2.2.2.1 a).2.2.2.2.2.1 ht
        obtain ⟨cell, c1, c2, c3, c4, c5, c6, -⟩ := hC.2.2.2.2.2.1.2.2.2.2.2.2.1
        have hb := (hR.2.2.2.1 a).2.2.2.2.2.2 (Or.inr (Or.inr ht))
        exact W.alen hC.1 hC.2.1 (cell := cell) (by rw [hR.2.2.1 a hb, e2]; exact c1) c2 (by rw [e3]; exact c5) rfl rfl hd z
      · obtain ⟨-, hc⟩ := (hR.2.2.2.1 a).2.1 t hs ht
        have hA : ∃ ty, ArrOfT s (w.2.1 t) ty := by
          have q := hC.2.2.2.2.2.1.1.2
          rcases hs with rfl | rfl | rfl | rfl | rfl
          · exact ⟨_, (q 0 _ rfl).1⟩
          · exact ⟨_, (q 1 _ rfl).1⟩
          · exact ⟨_, (q 2 _ rfl).1⟩
          · exact ⟨_, (q 3 _ rfl).1⟩
          · exact ⟨_, (q 4 _ rfl).1⟩
        obtain ⟨ty, hA⟩ := hA
        exact W.alen hC.1 hC.2.1 hc (hA _ _) (by rw [arrV_size]) rfl rfl hd z
  · exact H.elim
end HS
