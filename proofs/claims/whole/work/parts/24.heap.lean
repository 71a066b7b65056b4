/-! Instructions on the heap -/
theorem oc_all : (List.range 242).all (fun n => n == 0 || decide (ocN[(minf n).1]? = some (minf n).2.1.cls)) = true := by decide +kernel
theorem oc_at {n : Nat} (h1 : 1 ≤ n) (h2 : n ≤ 241) : ocN[(minf n).1]? = some (minf n).2.1.cls := by
  have h := List.all_eq_true.mp oc_all n (by simp; omega)
  simp only [Bool.or_eq_true, beq_iff_eq, decide_eq_true_eq] at h
  rcases h with h | h
  · omega
  · exact h
section HP
variable {p : Program} {l : Launch} {e : Env} {R : Room} {s : State} {m : MethodId} {args : Array Value} {below : List Frame} {meth : Method} {c : Code} {H : Heap} {locs : List Loc} {cells slots : Nat} {Q' : State → Prop} {lsA : Array Slot} {rest : List Value}
variable {w : Wd} {y : MethodName} {b : ByteArray} {L : Nat} {rt : Option FieldType} {pc : Nat} {h h1 : AH} {a f idx : Nat} {C : String} {T : u_T} {N : Nat}
theorem w_get (hC : CT w p s m args meth c y b L rt) (hR : HR w h H) (hF : FL y.cls idx f C T N) (ht : tg h a = f / 100 % 100 + 1) (hd : decode b pc = .ok (.getfield idx, 3))
    (z : W p l e R s m args below meth c H locs cells slots Q' (F0 m (pc + 3) lsA (VA (getf f a h) :: rest))) : W p l e R s m args below meth c H locs cells slots Q' (F0 m pc lsA (.ref a :: rest)) := by
  obtain ⟨hc, hk, hf, hl⟩ := hF
  obtain ⟨⟨hin, -, -, -⟩, hlt⟩ := vw_at hc
  obtain ⟨-, hob⟩ := (hR.2.2.2.1 a).1 _ C T N ht hc
  have hv : ((List.range N).map (objV h (f / 100 % 100) T a))[f % 100]? = some (VA (getf f a h)) := by
    rw [List.getElem?_map, List.getElem?_range hk]
    show some (VA (getf (fid (f / 100 % 100) T (f % 100)) a h)) = _
    rw [← hf]
  have hP : va_P w.1 vwCl [(a, .inr (f / 100 % 100, (List.range N).map (objV h (f / 100 % 100) T a)))] H := by
    intro k q hq
    have hz : k < 1 := (List.getElem?_eq_some_iff.mp hq).1
    rw [show k = 0 by omega] at hq
    cases hq
    refine ⟨_, hc, hob.to (fun j hj => ?_)⟩
    simp [vp_V, hj]
  rcases hl with hl | hl | ⟨hl1, hl2⟩
  · exact va_get hC.1 hC.2.1 hC.2.2.2.2.1 hin hC.2.2.2.1 hC.2.2.2.2.2.1.1 hP 0 rfl hc (f % 100) hk (hC.2.2.2.2.1 _ hl) (fun x hx => hx) hv hd z
  · exact va_getN hC.1 hC.2.1 hC.2.2.2.2.1 hin hC.2.2.2.1 hC.2.2.2.2.2.1.1 hP 0 rfl hc (f % 100) hk (va_Nw.use rfl (hC.2.2.2.2.2.1.2.1.1 _ _ _ _ _ _ hl)) (fun x hx => hx) hv hd z
  · exact va_get hC.1 hC.2.1 hC.2.2.2.2.1 hin hC.2.2.2.1 hC.2.2.2.2.2.1.1 hP 0 rfl hc (f % 100) hk (hC.2.2.2.2.1 _ hl1) (fun x hx => u_same (hC.2.2.2.2.1 _ hl2) x hx) hv hd z
theorem w_put (hC : CT w p s m args meth c y b L rt) (hR : HR w h H) (hF : FL y.cls idx f C T N) (hfi : finOk y f = true) (ht : tg h a = f / 100 % 100 + 1) (hd : decode b pc = .ok (.putfield idx, 3)) {v : Value} {ty : FieldType}
    (hpd : parseFieldDescriptor (T (f % 100)).2.2.1 = some ty) (hnw : narrow ty v = v) (hft : fits ty v = true) (s1 : tg h1 = tg h) (s2 : ln h1 = ln h) (s3 : tp h1 = tp h)
    (s4 : ∀ j, j < N → updV (objV h (f / 100 % 100) T a) (f % 100) v j = objV h1 (f / 100 % 100) T a j) (s5 : sameF h h1 f a) (tI : aI h1 = aI h) (tJ : aJ h1 = aJ h) (tP : aP h1 = aP h)
    (z : ∀ (H1 : Heap) (a sl : Nat), HR w h1 H1 → w.2.2.1 ≤ a → W p l e R s m args below meth c H1 (locs ++ [⟨a, sl⟩]) cells slots Q' (F0 m (pc + 3) lsA rest)) : W p l e R s m args below meth c H locs cells slots Q' (F0 m pc lsA (v :: .ref a :: rest)) := by
  obtain ⟨hc, hk, hf, hl⟩ := hF
  obtain ⟨⟨hin, ⟨ty0, hty⟩, hnm, -⟩, hlt⟩ := vw_at hc
  obtain ⟨hba, hob⟩ := (hR.2.2.2.1 a).1 _ C T N ht hc
  obtain ⟨cell, q1, q2, q3, q4⟩ := id hob
  have hts := hC.2.2.2.2.1
  have hK := hC.2.2.2.2.2.1.1
  have hap := va_apart (own := y.cls) hts hin ty0 hty hnm hK hc
  obtain ⟨hS, hfc, kC, hkC, hkind⟩ := hK.1 _ _ hc
  obtain ⟨cf, kf, fi, fd, hi, hsl⟩ := hS (f % 100) hk
  have hst := (u_facts hfc hkC (u_lays hts hin hk) hi).1
  have h6 := u_fits hfc hkC hkind (u_lays hts hin hk) hi hpd hnw hft
  have hfin : hasFlag fd.accessFlags Acc.final = false ∨ (m.cls = cf ∧ meth.name = "<init>") := by
    have hlay := hts _ (hin _ (u_in_lay hk))
    unfold u_lay at hlay
    unfold finOk at hfi
    rw [hc] at hfi
    simp only [Bool.or_eq_true, Bool.not_eq_true', Bool.and_eq_true, decide_eq_true_eq] at hfi
    by_cases hff : (T (f % 100)).2.2.2 = true
    · rw [if_pos hff] at hlay
      rcases hfi with hfi | ⟨hn1, hn2⟩
      · rw [hff] at hfi; cases hfi
      · refine Or.inr ⟨?_, hC.2.2.2.2.2.2.2.2 hn1⟩
        obtain ⟨_, _, c', _, _, _, -, -, hf', -, -, -, hown2, -⟩ := Cond.laysFinal_spec hlay
        have e1 : c' = cf := by have := hi.symm.trans hf'; simp at this; exact this.1.symm
        rw [hn2] at hown2
        rw [← e1]; exact Option.some.inj (hC.2.2.2.1.symm.trans hown2)
    · rw [if_neg hff] at hlay
      exact Or.inl (u_store hfc hkC hkind hlay hi hpd hnw hft).1
  have hlt2 : fd.slot < cell.slots.size := by rw [hsl]; exact k2_hasslot (q4 _ hk)
  have ha : a < H.size := (Array.getElem?_eq_some_iff.mp q1).1
  have fin : W p l e R s m args below meth c (H.setIfInBounds a (cell.setSlot fd.slot v)) (locs ++ [⟨a, fd.slot⟩]) cells slots Q' (F0 m (pc + 3) lsA rest) := by
    refine z _ a fd.slot ?_ hba
    refine HR_obj hR ht hc hlt rfl (k := f % 100) (v := v) ⟨cell.setSlot fd.slot v, by simp [Array.getElem?_setIfInBounds, ha], by rw [← q2]; rfl, by rw [← q3]; rfl, ?_⟩ (by simp) (fun q hq => by simp [Array.getElem?_setIfInBounds, Ne.symm hq]) s1 s2 s3 s4 s5 tI tJ tP
    rw [hsl]
    exact t_set q4 hap hk v
  rcases hl with hl | hl | ⟨hl1, hl2⟩
  · exact W.putf hC.1 hC.2.1 hC.2.2.2.1 (hts _ hl) hi hst hfin q1 (by rw [q3]; exact fun h => by cases h) hlt2 h6.1 (by rw [q2, q3]; exact h6.2) rfl rfl hd fin
  · exact va_Wputf hC.1 hC.2.1 hC.2.2.2.1 (va_Nw.use rfl (hC.2.2.2.2.2.1.2.1.1 _ _ _ _ _ _ hl)) hi hst hfin q1 (by rw [q3]; exact fun h => by cases h) hlt2 h6.1 (by rw [q2, q3]; exact h6.2) rfl rfl hd fin
  · exact W.putf hC.1 hC.2.1 hC.2.2.2.1 (hts _ hl1) (u_same (hts _ hl2) _ hi) hst hfin q1 (by rw [q3]; exact fun h => by cases h) hlt2 h6.1 (by rw [q2, q3]; exact h6.2) rfl rfl hd fin
end HP
theorem same_FI {h : AH} {f a : Nat} {x : Int32} : sameF h (setFI h f a x) f a := by
  refine ⟨fun g b hn => ?_, fun g b hn => rfl, fun g b hn => rfl⟩
  show up2 h.1 f a x g b = h.1 g b
  unfold up2
  rw [if_neg hn]
theorem same_FJ {h : AH} {f a : Nat} {x : Int64} : sameF h (setFJ h f a x) f a := by
  refine ⟨fun g b hn => rfl, fun g b hn => ?_, fun g b hn => rfl⟩
  show up2 h.2.1 f a x g b = h.2.1 g b
  unfold up2
  rw [if_neg hn]
theorem same_FP {h : AH} {f a : Nat} {x : Option Nat} : sameF h (setFP h f a x) f a := by
  refine ⟨fun g b hn => rfl, fun g b hn => rfl, fun g b hn => ?_⟩
  show up2 h.2.2.1 f a x g b = h.2.2.1 g b
  unfold up2
  rw [if_neg hn]
theorem getf_FIs {h : AH} {f a : Nat} {x : Int32} (hf : f / 10000 = 0 ∨ f / 10000 = 1) : getf f a (setFI h f a x) = vi x := by
  unfold getf
  split
  · omega
  · omega
  · show Sum.inl (up2 h.1 f a x f a) = _
    unfold up2
    rw [if_pos ⟨rfl, rfl⟩]
theorem getf_FJs {h : AH} {f a : Nat} {x : Int64} (hf : f / 10000 = 2) : getf f a (setFJ h f a x) = vl x := by
  unfold getf
  rw [hf]
  show Sum.inr (Sum.inl (up2 h.2.1 f a x f a)) = _
  unfold up2
  rw [if_pos ⟨rfl, rfl⟩]
theorem getf_FPs {h : AH} {f a : Nat} {x : Option Nat} (hf : f / 10000 = 3) : getf f a (setFP h f a x) = vr x := by
  unfold getf
  rw [hf]
  show Sum.inr (Sum.inr (up2 h.2.2.1 f a x f a)) = _
  unfold up2
  rw [if_pos ⟨rfl, rfl⟩]
theorem fid_inj {ci : Nat} {T : u_T} {j k : Nat} (hj : j < 100) (hk : k < 100) (e : fid ci T j = fid ci T k) : j = k := by
  unfold fid at e
  omega
theorem fid_k {ci : Nat} {T : u_T} {k : Nat} (hk : k < 100) (hc : ci < 100) : fid ci T k / 10000 = kdD (T k).2.2.1 := by
  unfold fid
  omega
/-- a put's new picture, by where the field is -/
theorem put_pic {h h1 : AH} {f a ci N : Nat} {T : u_T} {x : V} (hN : N ≤ 100) (hk : f % 100 < N) (hf : f = fid ci T (f % 100)) (hs : getf f a h1 = x) (ho : sameF h h1 f a) : ∀ j, j < N → updV (objV h ci T a) (f % 100) (VA x) j = objV h1 ci T a j := by
  intro j hj
  unfold updV objV
  by_cases e : j = f % 100
  · rw [if_pos e, e, ← hf, hs]
  · rw [if_neg e, sameF_getf ho]
    rintro ⟨z, -⟩
    exact e (fid_inj (by omega) (by omega) (z.trans hf))
