/-! THE STEP: whatever the bytes say, my step stands for the machine's; so every run of mine is one of the machine's -/
theorem nw_char {x : Int32} (h0 : 0 ≤ x) (h1 : x < 65536) : narrow .char (.int x) = .int x := by
  obtain ⟨j, hj, rfl⟩ := nI_of (Int32.not_lt.mpr h0)
  have : j < 65536 := by
    have := Int32.lt_iff_toInt_lt.mp h1
    rw [nI_toInt hj] at this
    have h2 : (j : Int) < 65536 := by simpa using this
    omega
  exact (pk_charN this).1
set_option maxHeartbeats 4000000 in
theorem stepOk {w : Wd} {l : Launch} {d k i : Nat} {ls : Ls} {st : List V} {h : AH} {Q : Option V → AH → Prop} {oc : Nat} {y : MethodName} {b : ByteArray} {L : Nat} {rt : Option FieldType} {ws pcs : List Nat} {pc len : Nat} {di ri : ClassFile.Instr}
    (hm : minf (k / 1000000) = (oc, y, b, L, rt, ws, pcs)) (ho : ocN[oc]? = some y.cls) (hpc : pcs[i]? = some pc) (hd : decode b pc = .ok (di, len)) (hc : chkI oc y L rt pcs pc len (decide (pcs[i + 1]? = some (pc + len))) di ri = true)
    (H : stepC ri i st ls h (fun i' st' ls' h' => EX w l d k i' st' ls' h' Q) (fun m args rest => callP (PP w l) d m args h (fun v h' => EX w l d k (i + 1) (psh v rest) ls h' Q)) Q) : EX w l d k i st ls h Q := by
  unfold chkI at hc
  split at hc
  · split at hc
    · simp only [Bool.and_eq_true, Bool.or_eq_true, decide_eq_true_eq] at hc
      obtain ⟨rfl, hn⟩ := hc
      exact ex_null hm hpc hd hn H
    · cases hc
  · split at hc
    · simp only [Bool.and_eq_true, Bool.or_eq_true, decide_eq_true_eq] at hc
      obtain ⟨rfl, hn⟩ := hc
      exact ex_iadd hm hpc hd hn H
    · cases hc
  · split at hc
    · simp only [Bool.and_eq_true, Bool.or_eq_true, decide_eq_true_eq] at hc
      obtain ⟨rfl, hn⟩ := hc
      exact ex_isub hm hpc hd hn H
    · cases hc
  · split at hc
    · simp only [Bool.and_eq_true, Bool.or_eq_true, decide_eq_true_eq] at hc
      obtain ⟨rfl, hn⟩ := hc
      exact ex_imul hm hpc hd hn H
    · cases hc
  · split at hc
    · simp only [Bool.and_eq_true, Bool.or_eq_true, decide_eq_true_eq] at hc
      obtain ⟨rfl, hn⟩ := hc
      exact ex_idiv hm hpc hd hn H
    · cases hc
  · split at hc
    · simp only [Bool.and_eq_true, Bool.or_eq_true, decide_eq_true_eq] at hc
      obtain ⟨rfl, hn⟩ := hc
      exact ex_irem hm hpc hd hn H
    · cases hc
  · split at hc
    · simp only [Bool.and_eq_true, Bool.or_eq_true, decide_eq_true_eq] at hc
      obtain ⟨rfl, hn⟩ := hc
      exact ex_iand hm hpc hd hn H
    · cases hc
  · split at hc
    · simp only [Bool.and_eq_true, Bool.or_eq_true, decide_eq_true_eq] at hc
      obtain ⟨rfl, hn⟩ := hc
      exact ex_ior hm hpc hd hn H
    · cases hc
  · split at hc
    · simp only [Bool.and_eq_true, Bool.or_eq_true, decide_eq_true_eq] at hc
      obtain ⟨rfl, hn⟩ := hc
      exact ex_ishl hm hpc hd hn H
    · cases hc
  · split at hc
    · simp only [Bool.and_eq_true, Bool.or_eq_true, decide_eq_true_eq] at hc
      obtain ⟨rfl, hn⟩ := hc
      exact ex_ishr hm hpc hd hn H
    · cases hc
  · split at hc
    · simp only [Bool.and_eq_true, Bool.or_eq_true, decide_eq_true_eq] at hc
      obtain ⟨rfl, hn⟩ := hc
      exact ex_iushr hm hpc hd hn H
    · cases hc
  · split at hc
    · simp only [Bool.and_eq_true, Bool.or_eq_true, decide_eq_true_eq] at hc
      obtain ⟨rfl, hn⟩ := hc
      exact ex_ladd hm hpc hd hn H
    · cases hc
  · split at hc
    · simp only [Bool.and_eq_true, Bool.or_eq_true, decide_eq_true_eq] at hc
      obtain ⟨rfl, hn⟩ := hc
      exact ex_lmul hm hpc hd hn H
    · cases hc
  · split at hc
    · simp only [Bool.and_eq_true, Bool.or_eq_true, decide_eq_true_eq] at hc
      obtain ⟨rfl, hn⟩ := hc
      exact ex_land hm hpc hd hn H
    · cases hc
  · split at hc
    · simp only [Bool.and_eq_true, Bool.or_eq_true, decide_eq_true_eq] at hc
      obtain ⟨rfl, hn⟩ := hc
      exact ex_lor hm hpc hd hn H
    · cases hc
  · split at hc
    · simp only [Bool.and_eq_true, Bool.or_eq_true, decide_eq_true_eq] at hc
      obtain ⟨rfl, hn⟩ := hc
      exact ex_lrem hm hpc hd hn H
    · cases hc
  · split at hc
    · simp only [Bool.and_eq_true, Bool.or_eq_true, decide_eq_true_eq] at hc
      obtain ⟨rfl, hn⟩ := hc
      exact ex_lshl hm hpc hd hn H
    · cases hc
  · split at hc
    · simp only [Bool.and_eq_true, Bool.or_eq_true, decide_eq_true_eq] at hc
      obtain ⟨rfl, hn⟩ := hc
      exact ex_lushr hm hpc hd hn H
    · cases hc
  · split at hc
    · simp only [Bool.and_eq_true, Bool.or_eq_true, decide_eq_true_eq] at hc
      obtain ⟨rfl, hn⟩ := hc
      exact ex_lcmp hm hpc hd hn H
    · cases hc
  · split at hc
    · simp only [Bool.and_eq_true, Bool.or_eq_true, decide_eq_true_eq] at hc
      obtain ⟨rfl, hn⟩ := hc
      exact ex_i2l hm hpc hd hn H
    · cases hc
  · split at hc
    · simp only [Bool.and_eq_true, Bool.or_eq_true, decide_eq_true_eq] at hc
      obtain ⟨rfl, hn⟩ := hc
      exact ex_l2i hm hpc hd hn H
    · cases hc
  · split at hc
    · simp only [Bool.and_eq_true, Bool.or_eq_true, decide_eq_true_eq] at hc
      obtain ⟨rfl, hn⟩ := hc
      exact ex_i2b hm hpc hd hn H
    · cases hc
  · split at hc
    · simp only [Bool.and_eq_true, Bool.or_eq_true, decide_eq_true_eq] at hc
      obtain ⟨rfl, hn⟩ := hc
      exact ex_i2c hm hpc hd hn H
    · cases hc
  · split at hc
    · simp only [Bool.and_eq_true, Bool.or_eq_true, decide_eq_true_eq] at hc
      obtain ⟨rfl, hn⟩ := hc
      cases st with
      | nil => exact H.elim
      | cons v r =>
        obtain ⟨e1, e2⟩ := gB_out (b := vcat v == 1) H
        exact ex_dup hm hpc hd hn (by simpa using e1) e2
    · cases hc
  · split at hc
    · simp only [Bool.and_eq_true, Bool.or_eq_true, decide_eq_true_eq] at hc
      obtain ⟨rfl, hn⟩ := hc
      cases st with
      | nil => exact H.elim
      | cons v r =>
        obtain ⟨e1, e2⟩ := gB_out (b := vcat v == 1) H
        exact ex_pop hm hpc hd hn (by simpa using e1) e2
    · cases hc
  · split at hc
    · simp only [Bool.and_eq_true, Bool.or_eq_true, decide_eq_true_eq] at hc
      obtain ⟨rfl, hn⟩ := hc
      cases st with
      | nil => exact H.elim
      | cons v r =>
        cases r with
        | nil => exact H.elim
        | cons x r =>
          obtain ⟨e1, e3⟩ := gB_out (b := vcat v == 1 && vcat x == 1) H
          simp only [Bool.and_eq_true, beq_iff_eq] at e1
          exact ex_dup_x1 hm hpc hd hn e1.1 e1.2 e3
    · cases hc
  · split at hc
    · simp only [Bool.and_eq_true, Bool.or_eq_true, decide_eq_true_eq] at hc
      obtain ⟨rfl, hn⟩ := hc
      cases st with
      | nil => exact H.elim
      | cons v r =>
        cases r with
        | nil => exact H.elim
        | cons x r =>
          obtain ⟨e1, e3⟩ := gB_out (b := vcat v == 1 && vcat x == 1) H
          simp only [Bool.and_eq_true, beq_iff_eq] at e1
          exact ex_dup2 hm hpc hd hn e1.1 e1.2 e3
    · cases hc
  · split at hc
    · simp only [Bool.and_eq_true, Bool.or_eq_true, decide_eq_true_eq] at hc
      obtain ⟨rfl, hn⟩ := hc
      exact ex_iaload hm hpc hd hn H
    · cases hc
  · split at hc
    · simp only [Bool.and_eq_true, Bool.or_eq_true, decide_eq_true_eq] at hc
      obtain ⟨rfl, hn⟩ := hc
      exact ex_baload hm hpc hd hn H
    · cases hc
  · split at hc
    · simp only [Bool.and_eq_true, Bool.or_eq_true, decide_eq_true_eq] at hc
      obtain ⟨rfl, hn⟩ := hc
      exact ex_laload hm hpc hd hn H
    · cases hc
  · split at hc
    · simp only [Bool.and_eq_true, Bool.or_eq_true, decide_eq_true_eq] at hc
      obtain ⟨rfl, hn⟩ := hc
      exact ex_iastore hm hpc hd hn H
    · cases hc
  · split at hc
    · simp only [Bool.and_eq_true, Bool.or_eq_true, decide_eq_true_eq] at hc
      obtain ⟨rfl, hn⟩ := hc
      exact ex_bastore hm hpc hd hn H
    · cases hc
  · split at hc
    · simp only [Bool.and_eq_true, Bool.or_eq_true, decide_eq_true_eq] at hc
      obtain ⟨rfl, hn⟩ := hc
      exact ex_lastore hm hpc hd hn H
    · cases hc
  · split at hc
    · simp only [Bool.and_eq_true, Bool.or_eq_true, decide_eq_true_eq] at hc
      obtain ⟨rfl, hn⟩ := hc
      exact ex_alen hm hpc hd hn H
    · cases hc
  · split at hc
    · simp only [Bool.and_eq_true, Bool.or_eq_true, decide_eq_true_eq] at hc
      obtain ⟨⟨rfl, hn⟩, rfl⟩ := hc
      exact ex_iconst hm hpc hd hn H
    · cases hc
  · split at hc
    · simp only [Bool.and_eq_true, Bool.or_eq_true, decide_eq_true_eq] at hc
      obtain ⟨⟨rfl, hn⟩, he⟩ := hc
      exact ex_bipush hm hpc hd hn he H
    · cases hc
  · split at hc
    · simp only [Bool.and_eq_true, Bool.or_eq_true, decide_eq_true_eq] at hc
      obtain ⟨⟨rfl, hn⟩, he⟩ := hc
      exact ex_sipush hm hpc hd hn he H
    · cases hc
  · split at hc
    · simp only [Bool.and_eq_true, Bool.or_eq_true, decide_eq_true_eq] at hc
      obtain ⟨⟨rfl, hn⟩, he⟩ := hc
      exact ex_lconst hm hpc hd hn he H
    · cases hc
  · split at hc
    · simp only [Bool.and_eq_true, Bool.or_eq_true, decide_eq_true_eq] at hc
      obtain ⟨⟨rfl, hn⟩, he⟩ := hc
      exact ex_ldc2 hm hpc hd hn (ll_facts he ho) H
    · cases hc
  · split at hc
    · simp only [Bool.and_eq_true, Bool.or_eq_true, decide_eq_true_eq] at hc
      obtain ⟨⟨rfl, hn⟩, he⟩ := hc
      exact ex_ldc hm hpc hd hn (il_facts he ho) H
    · simp only [Bool.and_eq_true, Bool.or_eq_true, decide_eq_true_eq] at hc
      obtain ⟨⟨⟨rfl, hn⟩, -⟩, he⟩ := hc
      exact ex_str hm hpc ho hd hn he H
    · simp only [Bool.and_eq_true, Bool.or_eq_true, decide_eq_true_eq] at hc
      obtain ⟨⟨⟨rfl, hn⟩, rfl⟩, he⟩ := hc
      exact ex_mir hm hpc ho hd hn he H
    · cases hc
  · split at hc
    · simp only [Bool.and_eq_true, Bool.or_eq_true, decide_eq_true_eq] at hc
      obtain ⟨⟨rfl, hn⟩, he⟩ := hc
      exact ex_iload_n hm hpc hd hn he H
    · cases hc
  · split at hc
    · simp only [Bool.and_eq_true, Bool.or_eq_true, decide_eq_true_eq] at hc
      obtain ⟨⟨rfl, hn⟩, rfl⟩ := hc
      exact ex_iload hm hpc hd hn H
    · cases hc
  · split at hc
    · simp only [Bool.and_eq_true, Bool.or_eq_true, decide_eq_true_eq] at hc
      obtain ⟨⟨⟨rfl, hn⟩, he⟩, hj⟩ := hc
      exact ex_istore_n hm hpc hd hn he hj H
    · cases hc
  · split at hc
    · simp only [Bool.and_eq_true, Bool.or_eq_true, decide_eq_true_eq] at hc
      obtain ⟨⟨⟨rfl, hn⟩, rfl⟩, hj⟩ := hc
      exact ex_istore hm hpc hd hn hj H
    · cases hc
  · split at hc
    · simp only [Bool.and_eq_true, Bool.or_eq_true, decide_eq_true_eq] at hc
      obtain ⟨⟨rfl, hn⟩, he⟩ := hc
      exact ex_lload_n hm hpc hd hn he H
    · cases hc
  · split at hc
    · simp only [Bool.and_eq_true, Bool.or_eq_true, decide_eq_true_eq] at hc
      obtain ⟨⟨rfl, hn⟩, rfl⟩ := hc
      exact ex_lload hm hpc hd hn H
    · cases hc
  · split at hc
    · simp only [Bool.and_eq_true, Bool.or_eq_true, decide_eq_true_eq] at hc
      obtain ⟨⟨⟨rfl, hn⟩, he⟩, hj⟩ := hc
      exact ex_lstore_n hm hpc hd hn he hj H
    · cases hc
  · split at hc
    · simp only [Bool.and_eq_true, Bool.or_eq_true, decide_eq_true_eq] at hc
      obtain ⟨⟨⟨rfl, hn⟩, rfl⟩, hj⟩ := hc
      exact ex_lstore hm hpc hd hn hj H
    · cases hc
  · split at hc
    · simp only [Bool.and_eq_true, Bool.or_eq_true, decide_eq_true_eq] at hc
      obtain ⟨⟨rfl, hn⟩, he⟩ := hc
      exact ex_aload_n hm hpc hd hn he H
    · cases hc
  · split at hc
    · simp only [Bool.and_eq_true, Bool.or_eq_true, decide_eq_true_eq] at hc
      obtain ⟨⟨rfl, hn⟩, rfl⟩ := hc
      exact ex_aload hm hpc hd hn H
    · cases hc
  · split at hc
    · simp only [Bool.and_eq_true, Bool.or_eq_true, decide_eq_true_eq] at hc
      obtain ⟨⟨⟨rfl, hn⟩, he⟩, hj⟩ := hc
      exact ex_astore_n hm hpc hd hn he hj H
    · cases hc
  · split at hc
    · simp only [Bool.and_eq_true, Bool.or_eq_true, decide_eq_true_eq] at hc
      obtain ⟨⟨⟨rfl, hn⟩, rfl⟩, hj⟩ := hc
      exact ex_astore hm hpc hd hn hj H
    · cases hc
  · split at hc
    · simp only [Bool.and_eq_true, Bool.or_eq_true, decide_eq_true_eq] at hc
      obtain ⟨⟨⟨⟨rfl, hn⟩, rfl⟩, rfl⟩, hj⟩ := hc
      exact ex_iinc hm hpc hd hn hj H
    · cases hc
  · split at hc
    · simp only [Bool.and_eq_true, Bool.or_eq_true, decide_eq_true_eq] at hc
      obtain ⟨rfl, ht⟩ := hc
      obtain ⟨q, hq, hq2⟩ := tgt_of ht
      exact ex_goto hm hpc hd hq hq2 H
    · cases hc
  · split at hc
    · simp only [Bool.and_eq_true, Bool.or_eq_true, decide_eq_true_eq] at hc
      obtain ⟨⟨⟨rfl, hn⟩, ht⟩, rfl⟩ := hc
      obtain ⟨q, hq, hq2⟩ := tgt_of ht
      exact ex_ifCond hm hpc hd hn hq hq2 H
    · cases hc
  · split at hc
    · simp only [Bool.and_eq_true, Bool.or_eq_true, decide_eq_true_eq] at hc
      obtain ⟨⟨⟨rfl, hn⟩, ht⟩, rfl⟩ := hc
      obtain ⟨q, hq, hq2⟩ := tgt_of ht
      exact ex_if_icmp hm hpc hd hn hq hq2 H
    · cases hc
  · split at hc
    · simp only [Bool.and_eq_true, Bool.or_eq_true, decide_eq_true_eq] at hc
      obtain ⟨⟨rfl, hn⟩, ht⟩ := hc
      obtain ⟨q, hq, hq2⟩ := tgt_of ht
      exact ex_ifnull hm hpc hd hn hq hq2 H
    · cases hc
  · split at hc
    · simp only [Bool.and_eq_true, Bool.or_eq_true, decide_eq_true_eq] at hc
      obtain ⟨⟨rfl, hn⟩, ht⟩ := hc
      obtain ⟨q, hq, hq2⟩ := tgt_of ht
      exact ex_ifnonnull hm hpc hd hn hq hq2 H
    · cases hc
  · split at hc
    · simp only [Bool.and_eq_true, decide_eq_true_eq] at hc
      obtain ⟨⟨⟨⟨⟨rfl, e1⟩, e2⟩, e3⟩, e4⟩, e5⟩ := hc
      exact ex_table hm hpc hd e1 e2 e3 e4 e5 H
    · cases hc
  · split at hc
    · simp only [Bool.and_eq_true, Bool.or_eq_true, decide_eq_true_eq] at hc
      obtain ⟨⟨rfl, hn⟩, he⟩ := hc
      rcases he with he | he
      · obtain ⟨C, T, N, hF⟩ := fl_facts he ho
        exact ex_get hm hpc hF hd hn H
      · exact ex_getS hm hpc ho he hd hn H
    · cases hc
  · split at hc
    · simp only [Bool.and_eq_true, Bool.or_eq_true, decide_eq_true_eq] at hc
      obtain ⟨⟨⟨rfl, hn⟩, he⟩, hf⟩ := hc
      obtain ⟨C, T, N, hF⟩ := fl_facts he ho
      exact ex_putf hm hpc hF hf hd hn H
    · cases hc
  · split at hc
    · simp only [Bool.and_eq_true, Bool.or_eq_true, decide_eq_true_eq] at hc
      obtain ⟨⟨rfl, hn⟩, he⟩ := hc
      exact ex_gets hm hpc ho hd hn he H
    · cases hc
  · split at hc
    · simp only [Bool.and_eq_true, Bool.or_eq_true, decide_eq_true_eq] at hc
      obtain ⟨⟨⟨rfl, hn⟩, he⟩, h15⟩ := hc
      exact ex_cast hm hpc ho he h15 hd hn H
    · cases hc
  · split at hc
    · simp only [Bool.and_eq_true, Bool.or_eq_true, decide_eq_true_eq] at hc
      obtain ⟨⟨rfl, hn⟩, he⟩ := hc
      exact ex_anew hm hpc ho he hd hn H
    · cases hc
  · split at hc
    · simp only [Bool.and_eq_true, Bool.or_eq_true, decide_eq_true_eq] at hc
      obtain ⟨rfl, hn⟩ := hc
      exact ex_aaload hm hpc hd hn H
    · cases hc
  · split at hc
    · simp only [Bool.and_eq_true, Bool.or_eq_true, decide_eq_true_eq] at hc
      obtain ⟨rfl, hn⟩ := hc
      exact ex_aastore hm hpc hd hn H
    · cases hc
  · split at hc
    · simp only [Bool.and_eq_true, Bool.or_eq_true, decide_eq_true_eq] at hc
      obtain ⟨⟨⟨rfl, hn⟩, ht⟩, rfl⟩ := hc
      obtain ⟨q, hq, hq2⟩ := tgt_of ht
      exact ex_acmp hm hpc hd hn hq hq2 H
    · cases hc
  · split at hc
    · simp only [Bool.and_eq_true, Bool.or_eq_true, decide_eq_true_eq] at hc
      obtain ⟨⟨rfl, hn⟩, rfl⟩ := hc
      exact ex_newa hm hpc hd hn H
    · cases hc
  · split at hc
    · simp only [Bool.and_eq_true, Bool.or_eq_true, decide_eq_true_eq] at hc
      obtain ⟨⟨rfl, hn⟩, he⟩ := hc
      obtain ⟨C, T, N, hv, rfl, e1, e2, e3⟩ := nl_facts he ho
      obtain ⟨g1, g2, g3⟩ : 0 < rc h ∧ _ ∧ _ := H
      exact ex_newo hm hpc hv e1 e2 e3 hd hn g1 g2 g3
    · cases hc
  · split at hc
    · simp only [Bool.and_eq_true, Bool.or_eq_true, decide_eq_true_eq] at hc
      obtain ⟨⟨⟨rfl, hn⟩, he⟩, hk⟩ := hc
      rename_i K
      by_cases h0 : K = 0
      · subst h0
        exact ex_oinit hm hpc hd hn ((ml_facts he ho).1 rfl) H
      · have hk := hk.resolve_left h0
        have H2 : gB (Nat.ble (K / 100 % 100) st.length && Nat.ble (catS (st.drop (K / 100 % 100))) 8) (callP (PP w l) d K (st.take (K / 100 % 100)).reverse h (fun v h' => EX w l d k (i + 1) (psh v (st.drop (K / 100 % 100))) ls h' Q)) := by
          cases K with
          | zero => exact absurd rfl h0
          | succ K => exact H
        obtain ⟨g0, g3⟩ := gB_out H2
        simp only [Bool.and_eq_true] at g0
        exact ex_callI hm hpc hd hn hk ((ml_facts he ho).2 h0) (Nat.le_of_ble_eq_true g0.1) (Nat.le_of_ble_eq_true g0.2) g3
    · cases hc
  · split at hc
    · simp only [Bool.and_eq_true, Bool.or_eq_true, decide_eq_true_eq] at hc
      obtain ⟨⟨⟨⟨rfl, hn⟩, he⟩, h0⟩, hk⟩ := hc
      rename_i K
      obtain ⟨g0, g3⟩ := gB_out (b := Nat.ble (K / 100 % 100) st.length && Nat.ble (catS (st.drop (K / 100 % 100))) 8) H
      simp only [Bool.and_eq_true] at g0
      have g1 := Nat.le_of_ble_eq_true g0.1
      have g2 := Nat.le_of_ble_eq_true g0.2
      rcases hk with hk | hk
      · exact ex_callV hm hpc hd hn hk ((ml_facts he ho).2 h0) g1 g2 g3
      · exact ex_callT hm hpc hd hn hk ((ml_facts he ho).2 h0) g1 g2 g3
    · simp only [Bool.and_eq_true, Bool.or_eq_true, decide_eq_true_eq] at hc
      obtain ⟨⟨rfl, hn⟩, he⟩ := hc
      exact ex_gc hm hpc ho he hd hn H
    · cases hc
  · split at hc
    · simp only [Bool.and_eq_true, Bool.or_eq_true, decide_eq_true_eq] at hc
      obtain ⟨⟨⟨⟨rfl, hn⟩, he⟩, h0⟩, hk⟩ := hc
      rename_i K
      obtain ⟨g0, g3⟩ := gB_out (b := Nat.ble (K / 100 % 100) st.length && Nat.ble (catS (st.drop (K / 100 % 100))) 8) H
      simp only [Bool.and_eq_true] at g0
      have g1 := Nat.le_of_ble_eq_true g0.1
      have g2 := Nat.le_of_ble_eq_true g0.2
      exact ex_callS hm hpc hd hn hk ((ml_facts he ho).2 h0) g1 g2 g3
    · simp only [Bool.and_eq_true, Bool.or_eq_true, decide_eq_true_eq] at hc
      obtain ⟨⟨rfl, hn⟩, he⟩ := hc
      simp only [stepC] at H
      split at H
      · rename_i n dp bb sp aa r
        cases aa with
        | none => exact H.elim
        | some a =>
          cases bb with
          | none => exact H.elim
          | some c =>
            obtain ⟨g1, g2, g3, ⟨g4, g5⟩, g6⟩ := H
            exact ex_copy hm hpc ho he hd hn g1 g2 g3 (Nat.le_of_ble_eq_true g4) g5 g6
      · exact H.elim
    · simp only [Bool.and_eq_true, Bool.or_eq_true, decide_eq_true_eq] at hc
      obtain ⟨⟨rfl, hn⟩, he⟩ := hc
      exact ex_max hm hpc ho he hd hn H
    · simp only [Bool.and_eq_true, Bool.or_eq_true, decide_eq_true_eq] at hc
      obtain ⟨⟨rfl, hn⟩, he⟩ := hc
      exact ex_min hm hpc ho he hd hn H
    · cases hc
  · split at hc
    · simp only [Bool.and_eq_true, Bool.or_eq_true, decide_eq_true_eq] at hc
      obtain ⟨rfl, hr⟩ := hc
      cases st with
      | nil => exact ex_vret hm hpc hd hr H
      | cons v r => exact H.elim
    · cases hc
  · split at hc
    · simp only [Bool.and_eq_true, Bool.or_eq_true, decide_eq_true_eq] at hc
      obtain ⟨rfl, hr⟩ := hc
      simp only [stepC] at H
      split at H
      · rename_i x
        exact ex_iret hm hpc hd hr rfl H
      · exact H.elim
    · simp only [Bool.and_eq_true, Bool.or_eq_true, decide_eq_true_eq] at hc
      obtain ⟨rfl, hr⟩ := hc
      simp only [stepC] at H
      split at H
      · rename_i x
        obtain ⟨g1, g2⟩ := H
        exact ex_iret hm hpc hd hr (by rcases g1 with rfl | rfl <;> decide) g2
      · exact H.elim
    · simp only [Bool.and_eq_true, Bool.or_eq_true, decide_eq_true_eq] at hc
      obtain ⟨rfl, hr⟩ := hc
      simp only [stepC] at H
      split at H
      · rename_i x
        obtain ⟨g1, g2⟩ := H
        exact ex_iret hm hpc hd hr (nw_char g1.1 g1.2) g2
      · exact H.elim
    · simp only [Bool.and_eq_true, Bool.or_eq_true, decide_eq_true_eq] at hc
      obtain ⟨rfl, hr⟩ := hc
      simp only [stepC] at H
      split at H
      · rename_i x
        obtain ⟨g1, g2⟩ := H
        exact ex_iret hm hpc hd hr (by rw [narrow_byte, g1]) g2
      · exact H.elim
    · cases hc
  · split at hc
    · simp only [Bool.and_eq_true, Bool.or_eq_true, decide_eq_true_eq] at hc
      obtain ⟨rfl, hr⟩ := hc
      simp only [stepC] at H
      split at H
      · exact ex_lret hm hpc hd hr H
      · exact H.elim
    · cases hc
  · split at hc
    · simp only [Bool.and_eq_true, Bool.or_eq_true, decide_eq_true_eq] at hc
      obtain ⟨rfl, hr⟩ := hc
      simp only [stepC] at H
      split at H
      · split at hr
        · exact ex_aret hm hpc hd rfl (Or.inl ⟨_, rfl⟩) H
        · exact ex_aret hm hpc hd rfl (Or.inr ⟨_, rfl⟩) H
        · cases hr
      · exact H.elim
    · cases hc
  · cases hc
theorem PP_clsd {w : Wd} {l : Launch} : Clsd (PP w l) := by
  intro d k i st ls h Q H ok
  unfold wpStep at H
  cases hcode : (codeOf k)[i]? with
  | none => rw [hcode] at H; exact H.elim
  | some ri =>
    rw [hcode] at H
    obtain ⟨oc, y, b, L, rt, ws, pcs, hm⟩ : ∃ oc y b L rt ws pcs, minf (k / 1000000) = (oc, y, b, L, rt, ws, pcs) := ⟨_, _, _, _, _, _, _, rfl⟩
    have hck := chk_all _ ok.1 ok.2
    unfold chkM at hck
    rw [hm] at hck
    simp only [Bool.and_eq_true] at hck
    obtain ⟨pc, hpc, hP⟩ := chkL_at _ _ _ _ hck.1 hcode
    have ho : ocN[oc]? = some y.cls := by
      have := oc_at ok.1 ok.2
      rw [hm] at this
      exact this
    change stepC ri i st ls h (fun i' st' ls' h' => PP w l d k i' st' ls' h' Q) (fun m args rest => callP (PP w l) d m args h (fun v h' => PP w l d k (i + 1) (psh v rest) ls h' Q)) Q at H
    have H2 : stepC ri i st ls h (fun i' st' ls' h' => EX w l d k i' st' ls' h' Q) (fun m args rest => callP (PP w l) d m args h (fun v h' => EX w l d k (i + 1) (psh v rest) ls h' Q)) Q :=
      stepC_mono (fun _ _ _ _ z => z ok) (fun _ _ _ z => callP_mono PP_mono (fun _ _ _ _ _ _ _ z => z) (fun _ _ z => z ok) z) (fun _ _ z => z) H
    unfold chkP at hP
    cases hno : isNop ri with
    | true =>
      exfalso
      unfold isNop at hno
      split at hno
      · exact H2
      · cases hno
    | false =>
      rw [hno, Bool.false_or] at hP
      split at hP
      · rename_i di len hd
        exact stepOk hm ho hpc hd hP H2
      · cases hP
/-- SOUNDNESS: a run of mine is a run of the machine -/
theorem sound {w : Wd} {l : Launch} {d k i : Nat} {st : List V} {ls : Ls} {h : AH} {Q : Option V → AH → Prop} (H : wp d k i st ls h Q) (ok : 1 ≤ k / 1000000 ∧ k / 1000000 ≤ 241) : EX w l d k i st ls h Q := H (PP w l) PP_mono PP_clsd ok
