/-! EVERY INSTRUCTION of mine stands for the machine's: those on numbers, locals, branches -/
section INS
variable {w : Wd} {l : Launch} {d k i : Nat} {ls : Ls} {st : List V} {h : AH} {Q : Option V → AH → Prop} {oc : Nat} {y : MethodName} {b : ByteArray} {L : Nat} {rt : Option FieldType} {ws pcs : List Nat} {pc : Nat}
theorem ex_iadd (hm : minf (k / 1000000) = (oc, y, b, L, rt, ws, pcs)) (hpc : pcs[i]? = some pc) (hd : decode b pc = .ok (.iadd, 1)) (hn : pcs[i + 1]? = some (pc + 1)) (H : i2 st (fun x y r => EX w l d k (i + 1) (vi (x + y) :: r) ls h Q)) : EX w l d k i st ls h Q := by
  unfold i2 at H
  split at H
  · exact ex_pure hm hpc hn H (fun _ _ _ _ _ _ _ _ _ _ _ _ _ _ _ hC _ _ _ z => lv_iadd hC.1 hC.2.1 hd z)
  · exact H.elim
theorem ex_isub (hm : minf (k / 1000000) = (oc, y, b, L, rt, ws, pcs)) (hpc : pcs[i]? = some pc) (hd : decode b pc = .ok (.isub, 1)) (hn : pcs[i + 1]? = some (pc + 1)) (H : i2 st (fun x y r => EX w l d k (i + 1) (vi (x - y) :: r) ls h Q)) : EX w l d k i st ls h Q := by
  unfold i2 at H
  split at H
  · exact ex_pure hm hpc hn H (fun _ _ _ _ _ _ _ _ _ _ _ _ _ _ _ hC _ _ _ z => lv_isub hC.1 hC.2.1 hd z)
  · exact H.elim
theorem ex_imul (hm : minf (k / 1000000) = (oc, y, b, L, rt, ws, pcs)) (hpc : pcs[i]? = some pc) (hd : decode b pc = .ok (.imul, 1)) (hn : pcs[i + 1]? = some (pc + 1)) (H : i2 st (fun x y r => EX w l d k (i + 1) (vi (x * y) :: r) ls h Q)) : EX w l d k i st ls h Q := by
  unfold i2 at H
  split at H
  · exact ex_pure hm hpc hn H (fun _ _ _ _ _ _ _ _ _ _ _ _ _ _ _ hC _ _ _ z => lv_imul hC.1 hC.2.1 hd z)
  · exact H.elim
theorem ex_iand (hm : minf (k / 1000000) = (oc, y, b, L, rt, ws, pcs)) (hpc : pcs[i]? = some pc) (hd : decode b pc = .ok (.iand, 1)) (hn : pcs[i + 1]? = some (pc + 1)) (H : i2 st (fun x y r => EX w l d k (i + 1) (vi (x &&& y) :: r) ls h Q)) : EX w l d k i st ls h Q := by
  unfold i2 at H
  split at H
  · exact ex_pure hm hpc hn H (fun _ _ _ _ _ _ _ _ _ _ _ _ _ _ _ hC _ _ _ z => lv_iand hC.1 hC.2.1 hd z)
  · exact H.elim
theorem ex_ior (hm : minf (k / 1000000) = (oc, y, b, L, rt, ws, pcs)) (hpc : pcs[i]? = some pc) (hd : decode b pc = .ok (.ior, 1)) (hn : pcs[i + 1]? = some (pc + 1)) (H : i2 st (fun x y r => EX w l d k (i + 1) (vi (x ||| y) :: r) ls h Q)) : EX w l d k i st ls h Q := by
  unfold i2 at H
  split at H
  · exact ex_pure hm hpc hn H (fun _ _ _ _ _ _ _ _ _ _ _ _ _ _ _ hC _ _ _ z => lv_ior hC.1 hC.2.1 hd z)
  · exact H.elim
theorem ex_ishl (hm : minf (k / 1000000) = (oc, y, b, L, rt, ws, pcs)) (hpc : pcs[i]? = some pc) (hd : decode b pc = .ok (.ishl, 1)) (hn : pcs[i + 1]? = some (pc + 1)) (H : i2 st (fun x y r => EX w l d k (i + 1) (vi (x <<< (y &&& 31)) :: r) ls h Q)) : EX w l d k i st ls h Q := by
  unfold i2 at H
  split at H
  · exact ex_pure hm hpc hn H (fun _ _ _ _ _ _ _ _ _ _ _ _ _ _ _ hC _ _ _ z => lv_ishl hC.1 hC.2.1 hd z)
  · exact H.elim
theorem ex_ishr (hm : minf (k / 1000000) = (oc, y, b, L, rt, ws, pcs)) (hpc : pcs[i]? = some pc) (hd : decode b pc = .ok (.ishr, 1)) (hn : pcs[i + 1]? = some (pc + 1)) (H : i2 st (fun x y r => EX w l d k (i + 1) (vi (x >>> (y &&& 31)) :: r) ls h Q)) : EX w l d k i st ls h Q := by
  unfold i2 at H
  split at H
  · exact ex_pure hm hpc hn H (fun _ _ _ _ _ _ _ _ _ _ _ _ _ _ _ hC _ _ _ z => lv_ishr hC.1 hC.2.1 hd z)
  · exact H.elim
theorem ex_idiv (hm : minf (k / 1000000) = (oc, y, b, L, rt, ws, pcs)) (hpc : pcs[i]? = some pc) (hd : decode b pc = .ok (.idiv, 1)) (hn : pcs[i + 1]? = some (pc + 1)) (H : i2 st (fun x y r => ¬ y = 0 ∧ EX w l d k (i + 1) (vi (x / y) :: r) ls h Q)) : EX w l d k i st ls h Q := by
  unfold i2 at H
  split at H
  · exact ex_pure hm hpc hn H.2 (fun _ _ _ _ _ _ _ _ _ _ _ _ _ _ _ hC _ _ _ z => lv_idiv hC.1 hC.2.1 hd H.1 z)
  · exact H.elim
theorem ex_irem (hm : minf (k / 1000000) = (oc, y, b, L, rt, ws, pcs)) (hpc : pcs[i]? = some pc) (hd : decode b pc = .ok (.irem, 1)) (hn : pcs[i + 1]? = some (pc + 1)) (H : i2 st (fun x y r => ¬ y = 0 ∧ EX w l d k (i + 1) (vi (x - x / y * y) :: r) ls h Q)) : EX w l d k i st ls h Q := by
  unfold i2 at H
  split at H
  · exact ex_pure hm hpc hn H.2 (fun _ _ _ _ _ _ _ _ _ _ _ _ _ _ _ hC _ _ _ z => lv_irem hC.1 hC.2.1 hd H.1 z)
  · exact H.elim
theorem ex_iushr (hm : minf (k / 1000000) = (oc, y, b, L, rt, ws, pcs)) (hpc : pcs[i]? = some pc) (hd : decode b pc = .ok (.iushr, 1)) (hn : pcs[i + 1]? = some (pc + 1)) (H : i2 st (fun x y r => EX w l d k (i + 1) (vi ((x.toUInt32 >>> (y.toUInt32 &&& Int32.toUInt32 31)).toInt32) :: r) ls h Q)) : EX w l d k i st ls h Q := by
  unfold i2 at H
  split at H
  · exact ex_pure hm hpc hn H (fun _ _ _ _ _ _ _ _ _ _ _ _ _ _ _ hC _ _ _ z => lv_iushr hC.1 hC.2.1 hd rfl z)
  · exact H.elim
theorem ex_ladd (hm : minf (k / 1000000) = (oc, y, b, L, rt, ws, pcs)) (hpc : pcs[i]? = some pc) (hd : decode b pc = .ok (.ladd, 1)) (hn : pcs[i + 1]? = some (pc + 1)) (H : l2 st (fun x y r => EX w l d k (i + 1) (vl (x + y) :: r) ls h Q)) : EX w l d k i st ls h Q := by
  unfold l2 at H
  split at H
  · exact ex_pure hm hpc hn H (fun _ _ _ _ _ _ _ _ _ _ _ _ _ _ _ hC _ _ _ z => lv_ladd hC.1 hC.2.1 hd z)
  · exact H.elim
theorem ex_lmul (hm : minf (k / 1000000) = (oc, y, b, L, rt, ws, pcs)) (hpc : pcs[i]? = some pc) (hd : decode b pc = .ok (.lmul, 1)) (hn : pcs[i + 1]? = some (pc + 1)) (H : l2 st (fun x y r => EX w l d k (i + 1) (vl (x * y) :: r) ls h Q)) : EX w l d k i st ls h Q := by
  unfold l2 at H
  split at H
  · exact ex_pure hm hpc hn H (fun _ _ _ _ _ _ _ _ _ _ _ _ _ _ _ hC _ _ _ z => lv_lmul hC.1 hC.2.1 hd z)
  · exact H.elim
theorem ex_land (hm : minf (k / 1000000) = (oc, y, b, L, rt, ws, pcs)) (hpc : pcs[i]? = some pc) (hd : decode b pc = .ok (.land, 1)) (hn : pcs[i + 1]? = some (pc + 1)) (H : l2 st (fun x y r => EX w l d k (i + 1) (vl (x &&& y) :: r) ls h Q)) : EX w l d k i st ls h Q := by
  unfold l2 at H
  split at H
  · exact ex_pure hm hpc hn H (fun _ _ _ _ _ _ _ _ _ _ _ _ _ _ _ hC _ _ _ z => lv_land hC.1 hC.2.1 hd z)
  · exact H.elim
theorem ex_lor (hm : minf (k / 1000000) = (oc, y, b, L, rt, ws, pcs)) (hpc : pcs[i]? = some pc) (hd : decode b pc = .ok (.lor, 1)) (hn : pcs[i + 1]? = some (pc + 1)) (H : l2 st (fun x y r => EX w l d k (i + 1) (vl (x ||| y) :: r) ls h Q)) : EX w l d k i st ls h Q := by
  unfold l2 at H
  split at H
  · exact ex_pure hm hpc hn H (fun _ _ _ _ _ _ _ _ _ _ _ _ _ _ _ hC _ _ _ z => lv_lor hC.1 hC.2.1 hd z)
  · exact H.elim
theorem ex_lrem (hm : minf (k / 1000000) = (oc, y, b, L, rt, ws, pcs)) (hpc : pcs[i]? = some pc) (hd : decode b pc = .ok (.lrem, 1)) (hn : pcs[i + 1]? = some (pc + 1)) (H : l2 st (fun x y r => ¬ y = 0 ∧ EX w l d k (i + 1) (vl (x - x / y * y) :: r) ls h Q)) : EX w l d k i st ls h Q := by
  unfold l2 at H
  split at H
  · exact ex_pure hm hpc hn H.2 (fun _ _ _ _ _ _ _ _ _ _ _ _ _ _ _ hC _ _ _ z => lv_lrem hC.1 hC.2.1 hd H.1 z)
  · exact H.elim
theorem ex_lshl (hm : minf (k / 1000000) = (oc, y, b, L, rt, ws, pcs)) (hpc : pcs[i]? = some pc) (hd : decode b pc = .ok (.lshl, 1)) (hn : pcs[i + 1]? = some (pc + 1)) (H : li st (fun x y r => EX w l d k (i + 1) (vl (x <<< (y.toInt64 &&& 63)) :: r) ls h Q)) : EX w l d k i st ls h Q := by
  unfold li at H
  split at H
  · exact ex_pure hm hpc hn H (fun _ _ _ _ _ _ _ _ _ _ _ _ _ _ _ hC _ _ _ z => lv_lshl hC.1 hC.2.1 hd rfl z)
  · exact H.elim
theorem ex_lushr (hm : minf (k / 1000000) = (oc, y, b, L, rt, ws, pcs)) (hpc : pcs[i]? = some pc) (hd : decode b pc = .ok (.lushr, 1)) (hn : pcs[i + 1]? = some (pc + 1)) (H : li st (fun x y r => EX w l d k (i + 1) (vl ((x.toUInt64 >>> (y.toInt64.toUInt64 &&& Int64.toUInt64 63)).toInt64) :: r) ls h Q)) : EX w l d k i st ls h Q := by
  unfold li at H
  split at H
  · exact ex_pure hm hpc hn H (fun _ _ _ _ _ _ _ _ _ _ _ _ _ _ _ hC _ _ _ z => lv_lushr hC.1 hC.2.1 hd rfl z)
  · exact H.elim
theorem ex_lcmp (hm : minf (k / 1000000) = (oc, y, b, L, rt, ws, pcs)) (hpc : pcs[i]? = some pc) (hd : decode b pc = .ok (.lcmp, 1)) (hn : pcs[i + 1]? = some (pc + 1)) (H : l2 st (fun x y r => EX w l d k (i + 1) (vi (lg_cmp x y) :: r) ls h Q)) : EX w l d k i st ls h Q := by
  unfold l2 at H
  split at H
  · exact ex_pure hm hpc hn H (fun _ _ _ _ _ _ _ _ _ _ _ _ _ _ _ hC _ _ _ z => W.lcmp hC.1 hC.2.1 hd z)
  · exact H.elim
theorem ex_i2l (hm : minf (k / 1000000) = (oc, y, b, L, rt, ws, pcs)) (hpc : pcs[i]? = some pc) (hd : decode b pc = .ok (.i2l, 1)) (hn : pcs[i + 1]? = some (pc + 1)) (H : i1 st (fun x r => EX w l d k (i + 1) (vl x.toInt64 :: r) ls h Q)) : EX w l d k i st ls h Q := by
  unfold i1 at H
  split at H
  · exact ex_pure hm hpc hn H (fun _ _ _ _ _ _ _ _ _ _ _ _ _ _ _ hC _ _ _ z => lv_i2l hC.1 hC.2.1 hd rfl z)
  · exact H.elim
theorem ex_l2i (hm : minf (k / 1000000) = (oc, y, b, L, rt, ws, pcs)) (hpc : pcs[i]? = some pc) (hd : decode b pc = .ok (.l2i, 1)) (hn : pcs[i + 1]? = some (pc + 1)) (H : l1 st (fun x r => EX w l d k (i + 1) (vi x.toInt32 :: r) ls h Q)) : EX w l d k i st ls h Q := by
  unfold l1 at H
  split at H
  · exact ex_pure hm hpc hn H (fun _ _ _ _ _ _ _ _ _ _ _ _ _ _ _ hC _ _ _ z => lv_l2i hC.1 hC.2.1 hd rfl z)
  · exact H.elim
theorem ex_i2b (hm : minf (k / 1000000) = (oc, y, b, L, rt, ws, pcs)) (hpc : pcs[i]? = some pc) (hd : decode b pc = .ok (.i2b, 1)) (hn : pcs[i + 1]? = some (pc + 1)) (H : i1 st (fun x r => EX w l d k (i + 1) (vi x.toInt8.toInt32 :: r) ls h Q)) : EX w l d k i st ls h Q := by
  unfold i1 at H
  split at H
  · exact ex_pure hm hpc hn H (fun _ _ _ _ _ _ _ _ _ _ _ _ _ _ _ hC _ _ _ z => lv_i2b hC.1 hC.2.1 hd rfl z)
  · exact H.elim
theorem ex_i2c (hm : minf (k / 1000000) = (oc, y, b, L, rt, ws, pcs)) (hpc : pcs[i]? = some pc) (hd : decode b pc = .ok (.i2c, 1)) (hn : pcs[i + 1]? = some (pc + 1)) (H : i1 st (fun x r => EX w l d k (i + 1) (vi (x.toUInt32 % 65536).toInt32 :: r) ls h Q)) : EX w l d k i st ls h Q := by
  unfold i1 at H
  split at H
  · exact ex_pure hm hpc hn H (fun _ _ _ _ _ _ _ _ _ _ _ _ _ _ _ hC _ _ _ z => lv_i2c hC.1 hC.2.1 hd rfl z)
  · exact H.elim
theorem ex_iconst (hm : minf (k / 1000000) = (oc, y, b, L, rt, ws, pcs)) (hpc : pcs[i]? = some pc) {n : Int} (hd : decode b pc = .ok (.iconst n, 1)) (hn : pcs[i + 1]? = some (pc + 1)) (H : EX w l d k (i + 1) (vi (Int32.ofInt n) :: st) ls h Q) : EX w l d k i st ls h Q :=
  ex_pure hm hpc hn H (fun _ _ _ _ _ _ _ _ _ _ _ _ _ _ _ hC _ _ _ z => lv_iconst hC.1 hC.2.1 hd rfl z)
theorem ex_bipush (hm : minf (k / 1000000) = (oc, y, b, L, rt, ws, pcs)) (hpc : pcs[i]? = some pc) {n x : Int} (hd : decode b pc = .ok (.bipush n, 2)) (hn : pcs[i + 1]? = some (pc + 2)) (he : (Int8.ofInt n).toInt32 = Int32.ofInt x) (H : EX w l d k (i + 1) (vi (Int32.ofInt x) :: st) ls h Q) : EX w l d k i st ls h Q :=
  ex_pure hm hpc hn H (fun _ _ _ _ _ _ _ _ _ _ _ _ _ _ _ hC _ _ _ z => lv_bipush hC.1 hC.2.1 hd he z)
theorem ex_sipush (hm : minf (k / 1000000) = (oc, y, b, L, rt, ws, pcs)) (hpc : pcs[i]? = some pc) {n x : Int} (hd : decode b pc = .ok (.sipush n, 3)) (hn : pcs[i + 1]? = some (pc + 3)) (he : (Int16.ofInt n).toInt32 = Int32.ofInt x) (H : EX w l d k (i + 1) (vi (Int32.ofInt x) :: st) ls h Q) : EX w l d k i st ls h Q :=
  ex_pure hm hpc hn H (fun _ _ _ _ _ _ _ _ _ _ _ _ _ _ _ hC _ _ _ z => lv_sipush hC.1 hC.2.1 hd he z)
theorem ex_lconst (hm : minf (k / 1000000) = (oc, y, b, L, rt, ws, pcs)) (hpc : pcs[i]? = some pc) {n : Fin 2} {x : Int} (hd : decode b pc = .ok (.lconst n, 1)) (hn : pcs[i + 1]? = some (pc + 1)) (he : Int64.ofNat (n : Nat) = Int64.ofInt x) (H : EX w l d k (i + 1) (vl (Int64.ofInt x) :: st) ls h Q) : EX w l d k i st ls h Q :=
  ex_pure hm hpc hn H (fun _ _ _ _ _ _ _ _ _ _ _ _ _ _ _ hC _ _ _ z => lv_lconst hC.1 hC.2.1 hd he z)
theorem ex_ldc2 (hm : minf (k / 1000000) = (oc, y, b, L, rt, ws, pcs)) (hpc : pcs[i]? = some pc) {n : Nat} {x : Int} (hd : decode b pc = .ok (.ldc2_w n, 3)) (hn : pcs[i + 1]? = some (pc + 3)) (he : Cond.constantLong y.cls n (Int64.ofInt x) ∈ lw_good) (H : EX w l d k (i + 1) (vl (Int64.ofInt x) :: st) ls h Q) : EX w l d k i st ls h Q :=
  ex_pure hm hpc hn H (fun _ _ _ _ _ _ _ _ _ _ _ _ _ _ _ hC _ _ _ z => W.ldc2 hC.1 hC.2.1 hC.2.2.2.1 (hC.2.2.2.2.1 _ he) rfl hd z)
theorem ex_ldc (hm : minf (k / 1000000) = (oc, y, b, L, rt, ws, pcs)) (hpc : pcs[i]? = some pc) {n : Nat} {x : Int} (hd : decode b pc = .ok (.ldc n, 2)) (hn : pcs[i + 1]? = some (pc + 2)) (he : Cond.constant y.cls n (Int32.ofInt x) ∈ lw_good) (H : EX w l d k (i + 1) (vi (Int32.ofInt x) :: st) ls h Q) : EX w l d k i st ls h Q :=
  ex_pure hm hpc hn H (fun _ _ _ _ _ _ _ _ _ _ _ _ _ _ _ hC _ _ _ z => W.ldc hC.1 hC.2.1 hC.2.2.2.1 (hC.2.2.2.2.1 _ he) rfl hd z)
theorem ex_null (hm : minf (k / 1000000) = (oc, y, b, L, rt, ws, pcs)) (hpc : pcs[i]? = some pc) (hd : decode b pc = .ok (.aconst_null, 1)) (hn : pcs[i + 1]? = some (pc + 1)) (H : EX w l d k (i + 1) (vr none :: st) ls h Q) : EX w l d k i st ls h Q :=
  ex_pure hm hpc hn H (fun _ _ _ _ _ _ _ _ _ _ _ _ _ _ _ hC _ _ _ z => lv_null hC.1 hC.2.1 hd z)
theorem ex_iload (hm : minf (k / 1000000) = (oc, y, b, L, rt, ws, pcs)) (hpc : pcs[i]? = some pc) {j : Nat} (hd : decode b pc = .ok (.iload j, 2)) (hn : pcs[i + 1]? = some (pc + 2)) (H : ldI (ld ls j) (fun x => EX w l d k (i + 1) (vi x :: st) ls h Q)) : EX w l d k i st ls h Q := by
  unfold ldI at H
  split at H
  · rename_i e
    exact ex_pure hm hpc hn H (fun _ _ _ _ _ _ _ _ _ _ _ _ _ _ _ hC _ hl _ z => lv_iload hC.1 hC.2.1 hd (ld_at hl e) z)
  · exact H.elim
theorem ex_iload_n (hm : minf (k / 1000000) = (oc, y, b, L, rt, ws, pcs)) (hpc : pcs[i]? = some pc) {a : Fin 4} {j : Nat} (hd : decode b pc = .ok (.iload_n a, 1)) (hn : pcs[i + 1]? = some (pc + 1)) (ha : (a : Nat) = j) (H : ldI (ld ls j) (fun x => EX w l d k (i + 1) (vi x :: st) ls h Q)) : EX w l d k i st ls h Q := by
  unfold ldI at H
  split at H
  · rename_i e
    exact ex_pure hm hpc hn H (fun _ _ _ _ _ _ _ _ _ _ _ _ _ _ _ hC _ hl _ z => lv_iload_n hC.1 hC.2.1 hd ha (ld_at hl e) z)
  · exact H.elim
theorem ex_lload (hm : minf (k / 1000000) = (oc, y, b, L, rt, ws, pcs)) (hpc : pcs[i]? = some pc) {j : Nat} (hd : decode b pc = .ok (.lload j, 2)) (hn : pcs[i + 1]? = some (pc + 2)) (H : ldL (ld ls j) (fun x => EX w l d k (i + 1) (vl x :: st) ls h Q)) : EX w l d k i st ls h Q := by
  unfold ldL at H
  split at H
  · rename_i e
    exact ex_pure hm hpc hn H (fun _ _ _ _ _ _ _ _ _ _ _ _ _ _ _ hC _ hl _ z => lv_lload hC.1 hC.2.1 hd (ld_at hl e) z)
  · exact H.elim
theorem ex_lload_n (hm : minf (k / 1000000) = (oc, y, b, L, rt, ws, pcs)) (hpc : pcs[i]? = some pc) {a : Fin 4} {j : Nat} (hd : decode b pc = .ok (.lload_n a, 1)) (hn : pcs[i + 1]? = some (pc + 1)) (ha : (a : Nat) = j) (H : ldL (ld ls j) (fun x => EX w l d k (i + 1) (vl x :: st) ls h Q)) : EX w l d k i st ls h Q := by
  unfold ldL at H
  split at H
  · rename_i e
    exact ex_pure hm hpc hn H (fun _ _ _ _ _ _ _ _ _ _ _ _ _ _ _ hC _ hl _ z => lv_lload_n hC.1 hC.2.1 hd ha (ld_at hl e) z)
  · exact H.elim
theorem ex_aload (hm : minf (k / 1000000) = (oc, y, b, L, rt, ws, pcs)) (hpc : pcs[i]? = some pc) {j : Nat} (hd : decode b pc = .ok (.aload j, 2)) (hn : pcs[i + 1]? = some (pc + 2)) (H : ldP (ld ls j) (fun x => EX w l d k (i + 1) (vr x :: st) ls h Q)) : EX w l d k i st ls h Q := by
  unfold ldP at H
  split at H
  · rename_i x e
    cases x with
    | none => exact ex_pure hm hpc hn H (fun _ _ _ _ _ _ _ _ _ _ _ _ _ _ _ hC _ hl _ z => lv_aloadN hC.1 hC.2.1 hd (ld_at hl e) z)
    | some x => exact ex_pure hm hpc hn H (fun _ _ _ _ _ _ _ _ _ _ _ _ _ _ _ hC _ hl _ z => lv_aload hC.1 hC.2.1 hd (ld_at hl e) z)
  · exact H.elim
theorem ex_aload_n (hm : minf (k / 1000000) = (oc, y, b, L, rt, ws, pcs)) (hpc : pcs[i]? = some pc) {a : Fin 4} {j : Nat} (hd : decode b pc = .ok (.aload_n a, 1)) (hn : pcs[i + 1]? = some (pc + 1)) (ha : (a : Nat) = j) (H : ldP (ld ls j) (fun x => EX w l d k (i + 1) (vr x :: st) ls h Q)) : EX w l d k i st ls h Q := by
  unfold ldP at H
  split at H
  · rename_i x e
    cases x with
    | none => exact ex_pure hm hpc hn H (fun _ _ _ _ _ _ _ _ _ _ _ _ _ _ _ hC _ hl _ z => lv_aload_nN hC.1 hC.2.1 hd ha (ld_at hl e) z)
    | some x => exact ex_pure hm hpc hn H (fun _ _ _ _ _ _ _ _ _ _ _ _ _ _ _ hC _ hl _ z => lv_aload_n hC.1 hC.2.1 hd ha (ld_at hl e) z)
  · exact H.elim
theorem ex_istore (hm : minf (k / 1000000) = (oc, y, b, L, rt, ws, pcs)) (hpc : pcs[i]? = some pc) {j : Nat} (hd : decode b pc = .ok (.istore j, 2)) (hn : pcs[i + 1]? = some (pc + 2)) (hj : j < L) (H : i1 st (fun x r => EX w l d k (i + 1) r (st1 ls j (vi x)) h Q)) : EX w l d k i st ls h Q := by
  unfold i1 at H
  split at H
  · exact ex_loc hm hpc hn H (fun _ _ _ _ _ _ _ _ _ _ _ _ _ _ _ hC hl z => lv_istore hC.1 hC.2.1 hd hl hj rfl (fun lsB hB => z lsB (has_sub hB (st1_sub _ _ _))))
  · exact H.elim
theorem ex_istore_n (hm : minf (k / 1000000) = (oc, y, b, L, rt, ws, pcs)) (hpc : pcs[i]? = some pc) {a : Fin 4} {j : Nat} (hd : decode b pc = .ok (.istore_n a, 1)) (hn : pcs[i + 1]? = some (pc + 1)) (ha : (a : Nat) = j) (hj : j < L) (H : i1 st (fun x r => EX w l d k (i + 1) r (st1 ls j (vi x)) h Q)) : EX w l d k i st ls h Q := by
  unfold i1 at H
  split at H
  · exact ex_loc hm hpc hn H (fun _ _ _ _ _ _ _ _ _ _ _ _ _ _ _ hC hl z => lv_istore_n hC.1 hC.2.1 hd ha hl hj rfl (fun lsB hB => z lsB (has_sub hB (st1_sub _ _ _))))
  · exact H.elim
theorem ex_lstore (hm : minf (k / 1000000) = (oc, y, b, L, rt, ws, pcs)) (hpc : pcs[i]? = some pc) {j : Nat} (hd : decode b pc = .ok (.lstore j, 2)) (hn : pcs[i + 1]? = some (pc + 2)) (hj : j + 1 < L) (H : l1 st (fun x r => EX w l d k (i + 1) r (st2 ls j (vl x)) h Q)) : EX w l d k i st ls h Q := by
  unfold l1 at H
  split at H
  · exact ex_loc hm hpc hn H (fun _ _ _ _ _ _ _ _ _ _ _ _ _ _ _ hC hl z => lv_lstore hC.1 hC.2.1 hd hl hj rfl (fun lsB hB => z lsB (has_sub hB (st2_sub _ _ _))))
  · exact H.elim
theorem ex_lstore_n (hm : minf (k / 1000000) = (oc, y, b, L, rt, ws, pcs)) (hpc : pcs[i]? = some pc) {a : Fin 4} {j : Nat} (hd : decode b pc = .ok (.lstore_n a, 1)) (hn : pcs[i + 1]? = some (pc + 1)) (ha : (a : Nat) = j) (hj : j + 1 < L) (H : l1 st (fun x r => EX w l d k (i + 1) r (st2 ls j (vl x)) h Q)) : EX w l d k i st ls h Q := by
  unfold l1 at H
  split at H
  · exact ex_loc hm hpc hn H (fun _ _ _ _ _ _ _ _ _ _ _ _ _ _ _ hC hl z => lv_lstore_n hC.1 hC.2.1 hd ha hl hj rfl (fun lsB hB => z lsB (has_sub hB (st2_sub _ _ _))))
  · exact H.elim
theorem ex_astore (hm : minf (k / 1000000) = (oc, y, b, L, rt, ws, pcs)) (hpc : pcs[i]? = some pc) {j : Nat} (hd : decode b pc = .ok (.astore j, 2)) (hn : pcs[i + 1]? = some (pc + 2)) (hj : j < L) (H : p1 st (fun x r => EX w l d k (i + 1) r (st1 ls j (vr x)) h Q)) : EX w l d k i st ls h Q := by
  unfold p1 at H
  split at H
  · rename_i x r
    cases x with
    | none => exact ex_loc hm hpc hn H (fun _ _ _ _ _ _ _ _ _ _ _ _ _ _ _ hC hl z => lv_astoreN hC.1 hC.2.1 hd hl hj rfl (fun lsB hB => z lsB (has_sub hB (st1_sub _ _ _))))
    | some x => exact ex_loc hm hpc hn H (fun _ _ _ _ _ _ _ _ _ _ _ _ _ _ _ hC hl z => lv_astore hC.1 hC.2.1 hd hl hj rfl (fun lsB hB => z lsB (has_sub hB (st1_sub _ _ _))))
  · exact H.elim
theorem ex_astore_n (hm : minf (k / 1000000) = (oc, y, b, L, rt, ws, pcs)) (hpc : pcs[i]? = some pc) {a : Fin 4} {j : Nat} (hd : decode b pc = .ok (.astore_n a, 1)) (hn : pcs[i + 1]? = some (pc + 1)) (ha : (a : Nat) = j) (hj : j < L) (H : p1 st (fun x r => EX w l d k (i + 1) r (st1 ls j (vr x)) h Q)) : EX w l d k i st ls h Q := by
  unfold p1 at H
  split at H
  · rename_i x r
    cases x with
    | none => exact ex_loc hm hpc hn H (fun _ _ _ _ _ _ _ _ _ _ _ _ _ _ _ hC hl z => lv_astore_nN hC.1 hC.2.1 hd ha hl hj rfl (fun lsB hB => z lsB (has_sub hB (st1_sub _ _ _))))
    | some x => exact ex_loc hm hpc hn H (fun _ _ _ _ _ _ _ _ _ _ _ _ _ _ _ hC hl z => lv_astore_n hC.1 hC.2.1 hd ha hl hj rfl (fun lsB hB => z lsB (has_sub hB (st1_sub _ _ _))))
  · exact H.elim
theorem ex_iinc (hm : minf (k / 1000000) = (oc, y, b, L, rt, ws, pcs)) (hpc : pcs[i]? = some pc) {j : Nat} {n : Int} (hd : decode b pc = .ok (.iinc j n, 3)) (hn : pcs[i + 1]? = some (pc + 3)) (hj : j < L) (H : ldI (ld ls j) (fun x => EX w l d k (i + 1) st (st1 ls j (vi (x + Int32.ofInt n))) h Q)) : EX w l d k i st ls h Q := by
  unfold ldI at H
  split at H
  · rename_i x e
    obtain ⟨q, hq⟩ := List.getElem?_of_mem (List.mem_map.mpr ⟨_, ld_mem e, rfl⟩ : (j, VA (vi x)) ∈ VL ls)
    exact ex_loc hm hpc hn H (fun _ _ _ _ _ _ _ _ _ _ _ _ _ _ _ hC hl z => lv_iinc hC.1 hC.2.1 hd hl hq rfl hj rfl (fun lsB hB => z lsB (has_sub hB (st1_sub _ _ _))))
  · exact H.elim
theorem ex_dup (hm : minf (k / 1000000) = (oc, y, b, L, rt, ws, pcs)) (hpc : pcs[i]? = some pc) (hd : decode b pc = .ok (.dup, 1)) (hn : pcs[i + 1]? = some (pc + 1)) {v : V} (hc : vcat v = 1) (H : EX w l d k (i + 1) (v :: v :: st) ls h Q) : EX w l d k i (v :: st) ls h Q :=
  ex_pure hm hpc hn H (fun _ _ _ _ _ _ _ _ _ _ _ _ _ _ _ hC _ _ _ z => lv_dup hC.1 hC.2.1 hd ((vcat_eq v).trans hc) z)
theorem ex_pop (hm : minf (k / 1000000) = (oc, y, b, L, rt, ws, pcs)) (hpc : pcs[i]? = some pc) (hd : decode b pc = .ok (.pop, 1)) (hn : pcs[i + 1]? = some (pc + 1)) {v : V} (hc : vcat v = 1) (H : EX w l d k (i + 1) st ls h Q) : EX w l d k i (v :: st) ls h Q :=
  ex_pure hm hpc hn H (fun _ _ _ _ _ _ _ _ _ _ _ _ _ _ _ hC _ _ _ z => lv_pop hC.1 hC.2.1 hd ((vcat_eq v).trans hc) z)
theorem ex_dup_x1 (hm : minf (k / 1000000) = (oc, y, b, L, rt, ws, pcs)) (hpc : pcs[i]? = some pc) (hd : decode b pc = .ok (.dup_x1, 1)) (hn : pcs[i + 1]? = some (pc + 1)) {v x : V} (hc : vcat v = 1) (hx : vcat x = 1) (H : EX w l d k (i + 1) (v :: x :: v :: st) ls h Q) : EX w l d k i (v :: x :: st) ls h Q :=
  ex_pure hm hpc hn H (fun _ _ _ _ _ _ _ _ _ _ _ _ _ _ _ hC _ _ _ z => lv_dup_x1 hC.1 hC.2.1 hd ((vcat_eq v).trans hc) ((vcat_eq x).trans hx) z)
theorem ex_dup2 (hm : minf (k / 1000000) = (oc, y, b, L, rt, ws, pcs)) (hpc : pcs[i]? = some pc) (hd : decode b pc = .ok (.dup2, 1)) (hn : pcs[i + 1]? = some (pc + 1)) {v x : V} (hc : vcat v = 1) (hx : vcat x = 1) (H : EX w l d k (i + 1) (v :: x :: v :: x :: st) ls h Q) : EX w l d k i (v :: x :: st) ls h Q :=
  ex_pure hm hpc hn H (fun _ _ _ _ _ _ _ _ _ _ _ _ _ _ _ hC _ _ _ z => lv_dup2_11 hC.1 hC.2.1 hd ((vcat_eq v).trans hc) ((vcat_eq x).trans hx) z)
theorem ex_goto (hm : minf (k / 1000000) = (oc, y, b, L, rt, ws, pcs)) (hpc : pcs[i]? = some pc) {off : Int} {t q : Nat} (hd : decode b pc = .ok (.goto off, 3)) (ht : pcs[t]? = some q) (hq : (pc : Int) + off = (q : Int)) (H : EX w l d k t st ls h Q) : EX w l d k i st ls h Q :=
  ex_pure hm hpc ht H (fun _ _ _ _ _ _ _ _ _ _ _ _ _ _ _ hC _ _ _ z => lv_goto hC.1 hC.2.1 hd hq z)
theorem ex_ifnull (hm : minf (k / 1000000) = (oc, y, b, L, rt, ws, pcs)) (hpc : pcs[i]? = some pc) {off : Int} {t q : Nat} (hd : decode b pc = .ok (.ifnull off, 3)) (hn : pcs[i + 1]? = some (pc + 3)) (ht : pcs[t]? = some q) (hq : (pc : Int) + off = (q : Int)) (H : p1 st (fun x r => (x = none → EX w l d k t r ls h Q) ∧ (¬ x = none → EX w l d k (i + 1) r ls h Q))) : EX w l d k i st ls h Q := by
  unfold p1 at H
  split at H
  · rename_i x r
    cases x with
    | none => exact ex_pure hm hpc ht (H.1 rfl) (fun _ _ _ _ _ _ _ _ _ _ _ _ _ _ _ hC _ _ _ z => lv_ifnullN hC.1 hC.2.1 hd hq z)
    | some x => exact ex_pure hm hpc hn (H.2 (fun q => by cases q)) (fun _ _ _ _ _ _ _ _ _ _ _ _ _ _ _ hC _ _ _ z => lv_ifnull hC.1 hC.2.1 hd z)
  · exact H.elim
theorem ex_ifnonnull (hm : minf (k / 1000000) = (oc, y, b, L, rt, ws, pcs)) (hpc : pcs[i]? = some pc) {off : Int} {t q : Nat} (hd : decode b pc = .ok (.ifnonnull off, 3)) (hn : pcs[i + 1]? = some (pc + 3)) (ht : pcs[t]? = some q) (hq : (pc : Int) + off = (q : Int)) (H : p1 st (fun x r => (¬ x = none → EX w l d k t r ls h Q) ∧ (x = none → EX w l d k (i + 1) r ls h Q))) : EX w l d k i st ls h Q := by
  unfold p1 at H
  split at H
  · rename_i x r
    cases x with
    | none => exact ex_pure hm hpc hn (H.2 rfl) (fun _ _ _ _ _ _ _ _ _ _ _ _ _ _ _ hC _ _ _ z => lv_ifnonnullN hC.1 hC.2.1 hd z)
    | some x => exact ex_pure hm hpc ht (H.1 (fun q => by cases q)) (fun _ _ _ _ _ _ _ _ _ _ _ _ _ _ _ hC _ _ _ z => lv_ifnonnull hC.1 hC.2.1 hd hq z)
  · exact H.elim
theorem ex_ifCond (hm : minf (k / 1000000) = (oc, y, b, L, rt, ws, pcs)) (hpc : pcs[i]? = some pc) {c : ClassFile.Cond} {off : Int} {t q : Nat} (hd : decode b pc = .ok (.ifCond c off, 3)) (hn : pcs[i + 1]? = some (pc + 3)) (ht : pcs[t]? = some q) (hq : (pc : Int) + off = (q : Int)) (H : i1 st (fun x r => (icmp c x 0 → EX w l d k t r ls h Q) ∧ (¬ icmp c x 0 → EX w l d k (i + 1) r ls h Q))) : EX w l d k i st ls h Q := by
  unfold i1 at H
  split at H
  · rename_i x r
    cases c <;> simp only [icmp] at H
    · by_cases z0 : x = 0
      · exact ex_pure hm hpc ht (H.1 z0) (fun _ _ _ _ _ _ _ _ _ _ _ _ _ _ _ hC _ _ _ z => lv_if_eq hC.1 hC.2.1 hd hq (fun _ => z) (fun u => absurd z0 u))
      · exact ex_pure hm hpc hn (H.2 z0) (fun _ _ _ _ _ _ _ _ _ _ _ _ _ _ _ hC _ _ _ z => lv_if_eq hC.1 hC.2.1 hd hq (fun u => absurd u z0) (fun _ => z))
    · by_cases z0 : ¬ x = 0
      · exact ex_pure hm hpc ht (H.1 z0) (fun _ _ _ _ _ _ _ _ _ _ _ _ _ _ _ hC _ _ _ z => lv_if_ne hC.1 hC.2.1 hd hq (fun _ => z) (fun u => absurd z0 (fun v => v u)))
      · exact ex_pure hm hpc hn (H.2 z0) (fun _ _ _ _ _ _ _ _ _ _ _ _ _ _ _ hC _ _ _ z => lv_if_ne hC.1 hC.2.1 hd hq (fun u => absurd u z0) (fun _ => z))
    · by_cases z0 : x < 0
      · exact ex_pure hm hpc ht (H.1 z0) (fun _ _ _ _ _ _ _ _ _ _ _ _ _ _ _ hC _ _ _ z => lv_if_lt hC.1 hC.2.1 hd hq (fun _ => z) (fun u => absurd z0 u))
      · exact ex_pure hm hpc hn (H.2 z0) (fun _ _ _ _ _ _ _ _ _ _ _ _ _ _ _ hC _ _ _ z => lv_if_lt hC.1 hC.2.1 hd hq (fun u => absurd u z0) (fun _ => z))
    · by_cases z0 : 0 ≤ x
      · exact ex_pure hm hpc ht (H.1 z0) (fun _ _ _ _ _ _ _ _ _ _ _ _ _ _ _ hC _ _ _ z => lv_if_ge hC.1 hC.2.1 hd hq (fun _ => z) (fun u => absurd z0 u))
      · exact ex_pure hm hpc hn (H.2 z0) (fun _ _ _ _ _ _ _ _ _ _ _ _ _ _ _ hC _ _ _ z => lv_if_ge hC.1 hC.2.1 hd hq (fun u => absurd u z0) (fun _ => z))
    · by_cases z0 : 0 < x
      · exact ex_pure hm hpc ht (H.1 z0) (fun _ _ _ _ _ _ _ _ _ _ _ _ _ _ _ hC _ _ _ z => lv_if_gt hC.1 hC.2.1 hd hq (fun _ => z) (fun u => absurd z0 u))
      · exact ex_pure hm hpc hn (H.2 z0) (fun _ _ _ _ _ _ _ _ _ _ _ _ _ _ _ hC _ _ _ z => lv_if_gt hC.1 hC.2.1 hd hq (fun u => absurd u z0) (fun _ => z))
    · by_cases z0 : x ≤ 0
      · exact ex_pure hm hpc ht (H.1 z0) (fun _ _ _ _ _ _ _ _ _ _ _ _ _ _ _ hC _ _ _ z => lv_if_le hC.1 hC.2.1 hd hq (fun _ => z) (fun u => absurd z0 u))
      · exact ex_pure hm hpc hn (H.2 z0) (fun _ _ _ _ _ _ _ _ _ _ _ _ _ _ _ hC _ _ _ z => lv_if_le hC.1 hC.2.1 hd hq (fun u => absurd u z0) (fun _ => z))
  · exact H.elim
theorem ex_if_icmp (hm : minf (k / 1000000) = (oc, y, b, L, rt, ws, pcs)) (hpc : pcs[i]? = some pc) {c : ClassFile.Cond} {off : Int} {t q : Nat} (hd : decode b pc = .ok (.if_icmp c off, 3)) (hn : pcs[i + 1]? = some (pc + 3)) (ht : pcs[t]? = some q) (hq : (pc : Int) + off = (q : Int)) (H : i2 st (fun x y r => (icmp c x y → EX w l d k t r ls h Q) ∧ (¬ icmp c x y → EX w l d k (i + 1) r ls h Q))) : EX w l d k i st ls h Q := by
  unfold i2 at H
  split at H
  · rename_i y x r
    cases c <;> simp only [icmp] at H
    · by_cases z0 : x = y
      · exact ex_pure hm hpc ht (H.1 z0) (fun _ _ _ _ _ _ _ _ _ _ _ _ _ _ _ hC _ _ _ z => lv_icmp_eq hC.1 hC.2.1 hd hq (fun _ => z) (fun u => absurd z0 u))
      · exact ex_pure hm hpc hn (H.2 z0) (fun _ _ _ _ _ _ _ _ _ _ _ _ _ _ _ hC _ _ _ z => lv_icmp_eq hC.1 hC.2.1 hd hq (fun u => absurd u z0) (fun _ => z))
    · by_cases z0 : ¬ x = y
      · exact ex_pure hm hpc ht (H.1 z0) (fun _ _ _ _ _ _ _ _ _ _ _ _ _ _ _ hC _ _ _ z => lv_icmp_ne hC.1 hC.2.1 hd hq (fun _ => z) (fun u => absurd z0 (fun v => v u)))
      · exact ex_pure hm hpc hn (H.2 z0) (fun _ _ _ _ _ _ _ _ _ _ _ _ _ _ _ hC _ _ _ z => lv_icmp_ne hC.1 hC.2.1 hd hq (fun u => absurd u z0) (fun _ => z))
    · by_cases z0 : x < y
      · exact ex_pure hm hpc ht (H.1 z0) (fun _ _ _ _ _ _ _ _ _ _ _ _ _ _ _ hC _ _ _ z => lv_icmp_lt hC.1 hC.2.1 hd hq (fun _ => z) (fun u => absurd z0 u))
      · exact ex_pure hm hpc hn (H.2 z0) (fun _ _ _ _ _ _ _ _ _ _ _ _ _ _ _ hC _ _ _ z => lv_icmp_lt hC.1 hC.2.1 hd hq (fun u => absurd u z0) (fun _ => z))
    · by_cases z0 : y ≤ x
      · exact ex_pure hm hpc ht (H.1 z0) (fun _ _ _ _ _ _ _ _ _ _ _ _ _ _ _ hC _ _ _ z => lv_icmp_ge hC.1 hC.2.1 hd hq (fun _ => z) (fun u => absurd z0 u))
      · exact ex_pure hm hpc hn (H.2 z0) (fun _ _ _ _ _ _ _ _ _ _ _ _ _ _ _ hC _ _ _ z => lv_icmp_ge hC.1 hC.2.1 hd hq (fun u => absurd u z0) (fun _ => z))
    · by_cases z0 : y < x
      · exact ex_pure hm hpc ht (H.1 z0) (fun _ _ _ _ _ _ _ _ _ _ _ _ _ _ _ hC _ _ _ z => lv_icmp_gt hC.1 hC.2.1 hd hq (fun _ => z) (fun u => absurd z0 u))
      · exact ex_pure hm hpc hn (H.2 z0) (fun _ _ _ _ _ _ _ _ _ _ _ _ _ _ _ hC _ _ _ z => lv_icmp_gt hC.1 hC.2.1 hd hq (fun u => absurd u z0) (fun _ => z))
    · by_cases z0 : x ≤ y
      · exact ex_pure hm hpc ht (H.1 z0) (fun _ _ _ _ _ _ _ _ _ _ _ _ _ _ _ hC _ _ _ z => lv_icmp_le hC.1 hC.2.1 hd hq (fun _ => z) (fun u => absurd z0 u))
      · exact ex_pure hm hpc hn (H.2 z0) (fun _ _ _ _ _ _ _ _ _ _ _ _ _ _ _ hC _ _ _ z => lv_icmp_le hC.1 hC.2.1 hd hq (fun u => absurd u z0) (fun _ => z))
  · exact H.elim
end INS
