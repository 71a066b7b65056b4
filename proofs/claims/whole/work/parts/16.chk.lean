/-! The decoded instruction against the resolved one -/
def tgtOk (pcs : List Nat) (pc : Nat) (off t : Int) : Bool := match pcs[t.toNat]? with
  | some q => decide ((pc : Int) + off = (q : Int))
  | none => false
def flAt (oc idx f : Nat) : Bool := flk.any (fun q => q.1 == oc && q.2.1 == idx && q.2.2.1 == f)
def mlAt (oc idx K : Nat) : Bool := mlk.any (fun q => q.1 == oc && q.2.1 == idx && q.2.2.1 == K)
def nlAt (oc idx f : Nat) : Bool := nlk.any (fun q => q.1 == oc && q.2.1 == idx && q.2.2.1 == f)
def llAt (oc idx : Nat) (v : Int) : Bool := llk.any (fun q => q.1 == oc && q.2.1 == idx && q.2.2.1 == v)
def ilAt (oc idx : Nat) (v : Int) : Bool := ilk.any (fun q => q.1 == oc && q.2.1 == idx && q.2.2.1 == v)
def kkAt (kd K : Nat) : Bool := kks.any (fun q => q.1 == kd && q.2 == K)
def clAt (oc idx c : Nat) : Bool := clk.any (fun q => q.1 == oc && q.2.1 == idx && q.2.2.1 == c)
def slAt (oc idx c : Nat) : Bool := slk.any (fun q => q.1 == oc && q.2.1 == idx && q.2.2.1 == c)
def fsAt (oc idx c : Nat) : Bool := fsk.any (fun q => q.1 == oc && q.2.1 == idx && q.2.2.1 == c)
def gsAt (oc idx c : Nat) : Bool := gsk.any (fun q => q.1 == oc && q.2.1 == idx && q.2.2.1 == c)
def ntAt (oc idx c : Nat) : Bool := ntk.any (fun q => q.1 == oc && q.2.1 == idx && q.2.2.1 == c)
/-- final fields are set in constructors of their own class alone -/
def finOk (y : MethodName) (f : Nat) : Bool := match vwCl[f / 100 % 100]? with
  | some (_, T, _) => !(T (f % 100)).2.2.2 || (decide (y.name = "<init>") && decide ((T (f % 100)).1 = y.cls))
  | none => false
/-- pc, length, does it fall through to the next -/
def chkI (oc : Nat) (y : MethodName) (L : Nat) (rt : Option FieldType) (pcs : List Nat) (pc len : Nat) (nx : Bool) (di ri : ClassFile.Instr) : Bool := match di with
  | .aconst_null => match ri with
    | .aconst_null => decide (len = 1) && nx
    | _ => false
  | .iadd => match ri with
    | .iadd => decide (len = 1) && nx
    | _ => false
  | .isub => match ri with
    | .isub => decide (len = 1) && nx
    | _ => false
  | .imul => match ri with
    | .imul => decide (len = 1) && nx
    | _ => false
  | .idiv => match ri with
    | .idiv => decide (len = 1) && nx
    | _ => false
  | .irem => match ri with
    | .irem => decide (len = 1) && nx
    | _ => false
  | .iand => match ri with
    | .iand => decide (len = 1) && nx
    | _ => false
  | .ior => match ri with
    | .ior => decide (len = 1) && nx
    | _ => false
  | .ishl => match ri with
    | .ishl => decide (len = 1) && nx
    | _ => false
  | .ishr => match ri with
    | .ishr => decide (len = 1) && nx
    | _ => false
  | .iushr => match ri with
    | .iushr => decide (len = 1) && nx
    | _ => false
  | .ladd => match ri with
    | .ladd => decide (len = 1) && nx
    | _ => false
  | .lmul => match ri with
    | .lmul => decide (len = 1) && nx
    | _ => false
  | .land => match ri with
    | .land => decide (len = 1) && nx
    | _ => false
  | .lor => match ri with
    | .lor => decide (len = 1) && nx
    | _ => false
  | .lrem => match ri with
    | .lrem => decide (len = 1) && nx
    | _ => false
  | .lshl => match ri with
    | .lshl => decide (len = 1) && nx
    | _ => false
  | .lushr => match ri with
    | .lushr => decide (len = 1) && nx
    | _ => false
  | .lcmp => match ri with
    | .lcmp => decide (len = 1) && nx
    | _ => false
  | .i2l => match ri with
    | .i2l => decide (len = 1) && nx
    | _ => false
  | .l2i => match ri with
    | .l2i => decide (len = 1) && nx
    | _ => false
  | .i2b => match ri with
    | .i2b => decide (len = 1) && nx
    | _ => false
  | .i2c => match ri with
    | .i2c => decide (len = 1) && nx
    | _ => false
  | .dup => match ri with
    | .dup => decide (len = 1) && nx
    | _ => false
  | .pop => match ri with
    | .pop => decide (len = 1) && nx
    | _ => false
  | .dup_x1 => match ri with
    | .dup_x1 => decide (len = 1) && nx
    | _ => false
  | .dup2 => match ri with
    | .dup2 => decide (len = 1) && nx
    | _ => false
  | .iaload => match ri with
    | .iaload => decide (len = 1) && nx
    | _ => false
  | .baload => match ri with
    | .baload => decide (len = 1) && nx
    | _ => false
  | .laload => match ri with
    | .laload => decide (len = 1) && nx
    | _ => false
  | .iastore => match ri with
    | .iastore => decide (len = 1) && nx
    | _ => false
  | .bastore => match ri with
    | .bastore => decide (len = 1) && nx
    | _ => false
  | .lastore => match ri with
    | .lastore => decide (len = 1) && nx
    | _ => false
  | .arraylength => match ri with
    | .arraylength => decide (len = 1) && nx
    | _ => false
  | .iconst a => match ri with
    | .iconst b => decide (len = 1) && nx && decide (a = b)
    | _ => false
  | .bipush a => match ri with
    | .iconst b => decide (len = 2) && nx && decide ((Int8.ofInt a).toInt32 = Int32.ofInt b)
    | _ => false
  | .sipush a => match ri with
    | .iconst b => decide (len = 3) && nx && decide ((Int16.ofInt a).toInt32 = Int32.ofInt b)
    | _ => false
  | .lconst a => match ri with
    | .goto_w b => decide (len = 1) && nx && decide (Int64.ofNat (a : Nat) = Int64.ofInt b)
    | _ => false
  | .ldc2_w idx => match ri with
    | .goto_w b => decide (len = 3) && nx && llAt oc idx b
    | _ => false
  | .ldc idx => match ri with
    | .iconst b => decide (len = 2) && nx && ilAt oc idx b
    | .jsr_w i => decide (len = 2) && nx && decide (0 ≤ i) && slAt oc idx i.toNat
    | .getstatic v => decide (len = 2) && nx && decide (v = 60) && clAt oc idx 91
    | _ => false
  | .iload_n a => match ri with
    | .iload b => decide (len = 1) && nx && decide ((a : Nat) = b)
    | _ => false
  | .iload a => match ri with
    | .iload b => decide (len = 2) && nx && decide (a = b)
    | _ => false
  | .istore_n a => match ri with
    | .istore b => decide (len = 1) && nx && decide ((a : Nat) = b) && decide (b < L)
    | _ => false
  | .istore a => match ri with
    | .istore b => decide (len = 2) && nx && decide (a = b) && decide (b < L)
    | _ => false
  | .lload_n a => match ri with
    | .lload b => decide (len = 1) && nx && decide ((a : Nat) = b)
    | _ => false
  | .lload a => match ri with
    | .lload b => decide (len = 2) && nx && decide (a = b)
    | _ => false
  | .lstore_n a => match ri with
    | .lstore b => decide (len = 1) && nx && decide ((a : Nat) = b) && decide (b + 1 < L)
    | _ => false
  | .lstore a => match ri with
    | .lstore b => decide (len = 2) && nx && decide (a = b) && decide (b + 1 < L)
    | _ => false
  | .aload_n a => match ri with
    | .aload b => decide (len = 1) && nx && decide ((a : Nat) = b)
    | _ => false
  | .aload a => match ri with
    | .aload b => decide (len = 2) && nx && decide (a = b)
    | _ => false
  | .astore_n a => match ri with
    | .astore b => decide (len = 1) && nx && decide ((a : Nat) = b) && decide (b < L)
    | _ => false
  | .astore a => match ri with
    | .astore b => decide (len = 2) && nx && decide (a = b) && decide (b < L)
    | _ => false
  | .iinc a n => match ri with
    | .iinc b k => decide (len = 3) && nx && decide (a = b) && decide (n = k) && decide (b < L)
    | _ => false
  | .goto off => match ri with
    | .goto t => decide (len = 3) && tgtOk pcs pc off t
    | _ => false
  | .ifCond c off => match ri with
    | .ifCond c2 t => decide (len = 3) && nx && tgtOk pcs pc off t && decide (c = c2)
    | _ => false
  | .if_icmp c off => match ri with
    | .if_icmp c2 t => decide (len = 3) && nx && tgtOk pcs pc off t && decide (c = c2)
    | _ => false
  | .ifnull off => match ri with
    | .ifnull t => decide (len = 3) && nx && tgtOk pcs pc off t
    | _ => false
  | .ifnonnull off => match ri with
    | .ifnonnull t => decide (len = 3) && nx && tgtOk pcs pc off t
    | _ => false
  | .tableswitch d lo hi offs => match ri with
    | .tableswitch d2 lo2 _ ts => decide (lo = lo2) && decide (hi + 1 = lo + ts.size) && decide (ts.size = offs.size) && decide (0 ≤ lo ∧ lo < 1000 ∧ ts.size < 1000) && tgtOk pcs pc d d2 && (List.range ts.size).all (fun j => tgtOk pcs pc (offs.toList.getD j 0) (ts.toList.getD j d2))
    | _ => false
  | .getfield idx => match ri with
    | .getfield f => decide (len = 3) && nx && (flAt oc idx f || fsAt oc idx f)
    | _ => false
  | .putfield idx => match ri with
    | .putfield f => decide (len = 3) && nx && flAt oc idx f && finOk y f
    | _ => false
  | .getstatic idx => match ri with
    | .getstatic v => decide (len = 3) && nx && gsAt oc idx v
    | _ => false
  | .checkcast idx => match ri with
    | .checkcast c => decide (len = 3) && nx && clAt oc idx c && decide (c < 15)
    | _ => false
  | .anewarray idx => match ri with
    | .anewarray _ => decide (len = 3) && nx && clAt oc idx 90
    | _ => false
  | .aaload => match ri with
    | .aaload => decide (len = 1) && nx
    | _ => false
  | .aastore => match ri with
    | .aastore => decide (len = 1) && nx
    | _ => false
  | .if_acmp c off => match ri with
    | .if_acmp c2 t => decide (len = 3) && nx && tgtOk pcs pc off t && decide (c = c2)
    | _ => false
  | .newarray t => match ri with
    | .newarray t2 => decide (len = 2) && nx && decide (t = t2)
    | _ => false
  | .new idx => match ri with
    | .new f => decide (len = 3) && nx && nlAt oc idx f
    | _ => false
  | .invokespecial idx => match ri with
    | .invokespecial K => decide (len = 3) && nx && mlAt oc idx K && (decide (K = 0) || kkAt 1 K)
    | _ => false
  | .invokevirtual idx => match ri with
    | .invokevirtual K => decide (len = 3) && nx && mlAt oc idx K && decide (¬ K = 0) && (kkAt 2 K || kkAt 3 K)
    | .monitorenter => decide (len = 3) && nx && ntAt oc idx 0
    | _ => false
  | .invokestatic idx => match ri with
    | .invokestatic K => decide (len = 3) && nx && mlAt oc idx K && decide (¬ K = 0) && kkAt 0 K
    | .monitorexit => decide (len = 3) && nx && ntAt oc idx 1
    | .ixor => decide (len = 3) && nx && ntAt oc idx 2
    | .lxor => decide (len = 3) && nx && ntAt oc idx 3
    | _ => false
  | .return_ => match ri with
    | .return_ => decide (len = 1) && decide (rt = none)
    | _ => false
  | .ireturn => match ri with
    | .ireturn => decide (len = 1) && decide (rt = some .int)
    | .freturn => decide (len = 1) && decide (rt = some .boolean)
    | .dreturn => decide (len = 1) && decide (rt = some .char)
    | .ret _ => decide (len = 1) && decide (rt = some .byte)
    | _ => false
  | .lreturn => match ri with
    | .lreturn => decide (len = 1) && decide (rt = some .long)
    | _ => false
  | .areturn => match ri with
    | .areturn => decide (len = 1) && (match rt with
      | some (.object _) => true
      | some (.array _) => true
      | _ => false)
    | _ => false
  | _ => false
def isNop : ClassFile.Instr → Bool
  | .nop => true
  | _ => false
/-- one place of a method -/
def chkP (oc : Nat) (y : MethodName) (b : ByteArray) (L : Nat) (rt : Option FieldType) (pcs : List Nat) (pc : Nat) (npc : Option Nat) (ri : ClassFile.Instr) : Bool := isNop ri || (match decode b pc with
  | .ok (di, len) => chkI oc y L rt pcs pc len (decide (npc = some (pc + len))) di ri
  | .error _ => false)
def chkL (oc : Nat) (y : MethodName) (b : ByteArray) (L : Nat) (rt : Option FieldType) (pcs : List Nat) : List Nat → List ClassFile.Instr → Bool
  | pc :: r, ri :: c => chkP oc y b L rt pcs pc r.head? ri && chkL oc y b L rt pcs r c
  | _, [] => true
  | [], _ => false
def chkM (n : Nat) : Bool := match minf n with
  | (oc, y, b, L, rt, _, pcs) => chkL oc y b L rt pcs pcs (codeN n) && decide (pcs.head? = some 0)
