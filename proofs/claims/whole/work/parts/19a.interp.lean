/-! MY INTERPRETER: values, heaps, one step, runs as the least predicate. Nothing of the machine here. -/
abbrev V : Type := Int32 ⊕ Int64 ⊕ Option Nat
abbrev Ls : Type := List (Nat × V)
abbrev AH : Type := (Nat → Nat → Int32) × (Nat → Nat → Int64) × (Nat → Nat → Option Nat) × (Nat → Nat → Int32) × (Nat → Nat → Int64) × (Nat → Nat → Option Nat) × (Nat → Nat) × (Nat → Nat) × Nat × Nat × Nat
abbrev vi (x : Int32) : V := .inl x
abbrev vl (x : Int64) : V := .inr (.inl x)
abbrev vr (x : Option Nat) : V := .inr (.inr x)
def fI (h : AH) (f a : Nat) : Int32 := h.1 f a
def fJ (h : AH) (f a : Nat) : Int64 := h.2.1 f a
def fP (h : AH) (f a : Nat) : Option Nat := h.2.2.1 f a
def aI (h : AH) (a i : Nat) : Int32 := h.2.2.2.1 a i
def aJ (h : AH) (a i : Nat) : Int64 := h.2.2.2.2.1 a i
def aP (h : AH) (a i : Nat) : Option Nat := h.2.2.2.2.2.1 a i
def tg (h : AH) (a : Nat) : Nat := h.2.2.2.2.2.2.1 a
def ln (h : AH) (a : Nat) : Nat := h.2.2.2.2.2.2.2.1 a
def tp (h : AH) : Nat := h.2.2.2.2.2.2.2.2.1
def rc (h : AH) : Nat := h.2.2.2.2.2.2.2.2.2.1
def rs (h : AH) : Nat := h.2.2.2.2.2.2.2.2.2.2
def up2 {α : Type} (g : Nat → Nat → α) (f a : Nat) (v : α) : Nat → Nat → α := fun f' a' => if f' = f ∧ a' = a then v else g f' a'
def up1 {α : Type} (g : Nat → α) (a : Nat) (v : α) : Nat → α := fun a' => if a' = a then v else g a'
def setFI (h : AH) (f a : Nat) (v : Int32) : AH := (up2 h.1 f a v, h.2)
def setFJ (h : AH) (f a : Nat) (v : Int64) : AH := (h.1, up2 h.2.1 f a v, h.2.2)
def setFP (h : AH) (f a : Nat) (v : Option Nat) : AH := (h.1, h.2.1, up2 h.2.2.1 f a v, h.2.2.2)
def setAI (h : AH) (a i : Nat) (v : Int32) : AH := (h.1, h.2.1, h.2.2.1, up2 h.2.2.2.1 a i v, h.2.2.2.2)
def setAJ (h : AH) (a i : Nat) (v : Int64) : AH := (h.1, h.2.1, h.2.2.1, h.2.2.2.1, up2 h.2.2.2.2.1 a i v, h.2.2.2.2.2)
def setAP (h : AH) (a i : Nat) (v : Option Nat) : AH := (h.1, h.2.1, h.2.2.1, h.2.2.2.1, h.2.2.2.2.1, up2 h.2.2.2.2.2.1 a i v, h.2.2.2.2.2.2)
/-- a new object of kind c with n fields -/
def newO (h : AH) (c n : Nat) : AH := (fun f a => if a = tp h ∧ f / 100 % 100 = c then 0 else fI h f a, fun f a => if a = tp h ∧ f / 100 % 100 = c then 0 else fJ h f a, fun f a => if a = tp h ∧ f / 100 % 100 = c then none else fP h f a, aI h, aJ h, aP h, up1 (tg h) (tp h) (c + 1), ln h, tp h + 1, rc h - 1, rs h - n)
/-- a new array of type t with n places -/
def newA (h : AH) (t n : Nat) : AH := (fI h, fJ h, fP h, fun a i => if a = tp h then 0 else aI h a i, fun a i => if a = tp h then 0 else aJ h a i, fun a i => if a = tp h then none else aP h a i, up1 (tg h) (tp h) (100 + t), up1 (ln h) (tp h) n, tp h + 1, rc h - 1, rs h - n)
/-- a piece of an array of references copied -/
def cpyP (h : AH) (a i b j n : Nat) : AH := (h.1, h.2.1, h.2.2.1, h.2.2.2.1, h.2.2.2.2.1, fun c k => if c = b ∧ j ≤ k ∧ k < j + n then aP h a (i + (k - j)) else aP h c k, h.2.2.2.2.2.2)
def vcat : V → Nat
  | .inr (.inl _) => 2
  | _ => 1
def catS : List V → Nat
  | [] => 0
  | v :: r => vcat v + catS r
def ld : Ls → Nat → Option V
  | [], _ => none
  | q :: r, i => if q.1 = i then some q.2 else ld r i
def insL (i : Nat) (v : V) : Ls → Ls
  | [] => [(i, v)]
  | q :: r => if i < q.1 then (i, v) :: q :: r else q :: insL i v r
def st1 (ls : Ls) (i : Nat) (v : V) : Ls := insL i v (ls.filter (fun q => !(q.1 == i) && !(q.1 + 1 == i && vcat q.2 == 2)))
def st2 (ls : Ls) (i : Nat) (v : V) : Ls := insL i v (ls.filter (fun q => !(q.1 == i) && (!(q.1 == i + 1) && !(q.1 + 1 == i && vcat q.2 == 2))))
def ent : Nat → List V → Ls
  | _, [] => []
  | i, v :: r => (i, v) :: ent (i + vcat v) r
def i1 (st : List V) (k : Int32 → List V → Prop) : Prop := match st with
  | .inl x :: r => k x r
  | _ => False
def i2 (st : List V) (k : Int32 → Int32 → List V → Prop) : Prop := match st with
  | .inl y :: .inl x :: r => k x y r
  | _ => False
def l1 (st : List V) (k : Int64 → List V → Prop) : Prop := match st with
  | .inr (.inl x) :: r => k x r
  | _ => False
def l2 (st : List V) (k : Int64 → Int64 → List V → Prop) : Prop := match st with
  | .inr (.inl y) :: .inr (.inl x) :: r => k x y r
  | _ => False
def li (st : List V) (k : Int64 → Int32 → List V → Prop) : Prop := match st with
  | .inl y :: .inr (.inl x) :: r => k x y r
  | _ => False
def p1 (st : List V) (k : Option Nat → List V → Prop) : Prop := match st with
  | .inr (.inr x) :: r => k x r
  | _ => False
def pi (st : List V) (k : Option Nat → Int32 → List V → Prop) : Prop := match st with
  | .inl j :: .inr (.inr x) :: r => k x j r
  | _ => False
def nn (o : Option Nat) (k : Nat → Prop) : Prop := match o with
  | some a => k a
  | none => False
/-- a guard that is computed -/
def gB (b : Bool) (X : Prop) : Prop := match b with
  | true => X
  | false => False
def bI (b : Bool) (X Y : Prop) : Prop := match b with
  | true => X
  | false => Y
def icmp (c : ClassFile.Cond) (x y : Int32) : Prop := match c with
  | .eq => x = y
  | .ne => ¬ x = y
  | .lt => x < y
  | .ge => y ≤ x
  | .gt => y < x
  | .le => x ≤ y
/-- which int arrays may be read (101 own, 151 the script), which byte arrays (103 byte, 104 boolean, 152 of a text) -/
def swAt (l : List Int) (j : Nat) (d : Int) : Nat := (l.getD j d).toNat
def ldI (o : Option V) (k : Int32 → Prop) : Prop := match o with
  | some (.inl x) => k x
  | _ => False
def ldL (o : Option V) (k : Int64 → Prop) : Prop := match o with
  | some (.inr (.inl x)) => k x
  | _ => False
def ldP (o : Option V) (k : Option Nat → Prop) : Prop := match o with
  | some (.inr (.inr x)) => k x
  | _ => False
/-- a field's value goes on the stack, by its sort f / 10000: 0 int, 1 boolean, 2 long, 3 reference, 4 byte -/
def getf (f a : Nat) (h : AH) : V := match f / 10000 with
  | 2 => vl (fJ h f a)
  | 3 => vr (fP h f a)
  | _ => vi (fI h f a)
def putf (f : Nat) (st : List V) (h : AH) (k : AH → List V → Prop) : Prop := match f / 10000, st with
  | 0, .inl x :: .inr (.inr o) :: r => nn o (fun a => tg h a = f / 100 % 100 + 1 ∧ k (setFI h f a x) r)
  | 1, .inl x :: .inr (.inr o) :: r => nn o (fun a => tg h a = f / 100 % 100 + 1 ∧ (x = 0 ∨ x = 1) ∧ k (setFI h f a x) r)
  | 2, .inr (.inl x) :: .inr (.inr o) :: r => nn o (fun a => tg h a = f / 100 % 100 + 1 ∧ k (setFJ h f a x) r)
  | 3, .inr (.inr x) :: .inr (.inr o) :: r => nn o (fun a => tg h a = f / 100 % 100 + 1 ∧ k (setFP h f a x) r)
  | _, _ => False
def arrT : ClassFile.ArrayType → Nat
  | .int => 1
  | .long => 2
  | .byte => 3
  | .boolean => 4
  | _ => 0
def acm (c : ClassFile.ACond) (x y : Option Nat) : Prop := match c with
  | .eq => x = y
  | .ne => ¬ x = y
/-- one instruction: K goes on, C calls (method, arguments, rest), R returns -/
def stepC (ins : ClassFile.Instr) (i : Nat) (st : List V) (ls : Ls) (h : AH) (K : Nat → List V → Ls → AH → Prop) (C : Nat → List V → List V → Prop) (R : Option V → AH → Prop) : Prop := match ins with
  | .iconst v => K (i + 1) (vi (Int32.ofInt v) :: st) ls h
  | .goto_w v => K (i + 1) (vl (Int64.ofInt v) :: st) ls h
  | .aconst_null => K (i + 1) (vr none :: st) ls h
  | .jsr_w v => K (i + 1) (vr (fP h 39800 v.toNat) :: st) ls h
  | .getstatic v => bI (v == 1 || v == 2) (K (i + 1) (vi (fI h 9900 v) :: st) ls h) (K (i + 1) (vr (fP h 39900 v) :: st) ls h)
  | .iload j => ldI (ld ls j) (fun x => K (i + 1) (vi x :: st) ls h)
  | .lload j => ldL (ld ls j) (fun x => K (i + 1) (vl x :: st) ls h)
  | .aload j => ldP (ld ls j) (fun x => K (i + 1) (vr x :: st) ls h)
  | .istore j => i1 st (fun x r => K (i + 1) r (st1 ls j (vi x)) h)
  | .lstore j => l1 st (fun x r => K (i + 1) r (st2 ls j (vl x)) h)
  | .astore j => p1 st (fun x r => K (i + 1) r (st1 ls j (vr x)) h)
  | .iinc j n => ldI (ld ls j) (fun x => K (i + 1) st (st1 ls j (vi (x + Int32.ofInt n))) h)
  | .iadd => i2 st (fun x y r => K (i + 1) (vi (x + y) :: r) ls h)
  | .isub => i2 st (fun x y r => K (i + 1) (vi (x - y) :: r) ls h)
  | .imul => i2 st (fun x y r => K (i + 1) (vi (x * y) :: r) ls h)
  | .idiv => i2 st (fun x y r => ¬ y = 0 ∧ K (i + 1) (vi (x / y) :: r) ls h)
  | .irem => i2 st (fun x y r => ¬ y = 0 ∧ K (i + 1) (vi (x - x / y * y) :: r) ls h)
  | .iand => i2 st (fun x y r => K (i + 1) (vi (x &&& y) :: r) ls h)
  | .ior => i2 st (fun x y r => K (i + 1) (vi (x ||| y) :: r) ls h)
  | .ixor => i2 st (fun x y r => gB (Nat.ble (catS r) 8) (K (i + 1) (vi (if x < y then y else x) :: r) ls h))
  | .lxor => i2 st (fun x y r => gB (Nat.ble (catS r) 8) (K (i + 1) (vi (if y < x then y else x) :: r) ls h))
  | .ishl => i2 st (fun x y r => K (i + 1) (vi (x <<< (y &&& 31)) :: r) ls h)
  | .ishr => i2 st (fun x y r => K (i + 1) (vi (x >>> (y &&& 31)) :: r) ls h)
  | .iushr => i2 st (fun x y r => K (i + 1) (vi ((x.toUInt32 >>> (y.toUInt32 &&& Int32.toUInt32 31)).toInt32) :: r) ls h)
  | .ladd => l2 st (fun x y r => K (i + 1) (vl (x + y) :: r) ls h)
  | .lmul => l2 st (fun x y r => K (i + 1) (vl (x * y) :: r) ls h)
  | .land => l2 st (fun x y r => K (i + 1) (vl (x &&& y) :: r) ls h)
  | .lor => l2 st (fun x y r => K (i + 1) (vl (x ||| y) :: r) ls h)
  | .lrem => l2 st (fun x y r => ¬ y = 0 ∧ K (i + 1) (vl (x - x / y * y) :: r) ls h)
  | .lshl => li st (fun x y r => K (i + 1) (vl (x <<< (y.toInt64 &&& 63)) :: r) ls h)
  | .lushr => li st (fun x y r => K (i + 1) (vl ((x.toUInt64 >>> (y.toInt64.toUInt64 &&& Int64.toUInt64 63)).toInt64) :: r) ls h)
  | .lcmp => l2 st (fun x y r => K (i + 1) (vi (lg_cmp x y) :: r) ls h)
  | .i2l => i1 st (fun x r => K (i + 1) (vl x.toInt64 :: r) ls h)
  | .l2i => l1 st (fun x r => K (i + 1) (vi x.toInt32 :: r) ls h)
  | .i2b => i1 st (fun x r => K (i + 1) (vi x.toInt8.toInt32 :: r) ls h)
  | .i2c => i1 st (fun x r => K (i + 1) (vi (x.toUInt32 % 65536).toInt32 :: r) ls h)
  | .dup => match st with
    | v :: r => gB (vcat v == 1) (K (i + 1) (v :: v :: r) ls h)
    | _ => False
  | .pop => match st with
    | v :: r => gB (vcat v == 1) (K (i + 1) r ls h)
    | _ => False
  | .dup_x1 => match st with
    | v :: w :: r => gB (vcat v == 1 && vcat w == 1) (K (i + 1) (v :: w :: v :: r) ls h)
    | _ => False
  | .dup2 => match st with
    | v :: w :: r => gB (vcat v == 1 && vcat w == 1) (K (i + 1) (v :: w :: v :: w :: r) ls h)
    | _ => False
  | .goto t => K t.toNat st ls h
  | .ifCond c t => i1 st (fun x r => (icmp c x 0 → K t.toNat r ls h) ∧ (¬ icmp c x 0 → K (i + 1) r ls h))
  | .if_icmp c t => i2 st (fun x y r => (icmp c x y → K t.toNat r ls h) ∧ (¬ icmp c x y → K (i + 1) r ls h))
  | .ifnull t => p1 st (fun x r => (x = none → K t.toNat r ls h) ∧ (¬ x = none → K (i + 1) r ls h))
  | .ifnonnull t => p1 st (fun x r => (¬ x = none → K t.toNat r ls h) ∧ (x = none → K (i + 1) r ls h))
  | .tableswitch dft lo _ ts => i1 st (fun x r => (x < Int32.ofInt lo ∨ Int32.ofInt lo + Int32.ofNat ts.size ≤ x → K dft.toNat r ls h) ∧ ∀ j, j < ts.size → x = Int32.ofInt lo + Int32.ofNat j → K (swAt ts.toList j dft) r ls h)
  | .getfield f => p1 st (fun o r => nn o (fun a => tg h a = f / 100 % 100 + 1 ∧ K (i + 1) (getf f a h :: r) ls h))
  | .putfield f => putf f st h (fun h' r => K (i + 1) r ls h')
  | .iaload => pi st (fun o j r => nn o (fun a => (tg h a = 101 ∨ tg h a = 151) ∧ vp_in j (ln h a) ∧ K (i + 1) (vi (aI h a j.toNatClampNeg) :: r) ls h))
  | .baload => pi st (fun o j r => nn o (fun a => (tg h a = 103 ∨ tg h a = 104 ∨ fI h 9901 a = 152) ∧ vp_in j (ln h a) ∧ K (i + 1) (vi (aI h a j.toNatClampNeg) :: r) ls h))
  | .laload => pi st (fun o j r => nn o (fun a => tg h a = 102 ∧ vp_in j (ln h a) ∧ K (i + 1) (vl (aJ h a j.toNatClampNeg) :: r) ls h))
  | .aaload => pi st (fun o j r => nn o (fun a => tg h a = 109 ∧ vp_in j (ln h a) ∧ K (i + 1) (vr (aP h a j.toNatClampNeg) :: r) ls h))
  | .iastore => i1 st (fun v r => pi r (fun o j r => nn o (fun a => tg h a = 101 ∧ vp_in j (ln h a) ∧ K (i + 1) r ls (setAI h a j.toNatClampNeg v))))
  | .bastore => i1 st (fun v r => pi r (fun o j r => nn o (fun a => (tg h a = 103 ∧ v.toInt8.toInt32 = v ∨ tg h a = 104 ∧ (v = 0 ∨ v = 1)) ∧ vp_in j (ln h a) ∧ K (i + 1) r ls (setAI h a j.toNatClampNeg v))))
  | .lastore => l1 st (fun v r => pi r (fun o j r => nn o (fun a => tg h a = 102 ∧ vp_in j (ln h a) ∧ K (i + 1) r ls (setAJ h a j.toNatClampNeg v))))
  | .aastore => p1 st (fun v r => nn v (fun x => pi r (fun o j r => nn o (fun a => tg h a = 109 ∧ (tg h x = 1 ∨ tg h x = 9 ∨ tg h x = 13) ∧ vp_in j (ln h a) ∧ K (i + 1) r ls (setAP h a j.toNatClampNeg (some x))))))
  | .arraylength => p1 st (fun o r => nn o (fun a => (tg h a = 151 ∨ fI h 9901 a = 152 ∨ fI h 9901 a = 153 ∨ tg h a = 101 ∨ tg h a = 102 ∨ tg h a = 103 ∨ tg h a = 104 ∨ tg h a = 109) ∧ K (i + 1) (vi (Int32.ofNat (ln h a)) :: r) ls h))
  | .newarray t => i1 st (fun n r => 0 ≤ n ∧ 0 < rc h ∧ n.toNatClampNeg ≤ rs h ∧ gB (Nat.blt 0 (arrT t)) (K (i + 1) (vr (some (tp h)) :: r) ls (newA h (arrT t) n.toNatClampNeg)))
  | .anewarray _ => i1 st (fun n r => 0 ≤ n ∧ 0 < rc h ∧ n.toNatClampNeg ≤ rs h ∧ K (i + 1) (vr (some (tp h)) :: r) ls (newA h 9 n.toNatClampNeg))
  | .new f => 0 < rc h ∧ f / 100 ≤ rs h ∧ K (i + 1) (vr (some (tp h)) :: st) ls (newO h (f % 100) (f / 100))
  | .checkcast c => p1 st (fun o r => (∀ a, o = some a → tg h a = c + 1) ∧ K (i + 1) (vr o :: r) ls h)
  | .invokespecial 0 => p1 st (fun o r => nn o (fun _ => gB (Nat.ble (catS r) 8) (K (i + 1) r ls h)))
  | .invokespecial m => gB (Nat.ble (m / 100 % 100) st.length && Nat.ble (catS (st.drop (m / 100 % 100))) 8) (C m (st.take (m / 100 % 100)).reverse (st.drop (m / 100 % 100)))
  | .invokevirtual m => gB (Nat.ble (m / 100 % 100) st.length && Nat.ble (catS (st.drop (m / 100 % 100))) 8) (C m (st.take (m / 100 % 100)).reverse (st.drop (m / 100 % 100)))
  | .invokestatic m => gB (Nat.ble (m / 100 % 100) st.length && Nat.ble (catS (st.drop (m / 100 % 100))) 8) (C m (st.take (m / 100 % 100)).reverse (st.drop (m / 100 % 100)))
  | .return_ => match st with
    | [] => R none h
    | _ => False
  | .ireturn => match st with
    | [.inl x] => R (some (vi x)) h
    | _ => False
  | .freturn => match st with
    | [.inl x] => (x = 0 ∨ x = 1) ∧ R (some (vi x)) h
    | _ => False
  | .dreturn => match st with
    | [.inl x] => (0 ≤ x ∧ x < 65536) ∧ R (some (vi x)) h
    | _ => False
  | .ret _ => match st with
    | [.inl x] => x.toInt8.toInt32 = x ∧ R (some (vi x)) h
    | _ => False
  | .if_acmp c t => p1 st (fun y r => p1 r (fun x r => (acm c x y → K t.toNat r ls h) ∧ (¬ acm c x y → K (i + 1) r ls h)))
  | .monitorenter => p1 st (fun o r => nn o (fun a => tg h a = 109 ∧ gB (Nat.ble (catS r) 8) (K (i + 1) (vr (fP h 39900 60) :: r) ls h)))
  | .monitorexit => match st with
    | .inl n :: .inl dp :: .inr (.inr b) :: .inl sp :: .inr (.inr a) :: r => nn a (fun a => nn b (fun b => tg h a = 109 ∧ tg h b = 109 ∧ (0 ≤ n ∧ 0 ≤ sp ∧ 0 ≤ dp ∧ sp.toNatClampNeg + n.toNatClampNeg ≤ ln h a ∧ dp.toNatClampNeg + n.toNatClampNeg ≤ ln h b) ∧ (Nat.ble (catS r) 8 = true ∧ ∀ j y, j < n.toNatClampNeg → aP h a (sp.toNatClampNeg + j) = some y → tg h y = 1 ∨ tg h y = 9 ∨ tg h y = 13) ∧ K (i + 1) r ls (cpyP h a sp.toNatClampNeg b dp.toNatClampNeg n.toNatClampNeg)))
    | _ => False
  | .lreturn => match st with
    | [.inr (.inl x)] => R (some (vl x)) h
    | _ => False
  | .areturn => match st with
    | [.inr (.inr x)] => R (some (vr x)) h
    | _ => False
  | _ => False
