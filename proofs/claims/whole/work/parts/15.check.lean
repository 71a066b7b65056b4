/-! CHECKS of the tables against the machine's words and bytes -/
def wAt (i : Nat) : Option Cond := lw_tbl[i]?
def goodK : Cond → Bool
  | .fieldLinkNest .. => false
  | .methodLinkNest .. => false
  | .stringRef .. => false
  | .arrayOver .. => false
  | .castable .. => false
  | .declares .. => false
  | .laysStatic .. => false
  | .privateMethod .. => false
  | _ => true
def lw_good : List Cond := lw_tbl.filter goodK
theorem lw_good_all : lw_good.all goodWord = true := by decide +kernel
theorem lw_good_in : GoodIn lw_good lw_good := fun w hw => ⟨hw, good_of_word (List.all_eq_true.mp lw_good_all w hw)⟩
theorem good_at {i : Nat} {w : Cond} (h : wAt i = some w) (hk : goodK w = true) : w ∈ lw_good := List.mem_filter.mpr ⟨List.mem_of_getElem? h, hk⟩
theorem tbl_at {i : Nat} {w : Cond} (h : wAt i = some w) : w ∈ lw_tbl := List.mem_of_getElem? h
def kdD (d : String) : Nat := if d = "I" then 0 else if d = "Z" then 1 else if d = "J" then 2 else 3
def flkOk (q : Nat × Nat × Nat × Nat × Nat) : Bool := match q with
  | (oc, idx, f, w, g) => match ocN[oc]?, vwCl[f / 100 % 100]? with
    | some own, some (C, T, N) => decide (f % 100 < N) && decide (f / 10000 = kdD (T (f % 100)).2.2.1) && decide (f < 40000) &&
        (if g = 0 then decide (wAt w = some (.fieldLink own idx (T (f % 100)).1 (T (f % 100)).2.1 (T (f % 100)).2.2.1))
         else if g = 1 then decide (wAt w = some (.fieldLinkNest own idx (T (f % 100)).1 (T (f % 100)).2.1 (T (f % 100)).2.2.1 "ThrowRules"))
         else decide (wAt w = some (.fieldLink own idx C (T (f % 100)).2.1 (T (f % 100)).2.2.1)) && decide (Cond.sameField C (T (f % 100)).1 (T (f % 100)).2.1 (T (f % 100)).2.2.1 ∈ lw_good))
    | _, _ => false
set_option maxRecDepth 100000 in
theorem flk_all : flk.all flkOk = true := by decide +kernel
def mOk (n : Nat) : Bool := match minf n with
  | (oc, y, _, L, _, ws, _) => decide (ocN[oc]? = some y.cls) && decide (L ≤ 20) && decide (y.cls ≠ "java/lang/invoke/MethodHandle") && decide (y.cls ≠ "java/lang/invoke/VarHandle") && plainName y.cls &&
      decide (wAt (ws.getD 3 0) = some (.initialized y.cls))
/-- what a call of method K wants: 0 static, 1 special, 2 virtual -/
def kOk (kd K : Nat) : Bool := match minf (K / 1000000) with
  | (_, y, _, L, rt, ws, _) => mOk (K / 1000000) && decide (K / 10000 % 100 ≤ L) &&
      (match kd with
       | 0 => decide (K % 100 = 0) && decide (wAt (ws.getD 1 0) = some (.static y)) && decide ((parseMethodDescriptor y.desc).map (fun d => d.parameters.length) = some (K / 100 % 100))
       | 1 => decide (0 < K % 100) && decide (0 < K / 100 % 100) && decide (rt = none) && decide (y.name = "<init>") && decide (wAt (ws.getD 1 0) = some (.instanceMethod y)) && decide ((parseMethodDescriptor y.desc).map (fun d => d.parameters.length) = some (K / 100 % 100 - 1))
       | 3 => decide (K % 100 = 70) && decide (0 < K / 100 % 100) && decide (wAt (ws.getD 1 0) = some (.instanceMethod y)) && decide (wAt (ws.getD 2 0) = some (.selects y.cls y y)) && decide ((parseMethodDescriptor y.desc).map (fun d => d.parameters.length) = some (K / 100 % 100 - 1)) && decide (y.cls = "java/lang/String")
       | _ => decide (0 < K % 100) && decide (0 < K / 100 % 100) && decide (wAt (ws.getD 1 0) = some (.instanceMethod y)) && decide (wAt (ws.getD 2 0) = some (.selects y.cls y y)) && decide ((parseMethodDescriptor y.desc).map (fun d => d.parameters.length) = some (K / 100 % 100 - 1)) && decide (y.name ≠ "<init>") && decide ((vwCl[K % 100 - 1]?).map (fun q => q.1) = some y.cls))
def mlkOk (q : Nat × Nat × Nat × Nat × Nat) : Bool := match q with
  | (oc, idx, K, w, g) => match ocN[oc]? with
    | some own => if K = 0 then decide (wAt w = some (.methodLink own idx Lib.objectInit)) else
        (if g = 0 then decide (wAt w = some (.methodLink own idx (minf (K / 1000000)).2.1)) else decide (wAt w = some (.methodLinkNest own idx (minf (K / 1000000)).2.1 "ThrowRules")))
    | none => false
set_option maxRecDepth 100000 in
theorem mlk_all : mlk.all mlkOk = true := by decide +kernel
def nlkOk (q : Nat × Nat × Nat × Nat × Nat × Nat) : Bool := match q with
  | (oc, idx, f, w, w2, w3) => match ocN[oc]?, vwCl[f % 100]? with
    | some own, some (C, _, N) => decide (f / 100 = N) && decide (wAt w = some (.classLink own idx C)) && decide (wAt w2 = some (.instantiable C N)) && decide (wAt w3 = some (.initialized C))
    | _, _ => false
set_option maxRecDepth 100000 in
theorem nlk_all : nlk.all nlkOk = true := by decide +kernel
def llkOk (q : Nat × Nat × Int × Nat) : Bool := match q with
  | (oc, idx, v, w) => match ocN[oc]? with
    | some own => decide (wAt w = some (.constantLong own idx (Int64.ofInt v)))
    | none => false
set_option maxRecDepth 100000 in
theorem llk_all : llk.all llkOk = true := by decide +kernel
def ilkOk (q : Nat × Nat × Int × Nat) : Bool := match q with
  | (oc, idx, v, w) => match ocN[oc]? with
    | some own => decide (wAt w = some (.constant own idx (Int32.ofInt v)))
    | none => false
set_option maxRecDepth 100000 in
theorem ilk_all : ilk.all ilkOk = true := by decide +kernel
def clkOk (q : Nat × Nat × Nat × Nat) : Bool := match q with
  | (oc, idx, c, w) => match ocN[oc]? with
    | some own => if c = 90 then decide (wAt w = some (.classLink own idx "java/lang/Object")) else if c = 91 then decide (wAt w = some (.classLink own idx "[Ljava/lang/Object;")) else match vwCl[c]? with
      | some (C, _, _) => decide (wAt w = some (.classLink own idx C))
      | none => false
    | none => false
set_option maxRecDepth 100000 in
theorem clk_all : clk.all clkOk = true := by decide +kernel
def slkOk (q : Nat × Nat × Nat × Nat) : Bool := match q with
  | (oc, idx, i, w) => match ocN[oc]?, strT[i]? with
    | some own, some t => decide (wAt w = some (.stringRef own idx t))
    | _, _ => false
set_option maxRecDepth 100000 in
theorem slk_all : slk.all slkOk = true := by decide +kernel
def ntkOk (q : Nat × Nat × Nat × Nat) : Bool := match q with
  | (oc, idx, i, w) => match ocN[oc]? with
    | some own => match i with
      | 0 => decide (wAt w = some (.methodLink own idx ⟨"java/lang/Object", "getClass", "()Ljava/lang/Class;"⟩))
      | 1 => decide (wAt w = some (.methodLink own idx arraycopyName))
      | 2 => decide (wAt w = some (.methodLink own idx Lib.Math.max.name))
      | _ => decide (wAt w = some (.methodLink own idx Lib.Math.min.name))
    | _ => false
set_option maxRecDepth 100000 in
theorem ntk_all : ntk.all ntkOk = true := by decide +kernel
def gsN (v : Nat) : String × String × String := if v = 1 then ("java/lang/String", "COMPACT_STRINGS", "Z") else if v = 2 then ("java/lang/Integer$IntegerCache", "high", "I") else if v = 50 then ("java/util/ArrayList", "DEFAULTCAPACITY_EMPTY_ELEMENTDATA", "[Ljava/lang/Object;") else if v = 51 then ("java/lang/Integer$IntegerCache", "cache", "[Ljava/lang/Integer;") else ("jdk/internal/util/Preconditions", "SIOOBE_FORMATTER", "Ljava/util/function/BiFunction;")
def gskOk (q : Nat × Nat × Nat × Nat) : Bool := match q with
  | (oc, idx, v, w) => match ocN[oc]? with
    | some own => decide (v = 1 ∨ v = 2 ∨ v = 50 ∨ v = 51 ∨ v = 52) && decide (wAt w = some (.fieldLink own idx (gsN v).1 (gsN v).2.1 (gsN v).2.2))
    | none => false
theorem gsk_all : gsk.all gskOk = true := by decide +kernel
def fskOk (q : Nat × Nat × Nat × Nat) : Bool := match q with
  | (oc, idx, f, w) => match ocN[oc]? with
    | some own => (decide (f = 36900) && decide (wAt w = some (.fieldLink own idx "java/lang/String" "value" "[B"))) || (decide (f = 46901) && decide (wAt w = some (.fieldLink own idx "java/lang/String" "coder" "B")))
    | none => false
theorem fsk_all : fsk.all fskOk = true := by decide +kernel
