/-! THE START: the world at the law's entry -/
def strTm (i : Nat) : Term := if i = 0 then .string "ThrowRules$Kinds" 25 else if i = 1 then .string "ThrowRules$Kinds" 37 else if i = 2 then .string "ThrowRules$Kinds" 39 else if i = 3 then .string "ThrowRules$Kinds" 41 else if i = 4 then .string "ThrowRules$Tape" 19 else .string "ThrowRules$Tape" 73
def fl1 : List Cond := flatC (Jvm.Cond.and given_1 narrow_1)
theorem st_ex : ∀ i, i < 6 → Cond.exactly (strTm i) "java/lang/String" ∈ fl1 := by decide +kernel
theorem st_co : ∀ i, i < 6 → Cond.eq (.field (strTm i) "java/lang/String" "coder" "B") (.int 0) ∈ fl1 := by decide +kernel
theorem st_ar : ∀ i, i < 6 → Cond.arrayOf (.field (strTm i) "java/lang/String" "value" "[B") .byte ∈ fl1 := by decide +kernel
theorem st_le : ∀ i, i < 6 → Cond.eq (.length (.field (strTm i) "java/lang/String" "value" "[B")) (.int (Int32.ofNat (lenS.getD i 0))) ∈ fl1 := by decide +kernel
theorem st_el : ∀ i, i < 6 → ∀ j, j < lenS.getD i 0 → Cond.eq (.elem (.field (strTm i) "java/lang/String" "value" "[B") (.int (Int32.ofNat j))) (.int ((bytS.getD i []).getD j 0)) ∈ fl1 := by decide +kernel
theorem st_ne : ∀ i, i < 6 → ∀ j, j < 6 → i ≠ j → Cond.not (Cond.eq (strTm i) (strTm j)) ∈ fl1 ∨ Cond.not (Cond.eq (strTm j) (strTm i)) ∈ fl1 := by decide +kernel
theorem st_sl : slk.all (fun q => match ocN[q.1]? with
  | some own => decide (strTm q.2.2.1 = .string own q.2.1) && decide (q.2.2.1 < 6)
  | none => false) = true := by decide +kernel
theorem st_in : vwCl.all (fun q => decide (Cond.instantiable q.1 q.2.2 ∈ lw_good)) = true := by decide +kernel
theorem ls_1 : Cond.laysStatic "java/lang/String" "COMPACT_STRINGS" "Z" ∈ lw_tbl := by decide +kernel
theorem ls_2 : Cond.laysStatic "java/lang/Integer$IntegerCache" "high" "I" ∈ lw_tbl := by decide +kernel
theorem ls_3 : Cond.laysStatic "java/util/ArrayList" "DEFAULTCAPACITY_EMPTY_ELEMENTDATA" "[Ljava/lang/Object;" ∈ lw_tbl := by decide +kernel
theorem ls_4 : Cond.laysStatic "java/lang/Integer$IntegerCache" "cache" "[Ljava/lang/Integer;" ∈ lw_tbl := by decide +kernel
theorem ls_5 : Cond.laysStatic "jdk/internal/util/Preconditions" "SIOOBE_FORMATTER" "Ljava/util/function/BiFunction;" ∈ lw_tbl := by decide +kernel
theorem in_1 : Cond.initialized "java/lang/String" ∈ lw_tbl := by decide +kernel
theorem in_2 : Cond.initialized "java/lang/Integer$IntegerCache" ∈ lw_tbl := by decide +kernel
theorem in_3 : Cond.initialized "java/util/ArrayList" ∈ lw_tbl := by decide +kernel
theorem in_5 : Cond.initialized "jdk/internal/util/Preconditions" ∈ lw_tbl := by decide +kernel
theorem ao_1 : Cond.arrayOver (.object "java/lang/Object") ∈ lw_tbl := by decide +kernel
theorem dc_1 : Cond.declares ⟨"java/lang/Object", "getClass", "()Ljava/lang/Class;"⟩ ∈ lw_tbl := by decide +kernel
theorem f_1 : Cond.eq (.static "java/lang/String" "COMPACT_STRINGS" "Z") (.int 1) ∈ fl1 := by decide +kernel
theorem f_2 : Cond.eq (.static "java/lang/Integer$IntegerCache" "high" "I") (.int 127) ∈ fl1 := by decide +kernel
theorem f_3 : Cond.arrayOf (.static "java/util/ArrayList" "DEFAULTCAPACITY_EMPTY_ELEMENTDATA" "[Ljava/lang/Object;") (.object "java/lang/Object") ∈ fl1 := by decide +kernel
theorem f_4 : Cond.eq (.length (.static "java/util/ArrayList" "DEFAULTCAPACITY_EMPTY_ELEMENTDATA" "[Ljava/lang/Object;")) (.int 0) ∈ fl1 := by decide +kernel
theorem f_5 : Cond.eq (.length (.static "java/lang/Integer$IntegerCache" "cache" "[Ljava/lang/Integer;")) (.int 256) ∈ fl1 := by decide +kernel
theorem f_6 : Cond.isRef (.static "jdk/internal/util/Preconditions" "SIOOBE_FORMATTER" "Ljava/util/function/BiFunction;") ∈ fl1 := by decide +kernel
theorem f_7 : Cond.isRef (.mirror "[Ljava/lang/Object;") ∈ fl1 := by decide +kernel
def exF (adK adV : Nat → Nat) (t20 mi t22 e23 : Nat) : Nat → Nat := fun n => if n < 6 then adK n else if n < 20 then adV (n - 10) else if n = 20 then t20 else if n = 21 then mi else if n = 22 then t22 else e23
set_option maxHeartbeats 1000000 in
/-- what is known of old things at the start -/
theorem start_KX {s : State} {args : Array Value} (hts : ∀ x ∈ lw_tbl, x.before args s = true) (hgv : (Jvm.Cond.and given_1 narrow_1).before args s = true) :
    ∃ ex : Nat → Nat, ∀ (D : va_G) (cA : Nat → ClassId) (scr : Cell), KX (D, cA, s.heap.size, s.heap, scr, ex) s := by
  have hs : ∀ x ∈ fl1, x.before args s = true := flat_of_before _ hgv
  have hA : ∀ a : Nat, a < s.heap.size → ¬ (fun q : Nat => s.heap.size ≤ q) a := fun a h => Nat.not_le.mpr h
  obtain ⟨adK, adV, hS, hT⟩ := vk_Sof (args := args) (s := s) (N := 6) (tm := strTm) (len := lenS) (byt := bytS) (A := fun q => s.heap.size ≤ q) (by decide) (fun i hi => hs _ (st_ex i hi)) (fun i hi => hs _ (st_co i hi)) (fun i hi => hs _ (st_ar i hi)) (fun i hi => hs _ (st_le i hi)) (fun i hi j hj => hs _ (st_el i hi j hj)) (fun i j hi hj hne => (st_ne i hi j hj hne).imp (hs _) (hs _)) hA
  obtain ⟨t20, ht20, hT20⟩ := va_Tof (args := args) (s := s) (N := 0) (f := fun _ => .null) (A := fun q => s.heap.size ≤ q) (by decide) (hs _ f_3) (va_eqt (hs _ f_4)) (fun j hj => absurd hj (Nat.not_lt_zero j)) hA
  obtain ⟨t22, -, ht22, -, -⟩ := Term.length_spec (va_eqt (hs _ f_5))
  obtain ⟨v23, hv23, hr23⟩ := Cond.isRef_spec (hs _ f_6)
  obtain ⟨mi, hmi⟩ := va_Mi.of (hs _ f_7)
  obtain ⟨e23, he23⟩ : ∃ e23 : Nat, v23 = va_rf (if e23 = 0 then none else some (e23 - 1)) := by
    cases v23 with
    | null => exact ⟨0, rfl⟩
    | ref a => exact ⟨a + 1, rfl⟩
    | _ => simp [Value.isRef] at hr23
  refine ⟨exF adK adV t20 mi t22 e23, fun D cA scr => ?_⟩
  have eK : ∀ i, i < 6 → exF adK adV t20 mi t22 e23 i = adK i := fun i hi => by simp [exF, hi]
  have eV : ∀ i, i < 6 → exF adK adV t20 mi t22 e23 (10 + i) = adV i := fun i hi => by
    simp only [exF]
    rw [if_neg (by omega), if_pos (by omega), show 10 + i - 10 = i by omega]
  refine ⟨⟨fun i hi => ?_, fun i j hi hj e => ?_⟩, fun q hq own t h1 h2 => ?_, fun v hv => ?_, hT20, hmi, va_Dc.of (hts _ dc_1), va_AO.of (hts _ ao_1), fun C hC => va_Nw.of rfl (hts _ hC)⟩
  · have h := hS.1 i hi
    show va_O "java/lang/String" (exF adK adV t20 mi t22 e23 i) _ s s.heap ∧ va_OF _ _ _ _ (exF adK adV t20 mi t22 e23 i) _ s s.heap ∧ va_OF _ _ _ (.ref (exF adK adV t20 mi t22 e23 (10 + i))) (exF adK adV t20 mi t22 e23 i) _ s s.heap ∧ va_T _ (exF adK adV t20 mi t22 e23 (10 + i)) _ _ _ s s.heap
    rw [eK i hi, eV i hi]
    exact h
  · refine hS.2 i j hi hj ?_
    rw [← eK i hi, ← eK j hj]
    exact e
  · have hz := List.all_eq_true.mp st_sl q hq
    rw [h1] at hz
    simp only [Bool.and_eq_true, decide_eq_true_eq] at hz
    have hk := List.all_eq_true.mp slk_all q hq
    obtain ⟨oc, idx, i, wd⟩ := q
    simp only [slkOk] at hk
    dsimp only at h1 h2 hz
    rw [h1, h2] at hk
    have hw := hts _ (tbl_at (of_decide_eq_true hk))
    have he := hT i hz.2
    rw [hz.1] at he
    show vk_R own idx t (exF adK adV t20 mi t22 e23 i) s
    rw [eK i hz.2]
    exact vk_R.of hw he
  · rcases hv with rfl | rfl | rfl | rfl | rfl
    · exact va_Zof (hts _ ls_1) (hts _ in_1) (va_eqi (hs _ f_1)) hA
    · exact va_Zof (hts _ ls_2) (hts _ in_2) (va_eqi (hs _ f_2)) hA
    · exact va_Zof (hts _ ls_3) (hts _ in_3) ht20 hA
    · exact va_Zof (hts _ ls_4) (hts _ in_2) ht22 hA
    · refine va_Zof (hts _ ls_5) (hts _ in_5) ?_ hA
      refine Eq.trans hv23 ?_
      rw [he23]
      rfl
theorem start_K {s : State} {args : Array Value} (hts : ∀ x ∈ lw_tbl, x.before args s = true) : ∃ (D : va_G) (cA : Nat → ClassId), va_K D vwCl [(cA 1, .int), (cA 2, .long), (cA 3, .byte), (cA 4, .boolean), (cA 9, .object "java/lang/Object")] s := by
  have hg : ∀ x ∈ lw_good, x.before args s = true := fun x hx => hts x (List.mem_filter.mp hx).1
  have h0 : ∀ k : Nat, ∃ p : ClassId × (Nat → Nat), ∀ q : vw_C, vwCl[k]? = some q → u_Kn s q.1 q.2.1 q.2.2 p.1 p.2 := by
    intro k
    cases hq : vwCl[k]? with
    | none => exact ⟨(0, fun _ => 0), fun q h => by cases h⟩
    | some q =>
      have hm := List.mem_of_getElem? hq
      have hi := List.all_eq_true.mp st_in q hm
      obtain ⟨cC, iS, hK⟩ := u_known hg (vw_ok q hm).1 (hg _ (of_decide_eq_true hi))
      exact ⟨(cC, iS), fun q' h => by cases h; exact hK⟩
  obtain ⟨f, hf⟩ := Classical.axiomOfChoice h0
  have ha : ∀ ty : FieldType, (Cond.arrayClass ty).before args s = true → ∃ c, ArrOfT s c ty ∧ s.vm.findClass ("[" ++ ty.toString) = some c := by
    intro ty h
    obtain ⟨c, k, comp, h1, h2, h3⟩ := Cond.arrayClass_spec h
    exact ⟨c, fun n z => ⟨(fun _ h => by cases h), k, h2, comp, h3⟩, h1⟩
  obtain ⟨c1, a1, b1⟩ := ha .int (hg _ ac_int)
  obtain ⟨c2, a2, b2⟩ := ha .long (hg _ ac_long)
  obtain ⟨c3, a3, b3⟩ := ha .byte (hg _ ac_byte)
  obtain ⟨c4, a4, b4⟩ := ha .boolean (hg _ ac_bool)
  obtain ⟨comp, c9, k9, e1, -, e3, e4, e5⟩ := Cond.arrayOver_spec (hts _ ao_1)
  refine ⟨(fun k => (f k).1, fun k => (f k).2), fun t => if t = 1 then c1 else if t = 2 then c2 else if t = 3 then c3 else if t = 4 then c4 else c9, fun k q h => hf k q h, fun k q h => ?_⟩
  match k, h with
  | 0, h => cases h; exact ⟨a1, b1⟩
  | 1, h => cases h; exact ⟨a2, b2⟩
  | 2, h => cases h; exact ⟨a3, b3⟩
  | 3, h => cases h; exact ⟨a4, b4⟩
  | 4, h => cases h; exact ⟨fun n z => ⟨(fun _ h => by cases h), k9, e3, comp, e4⟩, k9, comp, e3, e4, e1, e5⟩
  | k + 5, h => simp at h
