/-! all methods -/
theorem chk_all (n : Nat) (h1 : 1 ≤ n) (h2 : n ≤ 241) : chkM n = true := by
  by_cases c1 : n < 4
  · exact List.all_eq_true.mp chk_0 n (by simp; omega)
  by_cases c2 : n < 7
  · exact List.all_eq_true.mp chk_1 n (by simp; omega)
  by_cases c3 : n < 10
  · exact List.all_eq_true.mp chk_2 n (by simp; omega)
  by_cases c4 : n < 13
  · exact List.all_eq_true.mp chk_3 n (by simp; omega)
  by_cases c5 : n < 16
  · exact List.all_eq_true.mp chk_4 n (by simp; omega)
  by_cases c6 : n < 19
  · exact List.all_eq_true.mp chk_5 n (by simp; omega)
  by_cases c7 : n < 22
  · exact List.all_eq_true.mp chk_6 n (by simp; omega)
  by_cases c8 : n < 25
  · exact List.all_eq_true.mp chk_7 n (by simp; omega)
  by_cases c9 : n < 28
  · exact List.all_eq_true.mp chk_8 n (by simp; omega)
  by_cases c10 : n < 31
  · exact List.all_eq_true.mp chk_9 n (by simp; omega)
  by_cases c11 : n < 34
  · exact List.all_eq_true.mp chk_10 n (by simp; omega)
  by_cases c12 : n < 37
  · exact List.all_eq_true.mp chk_11 n (by simp; omega)
  by_cases c13 : n < 40
  · exact List.all_eq_true.mp chk_12 n (by simp; omega)
  by_cases c14 : n < 43
  · exact List.all_eq_true.mp chk_13 n (by simp; omega)
  by_cases c15 : n < 46
  · exact List.all_eq_true.mp chk_14 n (by simp; omega)
  by_cases c16 : n < 49
  · exact List.all_eq_true.mp chk_15 n (by simp; omega)
  by_cases c17 : n < 52
  · exact List.all_eq_true.mp chk_16 n (by simp; omega)
  by_cases c18 : n < 54
  · exact List.all_eq_true.mp chk_17 n (by simp; omega)
  by_cases c19 : n < 57
  · exact List.all_eq_true.mp chk_18 n (by simp; omega)
  by_cases c20 : n < 60
  · exact List.all_eq_true.mp chk_19 n (by simp; omega)
  by_cases c21 : n < 63
  · exact List.all_eq_true.mp chk_20 n (by simp; omega)
  by_cases c22 : n < 66
  · exact List.all_eq_true.mp chk_21 n (by simp; omega)
  by_cases c23 : n < 69
  · exact List.all_eq_true.mp chk_22 n (by simp; omega)
  by_cases c24 : n < 72
  · exact List.all_eq_true.mp chk_23 n (by simp; omega)
  by_cases c25 : n < 75
  · exact List.all_eq_true.mp chk_24 n (by simp; omega)
  by_cases c26 : n < 78
  · exact List.all_eq_true.mp chk_25 n (by simp; omega)
  by_cases c27 : n < 81
  · exact List.all_eq_true.mp chk_26 n (by simp; omega)
  by_cases c28 : n < 84
  · exact List.all_eq_true.mp chk_27 n (by simp; omega)
  by_cases c29 : n < 87
  · exact List.all_eq_true.mp chk_28 n (by simp; omega)
  by_cases c30 : n < 90
  · exact List.all_eq_true.mp chk_29 n (by simp; omega)
  by_cases c31 : n < 93
  · exact List.all_eq_true.mp chk_30 n (by simp; omega)
  by_cases c32 : n < 96
  · exact List.all_eq_true.mp chk_31 n (by simp; omega)
  by_cases c33 : n < 99
  · exact List.all_eq_true.mp chk_32 n (by simp; omega)
  by_cases c34 : n < 102
  · exact List.all_eq_true.mp chk_33 n (by simp; omega)
  by_cases c35 : n < 105
  · exact List.all_eq_true.mp chk_34 n (by simp; omega)
  by_cases c36 : n < 108
  · exact List.all_eq_true.mp chk_35 n (by simp; omega)
  by_cases c37 : n < 111
  · exact List.all_eq_true.mp chk_36 n (by simp; omega)
  by_cases c38 : n < 114
  · exact List.all_eq_true.mp chk_37 n (by simp; omega)
  by_cases c39 : n < 117
  · exact List.all_eq_true.mp chk_38 n (by simp; omega)
  by_cases c40 : n < 120
  · exact List.all_eq_true.mp chk_39 n (by simp; omega)
  by_cases c41 : n < 123
  · exact List.all_eq_true.mp chk_40 n (by simp; omega)
  by_cases c42 : n < 126
  · exact List.all_eq_true.mp chk_41 n (by simp; omega)
  by_cases c43 : n < 129
  · exact List.all_eq_true.mp chk_42 n (by simp; omega)
  by_cases c44 : n < 132
  · exact List.all_eq_true.mp chk_43 n (by simp; omega)
  by_cases c45 : n < 135
  · exact List.all_eq_true.mp chk_44 n (by simp; omega)
  by_cases c46 : n < 136
  · exact List.all_eq_true.mp chk_45 n (by simp; omega)
  by_cases c47 : n < 139
  · exact List.all_eq_true.mp chk_46 n (by simp; omega)
  by_cases c48 : n < 142
  · exact List.all_eq_true.mp chk_47 n (by simp; omega)
  by_cases c49 : n < 145
  · exact List.all_eq_true.mp chk_48 n (by simp; omega)
  by_cases c50 : n < 148
  · exact List.all_eq_true.mp chk_49 n (by simp; omega)
  by_cases c51 : n < 151
  · exact List.all_eq_true.mp chk_50 n (by simp; omega)
  by_cases c52 : n < 154
  · exact List.all_eq_true.mp chk_51 n (by simp; omega)
  by_cases c53 : n < 157
  · exact List.all_eq_true.mp chk_52 n (by simp; omega)
  by_cases c54 : n < 160
  · exact List.all_eq_true.mp chk_53 n (by simp; omega)
  by_cases c55 : n < 163
  · exact List.all_eq_true.mp chk_54 n (by simp; omega)
  by_cases c56 : n < 166
  · exact List.all_eq_true.mp chk_55 n (by simp; omega)
  by_cases c57 : n < 169
  · exact List.all_eq_true.mp chk_56 n (by simp; omega)
  by_cases c58 : n < 171
  · exact List.all_eq_true.mp chk_57 n (by simp; omega)
  by_cases c59 : n < 174
  · exact List.all_eq_true.mp chk_58 n (by simp; omega)
  by_cases c60 : n < 177
  · exact List.all_eq_true.mp chk_59 n (by simp; omega)
  by_cases c61 : n < 180
  · exact List.all_eq_true.mp chk_60 n (by simp; omega)
  by_cases c62 : n < 183
  · exact List.all_eq_true.mp chk_61 n (by simp; omega)
  by_cases c63 : n < 186
  · exact List.all_eq_true.mp chk_62 n (by simp; omega)
  by_cases c64 : n < 189
  · exact List.all_eq_true.mp chk_63 n (by simp; omega)
  by_cases c65 : n < 192
  · exact List.all_eq_true.mp chk_64 n (by simp; omega)
  by_cases c66 : n < 195
  · exact List.all_eq_true.mp chk_65 n (by simp; omega)
  by_cases c67 : n < 198
  · exact List.all_eq_true.mp chk_66 n (by simp; omega)
  by_cases c68 : n < 201
  · exact List.all_eq_true.mp chk_67 n (by simp; omega)
  by_cases c69 : n < 204
  · exact List.all_eq_true.mp chk_68 n (by simp; omega)
  by_cases c70 : n < 207
  · exact List.all_eq_true.mp chk_69 n (by simp; omega)
  by_cases c71 : n < 210
  · exact List.all_eq_true.mp chk_70 n (by simp; omega)
  by_cases c72 : n < 213
  · exact List.all_eq_true.mp chk_71 n (by simp; omega)
  by_cases c73 : n < 216
  · exact List.all_eq_true.mp chk_72 n (by simp; omega)
  by_cases c74 : n < 219
  · exact List.all_eq_true.mp chk_73 n (by simp; omega)
  by_cases c75 : n < 222
  · exact List.all_eq_true.mp chk_74 n (by simp; omega)
  by_cases c76 : n < 225
  · exact List.all_eq_true.mp chk_75 n (by simp; omega)
  by_cases c77 : n < 228
  · exact List.all_eq_true.mp chk_76 n (by simp; omega)
  by_cases c78 : n < 231
  · exact List.all_eq_true.mp chk_77 n (by simp; omega)
  by_cases c79 : n < 234
  · exact List.all_eq_true.mp chk_78 n (by simp; omega)
  by_cases c80 : n < 237
  · exact List.all_eq_true.mp chk_79 n (by simp; omega)
  by_cases c81 : n < 240
  · exact List.all_eq_true.mp chk_80 n (by simp; omega)
  by_cases c82 : n < 242
  · exact List.all_eq_true.mp chk_81 n (by simp; omega)
  omega
theorem kks_in : kks.all (fun q => decide (2 ≤ q.2 / 1000000 ∧ q.2 / 1000000 ≤ 241)) = true := by decide +kernel
theorem chkL_at {oc : Nat} {y : MethodName} {b : ByteArray} {L : Nat} {rt : Option FieldType} {pcs : List Nat} : ∀ (l : List Nat) (c : List ClassFile.Instr) (i : Nat) (ri : ClassFile.Instr), chkL oc y b L rt pcs l c = true → c[i]? = some ri → ∃ pc, l[i]? = some pc ∧ chkP oc y b L rt pcs pc l[i + 1]? ri = true := by
  intro l
  induction l with
  | nil =>
    intro c i ri h hc
    cases c with
    | nil => simp at hc
    | cons x r => simp [chkL] at h
  | cons pc r ih =>
    intro c i ri h hc
    cases c with
    | nil => simp at hc
    | cons x c =>
      simp only [chkL, Bool.and_eq_true] at h
      cases i with
      | zero =>
        simp only [List.getElem?_cons_zero, Option.some.injEq] at hc
        subst hc
        refine ⟨pc, rfl, ?_⟩
        have e : (pc :: r)[0 + 1]? = r.head? := by cases r <;> rfl
        rw [e]
        exact h.1
      | succ i =>
        simp only [List.getElem?_cons_succ] at hc ⊢
        exact ih c i ri h.2 hc
