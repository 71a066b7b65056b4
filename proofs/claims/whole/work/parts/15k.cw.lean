/-! the code words, method by method -/
def cwOk (n : Nat) : Prop := match minf n with
  | (_, y, b, L, rt, ws, _) => wAt (ws.getD 0 0) = some (.code y b L rt)
set_option maxRecDepth 100000 in
theorem cw_2 : cwOk 2 := rfl
set_option maxRecDepth 100000 in
theorem cw_3 : cwOk 3 := rfl
set_option maxRecDepth 100000 in
theorem cw_4 : cwOk 4 := rfl
set_option maxRecDepth 100000 in
theorem cw_5 : cwOk 5 := rfl
set_option maxRecDepth 100000 in
theorem cw_6 : cwOk 6 := rfl
set_option maxRecDepth 100000 in
theorem cw_7 : cwOk 7 := rfl
set_option maxRecDepth 100000 in
theorem cw_8 : cwOk 8 := rfl
set_option maxRecDepth 100000 in
theorem cw_9 : cwOk 9 := rfl
set_option maxRecDepth 100000 in
theorem cw_10 : cwOk 10 := rfl
set_option maxRecDepth 100000 in
theorem cw_11 : cwOk 11 := rfl
set_option maxRecDepth 100000 in
theorem cw_12 : cwOk 12 := rfl
set_option maxRecDepth 100000 in
theorem cw_13 : cwOk 13 := rfl
set_option maxRecDepth 100000 in
theorem cw_14 : cwOk 14 := rfl
set_option maxRecDepth 100000 in
theorem cw_15 : cwOk 15 := rfl
set_option maxRecDepth 100000 in
theorem cw_16 : cwOk 16 := rfl
set_option maxRecDepth 100000 in
theorem cw_17 : cwOk 17 := rfl
set_option maxRecDepth 100000 in
theorem cw_18 : cwOk 18 := rfl
set_option maxRecDepth 100000 in
theorem cw_19 : cwOk 19 := rfl
set_option maxRecDepth 100000 in
theorem cw_20 : cwOk 20 := rfl
set_option maxRecDepth 100000 in
theorem cw_21 : cwOk 21 := rfl
set_option maxRecDepth 100000 in
theorem cw_22 : cwOk 22 := rfl
set_option maxRecDepth 100000 in
theorem cw_23 : cwOk 23 := rfl
set_option maxRecDepth 100000 in
theorem cw_24 : cwOk 24 := rfl
set_option maxRecDepth 100000 in
theorem cw_25 : cwOk 25 := rfl
set_option maxRecDepth 100000 in
theorem cw_26 : cwOk 26 := rfl
set_option maxRecDepth 100000 in
theorem cw_27 : cwOk 27 := rfl
set_option maxRecDepth 100000 in
theorem cw_28 : cwOk 28 := rfl
set_option maxRecDepth 100000 in
theorem cw_29 : cwOk 29 := rfl
set_option maxRecDepth 100000 in
theorem cw_30 : cwOk 30 := rfl
set_option maxRecDepth 100000 in
theorem cw_31 : cwOk 31 := rfl
set_option maxRecDepth 100000 in
theorem cw_32 : cwOk 32 := rfl
set_option maxRecDepth 100000 in
theorem cw_33 : cwOk 33 := rfl
set_option maxRecDepth 100000 in
theorem cw_34 : cwOk 34 := rfl
set_option maxRecDepth 100000 in
theorem cw_35 : cwOk 35 := rfl
set_option maxRecDepth 100000 in
theorem cw_36 : cwOk 36 := rfl
set_option maxRecDepth 100000 in
theorem cw_37 : cwOk 37 := rfl
set_option maxRecDepth 100000 in
theorem cw_38 : cwOk 38 := rfl
set_option maxRecDepth 100000 in
theorem cw_39 : cwOk 39 := rfl
set_option maxRecDepth 100000 in
theorem cw_40 : cwOk 40 := rfl
set_option maxRecDepth 100000 in
theorem cw_41 : cwOk 41 := rfl
set_option maxRecDepth 100000 in
theorem cw_42 : cwOk 42 := rfl
set_option maxRecDepth 100000 in
theorem cw_43 : cwOk 43 := rfl
set_option maxRecDepth 100000 in
theorem cw_44 : cwOk 44 := rfl
set_option maxRecDepth 100000 in
theorem cw_45 : cwOk 45 := rfl
set_option maxRecDepth 100000 in
theorem cw_46 : cwOk 46 := rfl
set_option maxRecDepth 100000 in
theorem cw_47 : cwOk 47 := rfl
set_option maxRecDepth 100000 in
theorem cw_48 : cwOk 48 := rfl
set_option maxRecDepth 100000 in
theorem cw_49 : cwOk 49 := rfl
set_option maxRecDepth 100000 in
theorem cw_50 : cwOk 50 := rfl
set_option maxRecDepth 100000 in
theorem cw_51 : cwOk 51 := rfl
set_option maxRecDepth 100000 in
theorem cw_52 : cwOk 52 := rfl
set_option maxRecDepth 100000 in
theorem cw_53 : cwOk 53 := rfl
set_option maxRecDepth 100000 in
theorem cw_54 : cwOk 54 := rfl
set_option maxRecDepth 100000 in
theorem cw_55 : cwOk 55 := rfl
set_option maxRecDepth 100000 in
theorem cw_56 : cwOk 56 := rfl
set_option maxRecDepth 100000 in
theorem cw_57 : cwOk 57 := rfl
set_option maxRecDepth 100000 in
theorem cw_58 : cwOk 58 := rfl
set_option maxRecDepth 100000 in
theorem cw_59 : cwOk 59 := rfl
set_option maxRecDepth 100000 in
theorem cw_60 : cwOk 60 := rfl
set_option maxRecDepth 100000 in
theorem cw_61 : cwOk 61 := rfl
set_option maxRecDepth 100000 in
theorem cw_62 : cwOk 62 := rfl
set_option maxRecDepth 100000 in
theorem cw_63 : cwOk 63 := rfl
set_option maxRecDepth 100000 in
theorem cw_64 : cwOk 64 := rfl
set_option maxRecDepth 100000 in
theorem cw_65 : cwOk 65 := rfl
set_option maxRecDepth 100000 in
theorem cw_66 : cwOk 66 := rfl
set_option maxRecDepth 100000 in
theorem cw_67 : cwOk 67 := rfl
set_option maxRecDepth 100000 in
theorem cw_68 : cwOk 68 := rfl
set_option maxRecDepth 100000 in
theorem cw_69 : cwOk 69 := rfl
set_option maxRecDepth 100000 in
theorem cw_70 : cwOk 70 := rfl
set_option maxRecDepth 100000 in
theorem cw_71 : cwOk 71 := rfl
set_option maxRecDepth 100000 in
theorem cw_72 : cwOk 72 := rfl
set_option maxRecDepth 100000 in
theorem cw_73 : cwOk 73 := rfl
set_option maxRecDepth 100000 in
theorem cw_74 : cwOk 74 := rfl
set_option maxRecDepth 100000 in
theorem cw_75 : cwOk 75 := rfl
set_option maxRecDepth 100000 in
theorem cw_76 : cwOk 76 := rfl
set_option maxRecDepth 100000 in
theorem cw_77 : cwOk 77 := rfl
set_option maxRecDepth 100000 in
theorem cw_78 : cwOk 78 := rfl
set_option maxRecDepth 100000 in
theorem cw_79 : cwOk 79 := rfl
set_option maxRecDepth 100000 in
theorem cw_80 : cwOk 80 := rfl
set_option maxRecDepth 100000 in
theorem cw_81 : cwOk 81 := rfl
set_option maxRecDepth 100000 in
theorem cw_82 : cwOk 82 := rfl
set_option maxRecDepth 100000 in
theorem cw_83 : cwOk 83 := rfl
set_option maxRecDepth 100000 in
theorem cw_84 : cwOk 84 := rfl
set_option maxRecDepth 100000 in
theorem cw_85 : cwOk 85 := rfl
set_option maxRecDepth 100000 in
theorem cw_86 : cwOk 86 := rfl
set_option maxRecDepth 100000 in
theorem cw_87 : cwOk 87 := rfl
set_option maxRecDepth 100000 in
theorem cw_88 : cwOk 88 := rfl
set_option maxRecDepth 100000 in
theorem cw_89 : cwOk 89 := rfl
set_option maxRecDepth 100000 in
theorem cw_90 : cwOk 90 := rfl
set_option maxRecDepth 100000 in
theorem cw_91 : cwOk 91 := rfl
set_option maxRecDepth 100000 in
theorem cw_92 : cwOk 92 := rfl
set_option maxRecDepth 100000 in
theorem cw_93 : cwOk 93 := rfl
set_option maxRecDepth 100000 in
theorem cw_94 : cwOk 94 := rfl
set_option maxRecDepth 100000 in
theorem cw_95 : cwOk 95 := rfl
set_option maxRecDepth 100000 in
theorem cw_96 : cwOk 96 := rfl
set_option maxRecDepth 100000 in
theorem cw_97 : cwOk 97 := rfl
set_option maxRecDepth 100000 in
theorem cw_98 : cwOk 98 := rfl
set_option maxRecDepth 100000 in
theorem cw_99 : cwOk 99 := rfl
set_option maxRecDepth 100000 in
theorem cw_100 : cwOk 100 := rfl
set_option maxRecDepth 100000 in
theorem cw_101 : cwOk 101 := rfl
set_option maxRecDepth 100000 in
theorem cw_102 : cwOk 102 := rfl
set_option maxRecDepth 100000 in
theorem cw_103 : cwOk 103 := rfl
set_option maxRecDepth 100000 in
theorem cw_104 : cwOk 104 := rfl
set_option maxRecDepth 100000 in
theorem cw_105 : cwOk 105 := rfl
set_option maxRecDepth 100000 in
theorem cw_106 : cwOk 106 := rfl
set_option maxRecDepth 100000 in
theorem cw_107 : cwOk 107 := rfl
set_option maxRecDepth 100000 in
theorem cw_108 : cwOk 108 := rfl
set_option maxRecDepth 100000 in
theorem cw_109 : cwOk 109 := rfl
set_option maxRecDepth 100000 in
theorem cw_110 : cwOk 110 := rfl
set_option maxRecDepth 100000 in
theorem cw_111 : cwOk 111 := rfl
set_option maxRecDepth 100000 in
theorem cw_112 : cwOk 112 := rfl
set_option maxRecDepth 100000 in
theorem cw_113 : cwOk 113 := rfl
set_option maxRecDepth 100000 in
theorem cw_114 : cwOk 114 := rfl
set_option maxRecDepth 100000 in
theorem cw_115 : cwOk 115 := rfl
set_option maxRecDepth 100000 in
theorem cw_116 : cwOk 116 := rfl
set_option maxRecDepth 100000 in
theorem cw_117 : cwOk 117 := rfl
set_option maxRecDepth 100000 in
theorem cw_118 : cwOk 118 := rfl
set_option maxRecDepth 100000 in
theorem cw_119 : cwOk 119 := rfl
set_option maxRecDepth 100000 in
theorem cw_120 : cwOk 120 := rfl
set_option maxRecDepth 100000 in
theorem cw_121 : cwOk 121 := rfl
set_option maxRecDepth 100000 in
theorem cw_122 : cwOk 122 := rfl
set_option maxRecDepth 100000 in
theorem cw_123 : cwOk 123 := rfl
set_option maxRecDepth 100000 in
theorem cw_124 : cwOk 124 := rfl
set_option maxRecDepth 100000 in
theorem cw_125 : cwOk 125 := rfl
set_option maxRecDepth 100000 in
theorem cw_126 : cwOk 126 := rfl
set_option maxRecDepth 100000 in
theorem cw_127 : cwOk 127 := rfl
set_option maxRecDepth 100000 in
theorem cw_128 : cwOk 128 := rfl
set_option maxRecDepth 100000 in
theorem cw_129 : cwOk 129 := rfl
set_option maxRecDepth 100000 in
theorem cw_130 : cwOk 130 := rfl
set_option maxRecDepth 100000 in
theorem cw_131 : cwOk 131 := rfl
set_option maxRecDepth 100000 in
theorem cw_132 : cwOk 132 := rfl
set_option maxRecDepth 100000 in
theorem cw_133 : cwOk 133 := rfl
set_option maxRecDepth 100000 in
theorem cw_134 : cwOk 134 := rfl
set_option maxRecDepth 100000 in
theorem cw_135 : cwOk 135 := rfl
set_option maxRecDepth 100000 in
theorem cw_136 : cwOk 136 := rfl
set_option maxRecDepth 100000 in
theorem cw_137 : cwOk 137 := rfl
set_option maxRecDepth 100000 in
theorem cw_138 : cwOk 138 := rfl
set_option maxRecDepth 100000 in
theorem cw_139 : cwOk 139 := rfl
set_option maxRecDepth 100000 in
theorem cw_140 : cwOk 140 := rfl
set_option maxRecDepth 100000 in
theorem cw_141 : cwOk 141 := rfl
set_option maxRecDepth 100000 in
theorem cw_142 : cwOk 142 := rfl
set_option maxRecDepth 100000 in
theorem cw_143 : cwOk 143 := rfl
set_option maxRecDepth 100000 in
theorem cw_144 : cwOk 144 := rfl
set_option maxRecDepth 100000 in
theorem cw_145 : cwOk 145 := rfl
set_option maxRecDepth 100000 in
theorem cw_146 : cwOk 146 := rfl
set_option maxRecDepth 100000 in
theorem cw_147 : cwOk 147 := rfl
set_option maxRecDepth 100000 in
theorem cw_148 : cwOk 148 := rfl
set_option maxRecDepth 100000 in
theorem cw_149 : cwOk 149 := rfl
set_option maxRecDepth 100000 in
theorem cw_150 : cwOk 150 := rfl
set_option maxRecDepth 100000 in
theorem cw_151 : cwOk 151 := rfl
set_option maxRecDepth 100000 in
theorem cw_152 : cwOk 152 := rfl
set_option maxRecDepth 100000 in
theorem cw_153 : cwOk 153 := rfl
set_option maxRecDepth 100000 in
theorem cw_154 : cwOk 154 := rfl
set_option maxRecDepth 100000 in
theorem cw_155 : cwOk 155 := rfl
set_option maxRecDepth 100000 in
theorem cw_156 : cwOk 156 := rfl
set_option maxRecDepth 100000 in
theorem cw_157 : cwOk 157 := rfl
set_option maxRecDepth 100000 in
theorem cw_158 : cwOk 158 := rfl
set_option maxRecDepth 100000 in
theorem cw_159 : cwOk 159 := rfl
set_option maxRecDepth 100000 in
theorem cw_160 : cwOk 160 := rfl
set_option maxRecDepth 100000 in
theorem cw_161 : cwOk 161 := rfl
set_option maxRecDepth 100000 in
theorem cw_162 : cwOk 162 := rfl
set_option maxRecDepth 100000 in
theorem cw_163 : cwOk 163 := rfl
set_option maxRecDepth 100000 in
theorem cw_164 : cwOk 164 := rfl
set_option maxRecDepth 100000 in
theorem cw_165 : cwOk 165 := rfl
set_option maxRecDepth 100000 in
theorem cw_166 : cwOk 166 := rfl
set_option maxRecDepth 100000 in
theorem cw_167 : cwOk 167 := rfl
set_option maxRecDepth 100000 in
theorem cw_168 : cwOk 168 := rfl
set_option maxRecDepth 100000 in
theorem cw_169 : cwOk 169 := rfl
set_option maxRecDepth 100000 in
theorem cw_170 : cwOk 170 := rfl
set_option maxRecDepth 100000 in
theorem cw_171 : cwOk 171 := rfl
set_option maxRecDepth 100000 in
theorem cw_172 : cwOk 172 := rfl
set_option maxRecDepth 100000 in
theorem cw_173 : cwOk 173 := rfl
set_option maxRecDepth 100000 in
theorem cw_174 : cwOk 174 := rfl
set_option maxRecDepth 100000 in
theorem cw_175 : cwOk 175 := rfl
set_option maxRecDepth 100000 in
theorem cw_176 : cwOk 176 := rfl
set_option maxRecDepth 100000 in
theorem cw_177 : cwOk 177 := rfl
set_option maxRecDepth 100000 in
theorem cw_178 : cwOk 178 := rfl
set_option maxRecDepth 100000 in
theorem cw_179 : cwOk 179 := rfl
set_option maxRecDepth 100000 in
theorem cw_180 : cwOk 180 := rfl
set_option maxRecDepth 100000 in
theorem cw_181 : cwOk 181 := rfl
set_option maxRecDepth 100000 in
theorem cw_182 : cwOk 182 := rfl
set_option maxRecDepth 100000 in
theorem cw_183 : cwOk 183 := rfl
set_option maxRecDepth 100000 in
theorem cw_184 : cwOk 184 := rfl
set_option maxRecDepth 100000 in
theorem cw_185 : cwOk 185 := rfl
set_option maxRecDepth 100000 in
theorem cw_186 : cwOk 186 := rfl
set_option maxRecDepth 100000 in
theorem cw_187 : cwOk 187 := rfl
set_option maxRecDepth 100000 in
theorem cw_188 : cwOk 188 := rfl
set_option maxRecDepth 100000 in
theorem cw_189 : cwOk 189 := rfl
set_option maxRecDepth 100000 in
theorem cw_190 : cwOk 190 := rfl
set_option maxRecDepth 100000 in
theorem cw_191 : cwOk 191 := rfl
set_option maxRecDepth 100000 in
theorem cw_192 : cwOk 192 := rfl
set_option maxRecDepth 100000 in
theorem cw_193 : cwOk 193 := rfl
set_option maxRecDepth 100000 in
theorem cw_194 : cwOk 194 := rfl
set_option maxRecDepth 100000 in
theorem cw_195 : cwOk 195 := rfl
set_option maxRecDepth 100000 in
theorem cw_196 : cwOk 196 := rfl
set_option maxRecDepth 100000 in
theorem cw_197 : cwOk 197 := rfl
set_option maxRecDepth 100000 in
theorem cw_198 : cwOk 198 := rfl
set_option maxRecDepth 100000 in
theorem cw_199 : cwOk 199 := rfl
set_option maxRecDepth 100000 in
theorem cw_200 : cwOk 200 := rfl
set_option maxRecDepth 100000 in
theorem cw_201 : cwOk 201 := rfl
set_option maxRecDepth 100000 in
theorem cw_202 : cwOk 202 := rfl
set_option maxRecDepth 100000 in
theorem cw_203 : cwOk 203 := rfl
set_option maxRecDepth 100000 in
theorem cw_204 : cwOk 204 := rfl
set_option maxRecDepth 100000 in
theorem cw_205 : cwOk 205 := rfl
set_option maxRecDepth 100000 in
theorem cw_206 : cwOk 206 := rfl
set_option maxRecDepth 100000 in
theorem cw_207 : cwOk 207 := rfl
set_option maxRecDepth 100000 in
theorem cw_208 : cwOk 208 := rfl
set_option maxRecDepth 100000 in
theorem cw_209 : cwOk 209 := rfl
set_option maxRecDepth 100000 in
theorem cw_210 : cwOk 210 := rfl
set_option maxRecDepth 100000 in
theorem cw_211 : cwOk 211 := rfl
set_option maxRecDepth 100000 in
theorem cw_212 : cwOk 212 := rfl
set_option maxRecDepth 100000 in
theorem cw_213 : cwOk 213 := rfl
set_option maxRecDepth 100000 in
theorem cw_214 : cwOk 214 := rfl
set_option maxRecDepth 100000 in
theorem cw_215 : cwOk 215 := rfl
set_option maxRecDepth 100000 in
theorem cw_216 : cwOk 216 := rfl
set_option maxRecDepth 100000 in
theorem cw_217 : cwOk 217 := rfl
set_option maxRecDepth 100000 in
theorem cw_218 : cwOk 218 := rfl
set_option maxRecDepth 100000 in
theorem cw_219 : cwOk 219 := rfl
set_option maxRecDepth 100000 in
theorem cw_220 : cwOk 220 := rfl
set_option maxRecDepth 100000 in
theorem cw_221 : cwOk 221 := rfl
set_option maxRecDepth 100000 in
theorem cw_222 : cwOk 222 := rfl
set_option maxRecDepth 100000 in
theorem cw_223 : cwOk 223 := rfl
set_option maxRecDepth 100000 in
theorem cw_224 : cwOk 224 := rfl
set_option maxRecDepth 100000 in
theorem cw_225 : cwOk 225 := rfl
set_option maxRecDepth 100000 in
theorem cw_226 : cwOk 226 := rfl
set_option maxRecDepth 100000 in
theorem cw_227 : cwOk 227 := rfl
set_option maxRecDepth 100000 in
theorem cw_228 : cwOk 228 := rfl
set_option maxRecDepth 100000 in
theorem cw_229 : cwOk 229 := rfl
set_option maxRecDepth 100000 in
theorem cw_230 : cwOk 230 := rfl
set_option maxRecDepth 100000 in
theorem cw_231 : cwOk 231 := rfl
set_option maxRecDepth 100000 in
theorem cw_232 : cwOk 232 := rfl
set_option maxRecDepth 100000 in
theorem cw_233 : cwOk 233 := rfl
set_option maxRecDepth 100000 in
theorem cw_234 : cwOk 234 := rfl
set_option maxRecDepth 100000 in
theorem cw_235 : cwOk 235 := rfl
set_option maxRecDepth 100000 in
theorem cw_236 : cwOk 236 := rfl
set_option maxRecDepth 100000 in
theorem cw_237 : cwOk 237 := rfl
set_option maxRecDepth 100000 in
theorem cw_238 : cwOk 238 := rfl
set_option maxRecDepth 100000 in
theorem cw_239 : cwOk 239 := rfl
set_option maxRecDepth 100000 in
theorem cw_240 : cwOk 240 := rfl
set_option maxRecDepth 100000 in
theorem cw_241 : cwOk 241 := rfl
theorem cwl_0 : ∀ n ∈ [2, 3, 4, 5, 6, 7, 8, 9, 10, 11, 12, 13, 14, 15, 16, 17, 18, 19, 20, 21, 22, 23, 24, 25, 26, 27, 28, 29, 30, 31, 32, 33, 34, 35, 36, 37, 38, 39, 40, 41], cwOk n := List.forall_mem_cons.mpr ⟨cw_2, List.forall_mem_cons.mpr ⟨cw_3, List.forall_mem_cons.mpr ⟨cw_4, List.forall_mem_cons.mpr ⟨cw_5, List.forall_mem_cons.mpr ⟨cw_6, List.forall_mem_cons.mpr ⟨cw_7, List.forall_mem_cons.mpr ⟨cw_8, List.forall_mem_cons.mpr ⟨cw_9, List.forall_mem_cons.mpr ⟨cw_10, List.forall_mem_cons.mpr ⟨cw_11, List.forall_mem_cons.mpr ⟨cw_12, List.forall_mem_cons.mpr ⟨cw_13, List.forall_mem_cons.mpr ⟨cw_14, List.forall_mem_cons.mpr ⟨cw_15, List.forall_mem_cons.mpr ⟨cw_16, List.forall_mem_cons.mpr ⟨cw_17, List.forall_mem_cons.mpr ⟨cw_18, List.forall_mem_cons.mpr ⟨cw_19, List.forall_mem_cons.mpr ⟨cw_20, List.forall_mem_cons.mpr ⟨cw_21, List.forall_mem_cons.mpr ⟨cw_22, List.forall_mem_cons.mpr ⟨cw_23, List.forall_mem_cons.mpr ⟨cw_24, List.forall_mem_cons.mpr ⟨cw_25, List.forall_mem_cons.mpr ⟨cw_26, List.forall_mem_cons.mpr ⟨cw_27, List.forall_mem_cons.mpr ⟨cw_28, List.forall_mem_cons.mpr ⟨cw_29, List.forall_mem_cons.mpr ⟨cw_30, List.forall_mem_cons.mpr ⟨cw_31, List.forall_mem_cons.mpr ⟨cw_32, List.forall_mem_cons.mpr ⟨cw_33, List.forall_mem_cons.mpr ⟨cw_34, List.forall_mem_cons.mpr ⟨cw_35, List.forall_mem_cons.mpr ⟨cw_36, List.forall_mem_cons.mpr ⟨cw_37, List.forall_mem_cons.mpr ⟨cw_38, List.forall_mem_cons.mpr ⟨cw_39, List.forall_mem_cons.mpr ⟨cw_40, List.forall_mem_cons.mpr ⟨cw_41, fun _ h => absurd h List.not_mem_nil⟩⟩⟩⟩⟩⟩⟩⟩⟩⟩⟩⟩⟩⟩⟩⟩⟩⟩⟩⟩⟩⟩⟩⟩⟩⟩⟩⟩⟩⟩⟩⟩⟩⟩⟩⟩⟩⟩⟩⟩
theorem cwl_1 : ∀ n ∈ [42, 43, 44, 45, 46, 47, 48, 49, 50, 51, 52, 53, 54, 55, 56, 57, 58, 59, 60, 61, 62, 63, 64, 65, 66, 67, 68, 69, 70, 71, 72, 73, 74, 75, 76, 77, 78, 79, 80, 81], cwOk n := List.forall_mem_cons.mpr ⟨cw_42, List.forall_mem_cons.mpr ⟨cw_43, List.forall_mem_cons.mpr ⟨cw_44, List.forall_mem_cons.mpr ⟨cw_45, List.forall_mem_cons.mpr ⟨cw_46, List.forall_mem_cons.mpr ⟨cw_47, List.forall_mem_cons.mpr ⟨cw_48, List.forall_mem_cons.mpr ⟨cw_49, List.forall_mem_cons.mpr ⟨cw_50, List.forall_mem_cons.mpr ⟨cw_51, List.forall_mem_cons.mpr ⟨cw_52, List.forall_mem_cons.mpr ⟨cw_53, List.forall_mem_cons.mpr ⟨cw_54, List.forall_mem_cons.mpr ⟨cw_55, List.forall_mem_cons.mpr ⟨cw_56, List.forall_mem_cons.mpr ⟨cw_57, List.forall_mem_cons.mpr ⟨cw_58, List.forall_mem_cons.mpr ⟨cw_59, List.forall_mem_cons.mpr ⟨cw_60, List.forall_mem_cons.mpr ⟨cw_61, List.forall_mem_cons.mpr ⟨cw_62, List.forall_mem_cons.mpr ⟨cw_63, List.forall_mem_cons.mpr ⟨cw_64, List.forall_mem_cons.mpr ⟨cw_65, List.forall_mem_cons.mpr ⟨cw_66, List.forall_mem_cons.mpr ⟨cw_67, List.forall_mem_cons.mpr ⟨cw_68, List.forall_mem_cons.mpr ⟨cw_69, List.forall_mem_cons.mpr ⟨cw_70, List.forall_mem_cons.mpr ⟨cw_71, List.forall_mem_cons.mpr ⟨cw_72, List.forall_mem_cons.mpr ⟨cw_73, List.forall_mem_cons.mpr ⟨cw_74, List.forall_mem_cons.mpr ⟨cw_75, List.forall_mem_cons.mpr ⟨cw_76, List.forall_mem_cons.mpr ⟨cw_77, List.forall_mem_cons.mpr ⟨cw_78, List.forall_mem_cons.mpr ⟨cw_79, List.forall_mem_cons.mpr ⟨cw_80, List.forall_mem_cons.mpr ⟨cw_81, fun _ h => absurd h List.not_mem_nil⟩⟩⟩⟩⟩⟩⟩⟩⟩⟩⟩⟩⟩⟩⟩⟩⟩⟩⟩⟩⟩⟩⟩⟩⟩⟩⟩⟩⟩⟩⟩⟩⟩⟩⟩⟩⟩⟩⟩⟩
theorem cwl_2 : ∀ n ∈ [82, 83, 84, 85, 86, 87, 88, 89, 90, 91, 92, 93, 94, 95, 96, 97, 98, 99, 100, 101, 102, 103, 104, 105, 106, 107, 108, 109, 110, 111, 112, 113, 114, 115, 116, 117, 118, 119, 120, 121], cwOk n := List.forall_mem_cons.mpr ⟨cw_82, List.forall_mem_cons.mpr ⟨cw_83, List.forall_mem_cons.mpr ⟨cw_84, List.forall_mem_cons.mpr ⟨cw_85, List.forall_mem_cons.mpr ⟨cw_86, List.forall_mem_cons.mpr ⟨cw_87, List.forall_mem_cons.mpr ⟨cw_88, List.forall_mem_cons.mpr ⟨cw_89, List.forall_mem_cons.mpr ⟨cw_90, List.forall_mem_cons.mpr ⟨cw_91, List.forall_mem_cons.mpr ⟨cw_92, List.forall_mem_cons.mpr ⟨cw_93, List.forall_mem_cons.mpr ⟨cw_94, List.forall_mem_cons.mpr ⟨cw_95, List.forall_mem_cons.mpr ⟨cw_96, List.forall_mem_cons.mpr ⟨cw_97, List.forall_mem_cons.mpr ⟨cw_98, List.forall_mem_cons.mpr ⟨cw_99, List.forall_mem_cons.mpr ⟨cw_100, List.forall_mem_cons.mpr ⟨cw_101, List.forall_mem_cons.mpr ⟨cw_102, List.forall_mem_cons.mpr ⟨cw_103, List.forall_mem_cons.mpr ⟨cw_104, List.forall_mem_cons.mpr ⟨cw_105, List.forall_mem_cons.mpr ⟨cw_106, List.forall_mem_cons.mpr ⟨cw_107, List.forall_mem_cons.mpr ⟨cw_108, List.forall_mem_cons.mpr ⟨cw_109, List.forall_mem_cons.mpr ⟨cw_110, List.forall_mem_cons.mpr ⟨cw_111, List.forall_mem_cons.mpr ⟨cw_112, List.forall_mem_cons.mpr ⟨cw_113, List.forall_mem_cons.mpr ⟨cw_114, List.forall_mem_cons.mpr ⟨cw_115, List.forall_mem_cons.mpr ⟨cw_116, List.forall_mem_cons.mpr ⟨cw_117, List.forall_mem_cons.mpr ⟨cw_118, List.forall_mem_cons.mpr ⟨cw_119, List.forall_mem_cons.mpr ⟨cw_120, List.forall_mem_cons.mpr ⟨cw_121, fun _ h => absurd h List.not_mem_nil⟩⟩⟩⟩⟩⟩⟩⟩⟩⟩⟩⟩⟩⟩⟩⟩⟩⟩⟩⟩⟩⟩⟩⟩⟩⟩⟩⟩⟩⟩⟩⟩⟩⟩⟩⟩⟩⟩⟩⟩
theorem cwl_3 : ∀ n ∈ [122, 123, 124, 125, 126, 127, 128, 129, 130, 131, 132, 133, 134, 135, 136, 137, 138, 139, 140, 141, 142, 143, 144, 145, 146, 147, 148, 149, 150, 151, 152, 153, 154, 155, 156, 157, 158, 159, 160, 161], cwOk n := List.forall_mem_cons.mpr ⟨cw_122, List.forall_mem_cons.mpr ⟨cw_123, List.forall_mem_cons.mpr ⟨cw_124, List.forall_mem_cons.mpr ⟨cw_125, List.forall_mem_cons.mpr ⟨cw_126, List.forall_mem_cons.mpr ⟨cw_127, List.forall_mem_cons.mpr ⟨cw_128, List.forall_mem_cons.mpr ⟨cw_129, List.forall_mem_cons.mpr ⟨cw_130, List.forall_mem_cons.mpr ⟨cw_131, List.forall_mem_cons.mpr ⟨cw_132, List.forall_mem_cons.mpr ⟨cw_133, List.forall_mem_cons.mpr ⟨cw_134, List.forall_mem_cons.mpr ⟨cw_135, List.forall_mem_cons.mpr ⟨cw_136, List.forall_mem_cons.mpr ⟨cw_137, List.forall_mem_cons.mpr ⟨cw_138, List.forall_mem_cons.mpr ⟨cw_139, List.forall_mem_cons.mpr ⟨cw_140, List.forall_mem_cons.mpr ⟨cw_141, List.forall_mem_cons.mpr ⟨cw_142, List.forall_mem_cons.mpr ⟨cw_143, List.forall_mem_cons.mpr ⟨cw_144, List.forall_mem_cons.mpr ⟨cw_145, List.forall_mem_cons.mpr ⟨cw_146, List.forall_mem_cons.mpr ⟨cw_147, List.forall_mem_cons.mpr ⟨cw_148, List.forall_mem_cons.mpr ⟨cw_149, List.forall_mem_cons.mpr ⟨cw_150, List.forall_mem_cons.mpr ⟨cw_151, List.forall_mem_cons.mpr ⟨cw_152, List.forall_mem_cons.mpr ⟨cw_153, List.forall_mem_cons.mpr ⟨cw_154, List.forall_mem_cons.mpr ⟨cw_155, List.forall_mem_cons.mpr ⟨cw_156, List.forall_mem_cons.mpr ⟨cw_157, List.forall_mem_cons.mpr ⟨cw_158, List.forall_mem_cons.mpr ⟨cw_159, List.forall_mem_cons.mpr ⟨cw_160, List.forall_mem_cons.mpr ⟨cw_161, fun _ h => absurd h List.not_mem_nil⟩⟩⟩⟩⟩⟩⟩⟩⟩⟩⟩⟩⟩⟩⟩⟩⟩⟩⟩⟩⟩⟩⟩⟩⟩⟩⟩⟩⟩⟩⟩⟩⟩⟩⟩⟩⟩⟩⟩⟩
theorem cwl_4 : ∀ n ∈ [162, 163, 164, 165, 166, 167, 168, 169, 170, 171, 172, 173, 174, 175, 176, 177, 178, 179, 180, 181, 182, 183, 184, 185, 186, 187, 188, 189, 190, 191, 192, 193, 194, 195, 196, 197, 198, 199, 200, 201], cwOk n := List.forall_mem_cons.mpr ⟨cw_162, List.forall_mem_cons.mpr ⟨cw_163, List.forall_mem_cons.mpr ⟨cw_164, List.forall_mem_cons.mpr ⟨cw_165, List.forall_mem_cons.mpr ⟨cw_166, List.forall_mem_cons.mpr ⟨cw_167, List.forall_mem_cons.mpr ⟨cw_168, List.forall_mem_cons.mpr ⟨cw_169, List.forall_mem_cons.mpr ⟨cw_170, List.forall_mem_cons.mpr ⟨cw_171, List.forall_mem_cons.mpr ⟨cw_172, List.forall_mem_cons.mpr ⟨cw_173, List.forall_mem_cons.mpr ⟨cw_174, List.forall_mem_cons.mpr ⟨cw_175, List.forall_mem_cons.mpr ⟨cw_176, List.forall_mem_cons.mpr ⟨cw_177, List.forall_mem_cons.mpr ⟨cw_178, List.forall_mem_cons.mpr ⟨cw_179, List.forall_mem_cons.mpr ⟨cw_180, List.forall_mem_cons.mpr ⟨cw_181, List.forall_mem_cons.mpr ⟨cw_182, List.forall_mem_cons.mpr ⟨cw_183, List.forall_mem_cons.mpr ⟨cw_184, List.forall_mem_cons.mpr ⟨cw_185, List.forall_mem_cons.mpr ⟨cw_186, List.forall_mem_cons.mpr ⟨cw_187, List.forall_mem_cons.mpr ⟨cw_188, List.forall_mem_cons.mpr ⟨cw_189, List.forall_mem_cons.mpr ⟨cw_190, List.forall_mem_cons.mpr ⟨cw_191, List.forall_mem_cons.mpr ⟨cw_192, List.forall_mem_cons.mpr ⟨cw_193, List.forall_mem_cons.mpr ⟨cw_194, List.forall_mem_cons.mpr ⟨cw_195, List.forall_mem_cons.mpr ⟨cw_196, List.forall_mem_cons.mpr ⟨cw_197, List.forall_mem_cons.mpr ⟨cw_198, List.forall_mem_cons.mpr ⟨cw_199, List.forall_mem_cons.mpr ⟨cw_200, List.forall_mem_cons.mpr ⟨cw_201, fun _ h => absurd h List.not_mem_nil⟩⟩⟩⟩⟩⟩⟩⟩⟩⟩⟩⟩⟩⟩⟩⟩⟩⟩⟩⟩⟩⟩⟩⟩⟩⟩⟩⟩⟩⟩⟩⟩⟩⟩⟩⟩⟩⟩⟩⟩
theorem cwl_5 : ∀ n ∈ [202, 203, 204, 205, 206, 207, 208, 209, 210, 211, 212, 213, 214, 215, 216, 217, 218, 219, 220, 221, 222, 223, 224, 225, 226, 227, 228, 229, 230, 231, 232, 233, 234, 235, 236, 237, 238, 239, 240, 241], cwOk n := List.forall_mem_cons.mpr ⟨cw_202, List.forall_mem_cons.mpr ⟨cw_203, List.forall_mem_cons.mpr ⟨cw_204, List.forall_mem_cons.mpr ⟨cw_205, List.forall_mem_cons.mpr ⟨cw_206, List.forall_mem_cons.mpr ⟨cw_207, List.forall_mem_cons.mpr ⟨cw_208, List.forall_mem_cons.mpr ⟨cw_209, List.forall_mem_cons.mpr ⟨cw_210, List.forall_mem_cons.mpr ⟨cw_211, List.forall_mem_cons.mpr ⟨cw_212, List.forall_mem_cons.mpr ⟨cw_213, List.forall_mem_cons.mpr ⟨cw_214, List.forall_mem_cons.mpr ⟨cw_215, List.forall_mem_cons.mpr ⟨cw_216, List.forall_mem_cons.mpr ⟨cw_217, List.forall_mem_cons.mpr ⟨cw_218, List.forall_mem_cons.mpr ⟨cw_219, List.forall_mem_cons.mpr ⟨cw_220, List.forall_mem_cons.mpr ⟨cw_221, List.forall_mem_cons.mpr ⟨cw_222, List.forall_mem_cons.mpr ⟨cw_223, List.forall_mem_cons.mpr ⟨cw_224, List.forall_mem_cons.mpr ⟨cw_225, List.forall_mem_cons.mpr ⟨cw_226, List.forall_mem_cons.mpr ⟨cw_227, List.forall_mem_cons.mpr ⟨cw_228, List.forall_mem_cons.mpr ⟨cw_229, List.forall_mem_cons.mpr ⟨cw_230, List.forall_mem_cons.mpr ⟨cw_231, List.forall_mem_cons.mpr ⟨cw_232, List.forall_mem_cons.mpr ⟨cw_233, List.forall_mem_cons.mpr ⟨cw_234, List.forall_mem_cons.mpr ⟨cw_235, List.forall_mem_cons.mpr ⟨cw_236, List.forall_mem_cons.mpr ⟨cw_237, List.forall_mem_cons.mpr ⟨cw_238, List.forall_mem_cons.mpr ⟨cw_239, List.forall_mem_cons.mpr ⟨cw_240, List.forall_mem_cons.mpr ⟨cw_241, fun _ h => absurd h List.not_mem_nil⟩⟩⟩⟩⟩⟩⟩⟩⟩⟩⟩⟩⟩⟩⟩⟩⟩⟩⟩⟩⟩⟩⟩⟩⟩⟩⟩⟩⟩⟩⟩⟩⟩⟩⟩⟩⟩⟩⟩⟩
theorem cw_all (n : Nat) (h2 : 2 ≤ n) (h : n ≤ 241) : cwOk n := by
  by_cases c0 : n < 42
  · exact cwl_0 n (by simp; omega)
  by_cases c1 : n < 82
  · exact cwl_1 n (by simp; omega)
  by_cases c2 : n < 122
  · exact cwl_2 n (by simp; omega)
  by_cases c3 : n < 162
  · exact cwl_3 n (by simp; omega)
  by_cases c4 : n < 202
  · exact cwl_4 n (by simp; omega)
  by_cases c5 : n < 242
  · exact cwl_5 n (by simp; omega)
  omega
