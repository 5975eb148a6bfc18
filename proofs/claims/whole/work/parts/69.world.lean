-- ===== the world after the constructors, by program =====
theorem isArr_len {t len a : Nat} (h : isArr t len a) : isArr t (lenA a) a := by
  have e : lenA a = len := by unfold lenA; rw [h.2]; rfl
  rw [e]; exact h
theorem lenA_lt (a : Nat) : lenA a < 2147483648 := by
  by_cases h : a < NG
  · have h2 : ∀ b ∈ List.range NG, lenA b < 2147483648 := by decide +kernel
    exact h2 a (List.mem_range.mpr h)
  · have h2 : S0L.length ≤ a := by rw [show S0L.length = NG by decide +kernel]; exact Nat.le_of_not_lt h
    have h3 : S0 a = (1, 0, [0]) := by
      unfold S0
      generalize S0L = l at h2
      rw [List.getD_eq_getElem?_getD, List.getElem?_eq_none h2]
      rfl
    unfold lenA
    rw [h3]
    decide
theorem S_0 : S0 0 = (0, 11, [4, 6, 22, 24, 28, 32, 37, 44, 48, 226, 227, 237, 247, 248, 0]) := rfl
theorem S_1 : S0 1 = (0, 10, [5, 0, 0, 0]) := rfl
theorem A_2 : isArr 0 80 2 := ⟨Nat.le_of_ble_eq_true rfl, rfl⟩
theorem A_6 : isArr 0 10 6 := ⟨Nat.le_of_ble_eq_true rfl, rfl⟩
theorem A_7 : isArr 0 10 7 := ⟨Nat.le_of_ble_eq_true rfl, rfl⟩
theorem A_8 : isArr 0 10 8 := ⟨Nat.le_of_ble_eq_true rfl, rfl⟩
theorem A_9 : isArr 0 10 9 := ⟨Nat.le_of_ble_eq_true rfl, rfl⟩
theorem A_11 : isArr 0 12 11 := ⟨Nat.le_of_ble_eq_true rfl, rfl⟩
theorem A_12 : isArr 0 40 12 := ⟨Nat.le_of_ble_eq_true rfl, rfl⟩
theorem A_14 : isArr 0 12 14 := ⟨Nat.le_of_ble_eq_true rfl, rfl⟩
theorem A_15 : isArr 0 40 15 := ⟨Nat.le_of_ble_eq_true rfl, rfl⟩
theorem A_17 : isArr 0 12 17 := ⟨Nat.le_of_ble_eq_true rfl, rfl⟩
theorem A_18 : isArr 0 40 18 := ⟨Nat.le_of_ble_eq_true rfl, rfl⟩
theorem S_19 : S0 19 = (0, 4, [23, 0]) := rfl
theorem A_20 : isArr 0 40 20 := ⟨Nat.le_of_ble_eq_true rfl, rfl⟩
theorem A_22 : isArr 0 40 22 := ⟨Nat.le_of_ble_eq_true rfl, rfl⟩
theorem A_23 : isArr 0 40 23 := ⟨Nat.le_of_ble_eq_true rfl, rfl⟩
theorem A_24 : isArr 0 8 24 := ⟨Nat.le_of_ble_eq_true rfl, rfl⟩
theorem A_26 : isArr 0 40 26 := ⟨Nat.le_of_ble_eq_true rfl, rfl⟩
theorem A_27 : isArr 0 40 27 := ⟨Nat.le_of_ble_eq_true rfl, rfl⟩
theorem A_28 : isArr 0 8 28 := ⟨Nat.le_of_ble_eq_true rfl, rfl⟩
theorem S_29 : S0 29 = (0, 0, [33, 34, 35, 36, 0]) := rfl
theorem A_30 : isArr 0 20 30 := ⟨Nat.le_of_ble_eq_true rfl, rfl⟩
theorem A_31 : isArr 0 20 31 := ⟨Nat.le_of_ble_eq_true rfl, rfl⟩
theorem A_32 : isArr 0 20 32 := ⟨Nat.le_of_ble_eq_true rfl, rfl⟩
theorem A_33 : isArr 0 20 33 := ⟨Nat.le_of_ble_eq_true rfl, rfl⟩
theorem S_34 : S0 34 = (0, 3, [38, 39, 40, 41, 42, 43, 0]) := rfl
theorem A_35 : isArr 0 10 35 := ⟨Nat.le_of_ble_eq_true rfl, rfl⟩
theorem A_36 : isArr 0 10 36 := ⟨Nat.le_of_ble_eq_true rfl, rfl⟩
theorem A_37 : isArr 0 10 37 := ⟨Nat.le_of_ble_eq_true rfl, rfl⟩
theorem A_38 : isArr 0 10 38 := ⟨Nat.le_of_ble_eq_true rfl, rfl⟩
theorem A_39 : isArr 0 10 39 := ⟨Nat.le_of_ble_eq_true rfl, rfl⟩
theorem A_40 : isArr 0 10 40 := ⟨Nat.le_of_ble_eq_true rfl, rfl⟩
theorem S_41 : S0 41 = (0, 8, [45, 46, 47, 0]) := rfl
theorem A_42 : isArr 0 8 42 := ⟨Nat.le_of_ble_eq_true rfl, rfl⟩
theorem A_43 : isArr 0 8 43 := ⟨Nat.le_of_ble_eq_true rfl, rfl⟩
theorem A_44 : isArr 0 8 44 := ⟨Nat.le_of_ble_eq_true rfl, rfl⟩
theorem S_45 : S0 45 = (0, 6, [49, 0, 0]) := rfl
theorem A_50 : isArr 0 10 50 := ⟨Nat.le_of_ble_eq_true rfl, rfl⟩
theorem A_51 : isArr 0 10 51 := ⟨Nat.le_of_ble_eq_true rfl, rfl⟩
theorem A_52 : isArr 0 10 52 := ⟨Nat.le_of_ble_eq_true rfl, rfl⟩
theorem A_53 : isArr 0 10 53 := ⟨Nat.le_of_ble_eq_true rfl, rfl⟩
theorem A_55 : isArr 0 12 55 := ⟨Nat.le_of_ble_eq_true rfl, rfl⟩
theorem A_56 : isArr 0 40 56 := ⟨Nat.le_of_ble_eq_true rfl, rfl⟩
theorem A_58 : isArr 0 12 58 := ⟨Nat.le_of_ble_eq_true rfl, rfl⟩
theorem A_59 : isArr 0 40 59 := ⟨Nat.le_of_ble_eq_true rfl, rfl⟩
theorem A_61 : isArr 0 12 61 := ⟨Nat.le_of_ble_eq_true rfl, rfl⟩
theorem A_62 : isArr 0 40 62 := ⟨Nat.le_of_ble_eq_true rfl, rfl⟩
theorem A_66 : isArr 0 10 66 := ⟨Nat.le_of_ble_eq_true rfl, rfl⟩
theorem A_67 : isArr 0 10 67 := ⟨Nat.le_of_ble_eq_true rfl, rfl⟩
theorem A_68 : isArr 0 10 68 := ⟨Nat.le_of_ble_eq_true rfl, rfl⟩
theorem A_69 : isArr 0 10 69 := ⟨Nat.le_of_ble_eq_true rfl, rfl⟩
theorem A_71 : isArr 0 12 71 := ⟨Nat.le_of_ble_eq_true rfl, rfl⟩
theorem A_72 : isArr 0 40 72 := ⟨Nat.le_of_ble_eq_true rfl, rfl⟩
theorem A_74 : isArr 0 12 74 := ⟨Nat.le_of_ble_eq_true rfl, rfl⟩
theorem A_75 : isArr 0 40 75 := ⟨Nat.le_of_ble_eq_true rfl, rfl⟩
theorem A_77 : isArr 0 12 77 := ⟨Nat.le_of_ble_eq_true rfl, rfl⟩
theorem A_78 : isArr 0 40 78 := ⟨Nat.le_of_ble_eq_true rfl, rfl⟩
theorem A_82 : isArr 0 10 82 := ⟨Nat.le_of_ble_eq_true rfl, rfl⟩
theorem A_83 : isArr 0 10 83 := ⟨Nat.le_of_ble_eq_true rfl, rfl⟩
theorem A_84 : isArr 0 10 84 := ⟨Nat.le_of_ble_eq_true rfl, rfl⟩
theorem A_85 : isArr 0 10 85 := ⟨Nat.le_of_ble_eq_true rfl, rfl⟩
theorem A_87 : isArr 0 12 87 := ⟨Nat.le_of_ble_eq_true rfl, rfl⟩
theorem A_88 : isArr 0 40 88 := ⟨Nat.le_of_ble_eq_true rfl, rfl⟩
theorem A_90 : isArr 0 12 90 := ⟨Nat.le_of_ble_eq_true rfl, rfl⟩
theorem A_91 : isArr 0 40 91 := ⟨Nat.le_of_ble_eq_true rfl, rfl⟩
theorem A_93 : isArr 0 12 93 := ⟨Nat.le_of_ble_eq_true rfl, rfl⟩
theorem A_94 : isArr 0 40 94 := ⟨Nat.le_of_ble_eq_true rfl, rfl⟩
theorem A_98 : isArr 0 10 98 := ⟨Nat.le_of_ble_eq_true rfl, rfl⟩
theorem A_99 : isArr 0 10 99 := ⟨Nat.le_of_ble_eq_true rfl, rfl⟩
theorem A_100 : isArr 0 10 100 := ⟨Nat.le_of_ble_eq_true rfl, rfl⟩
theorem A_101 : isArr 0 10 101 := ⟨Nat.le_of_ble_eq_true rfl, rfl⟩
theorem A_103 : isArr 0 12 103 := ⟨Nat.le_of_ble_eq_true rfl, rfl⟩
theorem A_104 : isArr 0 40 104 := ⟨Nat.le_of_ble_eq_true rfl, rfl⟩
theorem A_106 : isArr 0 12 106 := ⟨Nat.le_of_ble_eq_true rfl, rfl⟩
theorem A_107 : isArr 0 40 107 := ⟨Nat.le_of_ble_eq_true rfl, rfl⟩
theorem A_109 : isArr 0 12 109 := ⟨Nat.le_of_ble_eq_true rfl, rfl⟩
theorem A_110 : isArr 0 40 110 := ⟨Nat.le_of_ble_eq_true rfl, rfl⟩
theorem A_114 : isArr 0 10 114 := ⟨Nat.le_of_ble_eq_true rfl, rfl⟩
theorem A_115 : isArr 0 10 115 := ⟨Nat.le_of_ble_eq_true rfl, rfl⟩
theorem A_116 : isArr 0 10 116 := ⟨Nat.le_of_ble_eq_true rfl, rfl⟩
theorem A_117 : isArr 0 10 117 := ⟨Nat.le_of_ble_eq_true rfl, rfl⟩
theorem A_119 : isArr 0 12 119 := ⟨Nat.le_of_ble_eq_true rfl, rfl⟩
theorem A_120 : isArr 0 40 120 := ⟨Nat.le_of_ble_eq_true rfl, rfl⟩
theorem A_122 : isArr 0 12 122 := ⟨Nat.le_of_ble_eq_true rfl, rfl⟩
theorem A_123 : isArr 0 40 123 := ⟨Nat.le_of_ble_eq_true rfl, rfl⟩
theorem A_125 : isArr 0 12 125 := ⟨Nat.le_of_ble_eq_true rfl, rfl⟩
theorem A_126 : isArr 0 40 126 := ⟨Nat.le_of_ble_eq_true rfl, rfl⟩
theorem A_130 : isArr 0 10 130 := ⟨Nat.le_of_ble_eq_true rfl, rfl⟩
theorem A_131 : isArr 0 10 131 := ⟨Nat.le_of_ble_eq_true rfl, rfl⟩
theorem A_132 : isArr 0 10 132 := ⟨Nat.le_of_ble_eq_true rfl, rfl⟩
theorem A_133 : isArr 0 10 133 := ⟨Nat.le_of_ble_eq_true rfl, rfl⟩
theorem A_135 : isArr 0 12 135 := ⟨Nat.le_of_ble_eq_true rfl, rfl⟩
theorem A_136 : isArr 0 40 136 := ⟨Nat.le_of_ble_eq_true rfl, rfl⟩
theorem A_138 : isArr 0 12 138 := ⟨Nat.le_of_ble_eq_true rfl, rfl⟩
theorem A_139 : isArr 0 40 139 := ⟨Nat.le_of_ble_eq_true rfl, rfl⟩
theorem A_141 : isArr 0 12 141 := ⟨Nat.le_of_ble_eq_true rfl, rfl⟩
theorem A_142 : isArr 0 40 142 := ⟨Nat.le_of_ble_eq_true rfl, rfl⟩
theorem A_146 : isArr 0 10 146 := ⟨Nat.le_of_ble_eq_true rfl, rfl⟩
theorem A_147 : isArr 0 10 147 := ⟨Nat.le_of_ble_eq_true rfl, rfl⟩
theorem A_148 : isArr 0 10 148 := ⟨Nat.le_of_ble_eq_true rfl, rfl⟩
theorem A_149 : isArr 0 10 149 := ⟨Nat.le_of_ble_eq_true rfl, rfl⟩
theorem A_151 : isArr 0 12 151 := ⟨Nat.le_of_ble_eq_true rfl, rfl⟩
theorem A_152 : isArr 0 40 152 := ⟨Nat.le_of_ble_eq_true rfl, rfl⟩
theorem A_154 : isArr 0 12 154 := ⟨Nat.le_of_ble_eq_true rfl, rfl⟩
theorem A_155 : isArr 0 40 155 := ⟨Nat.le_of_ble_eq_true rfl, rfl⟩
theorem A_157 : isArr 0 12 157 := ⟨Nat.le_of_ble_eq_true rfl, rfl⟩
theorem A_158 : isArr 0 40 158 := ⟨Nat.le_of_ble_eq_true rfl, rfl⟩
theorem A_162 : isArr 0 10 162 := ⟨Nat.le_of_ble_eq_true rfl, rfl⟩
theorem A_163 : isArr 0 10 163 := ⟨Nat.le_of_ble_eq_true rfl, rfl⟩
theorem A_164 : isArr 0 10 164 := ⟨Nat.le_of_ble_eq_true rfl, rfl⟩
theorem A_165 : isArr 0 10 165 := ⟨Nat.le_of_ble_eq_true rfl, rfl⟩
theorem A_167 : isArr 0 12 167 := ⟨Nat.le_of_ble_eq_true rfl, rfl⟩
theorem A_168 : isArr 0 40 168 := ⟨Nat.le_of_ble_eq_true rfl, rfl⟩
theorem A_170 : isArr 0 12 170 := ⟨Nat.le_of_ble_eq_true rfl, rfl⟩
theorem A_171 : isArr 0 40 171 := ⟨Nat.le_of_ble_eq_true rfl, rfl⟩
theorem A_173 : isArr 0 12 173 := ⟨Nat.le_of_ble_eq_true rfl, rfl⟩
theorem A_174 : isArr 0 40 174 := ⟨Nat.le_of_ble_eq_true rfl, rfl⟩
theorem A_178 : isArr 0 10 178 := ⟨Nat.le_of_ble_eq_true rfl, rfl⟩
theorem A_179 : isArr 0 10 179 := ⟨Nat.le_of_ble_eq_true rfl, rfl⟩
theorem A_180 : isArr 0 10 180 := ⟨Nat.le_of_ble_eq_true rfl, rfl⟩
theorem A_181 : isArr 0 10 181 := ⟨Nat.le_of_ble_eq_true rfl, rfl⟩
theorem A_183 : isArr 0 12 183 := ⟨Nat.le_of_ble_eq_true rfl, rfl⟩
theorem A_184 : isArr 0 40 184 := ⟨Nat.le_of_ble_eq_true rfl, rfl⟩
theorem A_186 : isArr 0 12 186 := ⟨Nat.le_of_ble_eq_true rfl, rfl⟩
theorem A_187 : isArr 0 40 187 := ⟨Nat.le_of_ble_eq_true rfl, rfl⟩
theorem A_189 : isArr 0 12 189 := ⟨Nat.le_of_ble_eq_true rfl, rfl⟩
theorem A_190 : isArr 0 40 190 := ⟨Nat.le_of_ble_eq_true rfl, rfl⟩
theorem A_194 : isArr 0 10 194 := ⟨Nat.le_of_ble_eq_true rfl, rfl⟩
theorem A_195 : isArr 0 10 195 := ⟨Nat.le_of_ble_eq_true rfl, rfl⟩
theorem A_196 : isArr 0 10 196 := ⟨Nat.le_of_ble_eq_true rfl, rfl⟩
theorem A_197 : isArr 0 10 197 := ⟨Nat.le_of_ble_eq_true rfl, rfl⟩
theorem A_199 : isArr 0 12 199 := ⟨Nat.le_of_ble_eq_true rfl, rfl⟩
theorem A_200 : isArr 0 40 200 := ⟨Nat.le_of_ble_eq_true rfl, rfl⟩
theorem A_202 : isArr 0 12 202 := ⟨Nat.le_of_ble_eq_true rfl, rfl⟩
theorem A_203 : isArr 0 40 203 := ⟨Nat.le_of_ble_eq_true rfl, rfl⟩
theorem A_205 : isArr 0 12 205 := ⟨Nat.le_of_ble_eq_true rfl, rfl⟩
theorem A_206 : isArr 0 40 206 := ⟨Nat.le_of_ble_eq_true rfl, rfl⟩
theorem A_210 : isArr 0 10 210 := ⟨Nat.le_of_ble_eq_true rfl, rfl⟩
theorem A_211 : isArr 0 10 211 := ⟨Nat.le_of_ble_eq_true rfl, rfl⟩
theorem A_212 : isArr 0 10 212 := ⟨Nat.le_of_ble_eq_true rfl, rfl⟩
theorem A_213 : isArr 0 10 213 := ⟨Nat.le_of_ble_eq_true rfl, rfl⟩
theorem A_215 : isArr 0 12 215 := ⟨Nat.le_of_ble_eq_true rfl, rfl⟩
theorem A_216 : isArr 0 40 216 := ⟨Nat.le_of_ble_eq_true rfl, rfl⟩
theorem A_218 : isArr 0 12 218 := ⟨Nat.le_of_ble_eq_true rfl, rfl⟩
theorem A_219 : isArr 0 40 219 := ⟨Nat.le_of_ble_eq_true rfl, rfl⟩
theorem A_221 : isArr 0 12 221 := ⟨Nat.le_of_ble_eq_true rfl, rfl⟩
theorem A_222 : isArr 0 40 222 := ⟨Nat.le_of_ble_eq_true rfl, rfl⟩
theorem A_226 : isArr 0 10 226 := ⟨Nat.le_of_ble_eq_true rfl, rfl⟩
theorem A_227 : isArr 0 10 227 := ⟨Nat.le_of_ble_eq_true rfl, rfl⟩
theorem A_228 : isArr 0 10 228 := ⟨Nat.le_of_ble_eq_true rfl, rfl⟩
theorem A_229 : isArr 0 10 229 := ⟨Nat.le_of_ble_eq_true rfl, rfl⟩
theorem A_231 : isArr 0 12 231 := ⟨Nat.le_of_ble_eq_true rfl, rfl⟩
theorem A_232 : isArr 0 40 232 := ⟨Nat.le_of_ble_eq_true rfl, rfl⟩
theorem A_233 : isArr 0 600 233 := ⟨Nat.le_of_ble_eq_true rfl, rfl⟩
theorem A_236 : isArr 0 10 236 := ⟨Nat.le_of_ble_eq_true rfl, rfl⟩
theorem A_237 : isArr 0 10 237 := ⟨Nat.le_of_ble_eq_true rfl, rfl⟩
theorem A_238 : isArr 0 10 238 := ⟨Nat.le_of_ble_eq_true rfl, rfl⟩
theorem A_239 : isArr 0 10 239 := ⟨Nat.le_of_ble_eq_true rfl, rfl⟩
theorem A_241 : isArr 0 12 241 := ⟨Nat.le_of_ble_eq_true rfl, rfl⟩
theorem A_242 : isArr 0 40 242 := ⟨Nat.le_of_ble_eq_true rfl, rfl⟩
theorem A_243 : isArr 0 600 243 := ⟨Nat.le_of_ble_eq_true rfl, rfl⟩
theorem A_244 : isArr 0 12 244 := ⟨Nat.le_of_ble_eq_true rfl, rfl⟩
theorem A_245 : isArr 0 4 245 := ⟨Nat.le_of_ble_eq_true rfl, rfl⟩
theorem A_249 : isArr 0 10 249 := ⟨Nat.le_of_ble_eq_true rfl, rfl⟩
theorem A_250 : isArr 0 10 250 := ⟨Nat.le_of_ble_eq_true rfl, rfl⟩
theorem A_251 : isArr 0 10 251 := ⟨Nat.le_of_ble_eq_true rfl, rfl⟩
theorem A_252 : isArr 0 10 252 := ⟨Nat.le_of_ble_eq_true rfl, rfl⟩
theorem A_254 : isArr 0 12 254 := ⟨Nat.le_of_ble_eq_true rfl, rfl⟩
theorem A_255 : isArr 0 40 255 := ⟨Nat.le_of_ble_eq_true rfl, rfl⟩
theorem A_257 : isArr 0 12 257 := ⟨Nat.le_of_ble_eq_true rfl, rfl⟩
theorem A_258 : isArr 0 40 258 := ⟨Nat.le_of_ble_eq_true rfl, rfl⟩
theorem A_260 : isArr 0 12 260 := ⟨Nat.le_of_ble_eq_true rfl, rfl⟩
theorem A_261 : isArr 0 40 261 := ⟨Nat.le_of_ble_eq_true rfl, rfl⟩
theorem A_265 : isArr 0 10 265 := ⟨Nat.le_of_ble_eq_true rfl, rfl⟩
theorem A_266 : isArr 0 10 266 := ⟨Nat.le_of_ble_eq_true rfl, rfl⟩
theorem A_267 : isArr 0 10 267 := ⟨Nat.le_of_ble_eq_true rfl, rfl⟩
theorem A_268 : isArr 0 10 268 := ⟨Nat.le_of_ble_eq_true rfl, rfl⟩
theorem A_270 : isArr 0 12 270 := ⟨Nat.le_of_ble_eq_true rfl, rfl⟩
theorem A_271 : isArr 0 40 271 := ⟨Nat.le_of_ble_eq_true rfl, rfl⟩
theorem A_273 : isArr 0 12 273 := ⟨Nat.le_of_ble_eq_true rfl, rfl⟩
theorem A_274 : isArr 0 40 274 := ⟨Nat.le_of_ble_eq_true rfl, rfl⟩
theorem A_276 : isArr 0 12 276 := ⟨Nat.le_of_ble_eq_true rfl, rfl⟩
theorem A_277 : isArr 0 40 277 := ⟨Nat.le_of_ble_eq_true rfl, rfl⟩
theorem S_278 : S0 278 = (0, 12, [282, 0, 283, 284, 0, 0, 285, 0, 0, 286, 0, 287, 0, 0, 2, 0, 0, 0, 0, 288, 289, 0, 2, 0, 0, 290, 0, 0, 0, 0, 291, 0, 292, 293, 294, 0, 295, 296, 0, 297, 298, 0, 299, 300, 301, 302, 303, 304, 305, 0, 306, 0, 307, 308, 309]) := rfl
theorem A_279 : isArr 0 166 279 := ⟨Nat.le_of_ble_eq_true rfl, rfl⟩
theorem A_280 : isArr 0 3 280 := ⟨Nat.le_of_ble_eq_true rfl, rfl⟩
theorem A_281 : isArr 0 40 281 := ⟨Nat.le_of_ble_eq_true rfl, rfl⟩
theorem A_282 : isArr 0 48 282 := ⟨Nat.le_of_ble_eq_true rfl, rfl⟩
theorem A_283 : isArr 1 80 283 := ⟨Nat.le_of_ble_eq_true rfl, rfl⟩
theorem A_284 : isArr 0 16 284 := ⟨Nat.le_of_ble_eq_true rfl, rfl⟩
theorem A_285 : isArr 0 42 285 := ⟨Nat.le_of_ble_eq_true rfl, rfl⟩
theorem A_286 : isArr 1 40 286 := ⟨Nat.le_of_ble_eq_true rfl, rfl⟩
theorem A_287 : isArr 0 3 287 := ⟨Nat.le_of_ble_eq_true rfl, rfl⟩
theorem A_288 : isArr 0 2080 288 := ⟨Nat.le_of_ble_eq_true rfl, rfl⟩
theorem A_289 : isArr 0 208 289 := ⟨Nat.le_of_ble_eq_true rfl, rfl⟩
theorem A_290 : isArr 0 3 290 := ⟨Nat.le_of_ble_eq_true rfl, rfl⟩
theorem A_291 : isArr 0 320 291 := ⟨Nat.le_of_ble_eq_true rfl, rfl⟩
theorem A_292 : isArr 0 166 292 := ⟨Nat.le_of_ble_eq_true rfl, rfl⟩
theorem A_293 : isArr 0 2400 293 := ⟨Nat.le_of_ble_eq_true rfl, rfl⟩
theorem A_294 : isArr 0 12 294 := ⟨Nat.le_of_ble_eq_true rfl, rfl⟩
theorem A_295 : isArr 0 50 295 := ⟨Nat.le_of_ble_eq_true rfl, rfl⟩
theorem A_296 : isArr 0 10 296 := ⟨Nat.le_of_ble_eq_true rfl, rfl⟩
theorem A_297 : isArr 0 10 297 := ⟨Nat.le_of_ble_eq_true rfl, rfl⟩
theorem A_298 : isArr 0 10 298 := ⟨Nat.le_of_ble_eq_true rfl, rfl⟩
theorem A_299 : isArr 0 10 299 := ⟨Nat.le_of_ble_eq_true rfl, rfl⟩
theorem A_300 : isArr 2 601 300 := ⟨Nat.le_of_ble_eq_true rfl, rfl⟩
theorem A_301 : isArr 0 2 301 := ⟨Nat.le_of_ble_eq_true rfl, rfl⟩
theorem A_302 : isArr 0 24 302 := ⟨Nat.le_of_ble_eq_true rfl, rfl⟩
theorem A_303 : isArr 0 12 303 := ⟨Nat.le_of_ble_eq_true rfl, rfl⟩
theorem A_304 : isArr 0 414 304 := ⟨Nat.le_of_ble_eq_true rfl, rfl⟩
theorem A_305 : isArr 2 2 305 := ⟨Nat.le_of_ble_eq_true rfl, rfl⟩
theorem A_306 : isArr 0 2 306 := ⟨Nat.le_of_ble_eq_true rfl, rfl⟩
def L_be : List Nat := [10, 13, 16, 54, 57, 60, 70, 73, 76, 86, 89, 92, 102, 105, 108, 118, 121, 124, 134, 137, 140, 150, 153, 156, 166, 169, 172, 182, 185, 188, 198, 201, 204, 214, 217, 220, 230, 240, 253, 256, 259, 269, 272, 275]
def is_be (a : Nat) : Prop := a ∈ L_be
theorem is_be_10 : is_be 10 := by unfold is_be; decide
theorem is_be_13 : is_be 13 := by unfold is_be; decide
theorem is_be_16 : is_be 16 := by unfold is_be; decide
theorem is_be_54 : is_be 54 := by unfold is_be; decide
theorem is_be_57 : is_be 57 := by unfold is_be; decide
theorem is_be_60 : is_be 60 := by unfold is_be; decide
theorem is_be_70 : is_be 70 := by unfold is_be; decide
theorem is_be_73 : is_be 73 := by unfold is_be; decide
theorem is_be_76 : is_be 76 := by unfold is_be; decide
theorem is_be_86 : is_be 86 := by unfold is_be; decide
theorem is_be_89 : is_be 89 := by unfold is_be; decide
theorem is_be_92 : is_be 92 := by unfold is_be; decide
theorem is_be_102 : is_be 102 := by unfold is_be; decide
theorem is_be_105 : is_be 105 := by unfold is_be; decide
theorem is_be_108 : is_be 108 := by unfold is_be; decide
theorem is_be_118 : is_be 118 := by unfold is_be; decide
theorem is_be_121 : is_be 121 := by unfold is_be; decide
theorem is_be_124 : is_be 124 := by unfold is_be; decide
theorem is_be_134 : is_be 134 := by unfold is_be; decide
theorem is_be_137 : is_be 137 := by unfold is_be; decide
theorem is_be_140 : is_be 140 := by unfold is_be; decide
theorem is_be_150 : is_be 150 := by unfold is_be; decide
theorem is_be_153 : is_be 153 := by unfold is_be; decide
theorem is_be_156 : is_be 156 := by unfold is_be; decide
theorem is_be_166 : is_be 166 := by unfold is_be; decide
theorem is_be_169 : is_be 169 := by unfold is_be; decide
theorem is_be_172 : is_be 172 := by unfold is_be; decide
theorem is_be_182 : is_be 182 := by unfold is_be; decide
theorem is_be_185 : is_be 185 := by unfold is_be; decide
theorem is_be_188 : is_be 188 := by unfold is_be; decide
theorem is_be_198 : is_be 198 := by unfold is_be; decide
theorem is_be_201 : is_be 201 := by unfold is_be; decide
theorem is_be_204 : is_be 204 := by unfold is_be; decide
theorem is_be_214 : is_be 214 := by unfold is_be; decide
theorem is_be_217 : is_be 217 := by unfold is_be; decide
theorem is_be_220 : is_be 220 := by unfold is_be; decide
theorem is_be_230 : is_be 230 := by unfold is_be; decide
theorem is_be_240 : is_be 240 := by unfold is_be; decide
theorem is_be_253 : is_be 253 := by unfold is_be; decide
theorem is_be_256 : is_be 256 := by unfold is_be; decide
theorem is_be_259 : is_be 259 := by unfold is_be; decide
theorem is_be_269 : is_be 269 := by unfold is_be; decide
theorem is_be_272 : is_be 272 := by unfold is_be; decide
theorem is_be_275 : is_be 275 := by unfold is_be; decide
def L_ca : List Nat := [5, 49, 65, 81, 97, 113, 129, 145, 161, 177, 193, 209, 225, 235, 248, 264]
def is_ca (a : Nat) : Prop := a ∈ L_ca
theorem is_ca_5 : is_ca 5 := by unfold is_ca; decide
theorem is_ca_49 : is_ca 49 := by unfold is_ca; decide
theorem is_ca_65 : is_ca 65 := by unfold is_ca; decide
theorem is_ca_81 : is_ca 81 := by unfold is_ca; decide
theorem is_ca_97 : is_ca 97 := by unfold is_ca; decide
theorem is_ca_113 : is_ca 113 := by unfold is_ca; decide
theorem is_ca_129 : is_ca 129 := by unfold is_ca; decide
theorem is_ca_145 : is_ca 145 := by unfold is_ca; decide
theorem is_ca_161 : is_ca 161 := by unfold is_ca; decide
theorem is_ca_177 : is_ca 177 := by unfold is_ca; decide
theorem is_ca_193 : is_ca 193 := by unfold is_ca; decide
theorem is_ca_209 : is_ca 209 := by unfold is_ca; decide
theorem is_ca_225 : is_ca 225 := by unfold is_ca; decide
theorem is_ca_235 : is_ca 235 := by unfold is_ca; decide
theorem is_ca_248 : is_ca 248 := by unfold is_ca; decide
theorem is_ca_264 : is_ca 264 := by unfold is_ca; decide
def L_fu : List Nat := [224, 234]
def is_fu (a : Nat) : Prop := a ∈ L_fu
theorem is_fu_224 : is_fu 224 := by unfold is_fu; decide
theorem is_fu_234 : is_fu 234 := by unfold is_fu; decide
def L_ru : List Nat := [21, 25]
def is_ru (a : Nat) : Prop := a ∈ L_ru
theorem is_ru_21 : is_ru 21 := by unfold is_ru; decide
theorem is_ru_25 : is_ru 25 := by unfold is_ru; decide
def L_sc : List Nat := [3, 47, 63, 79, 95, 111, 127, 143, 159, 175, 191, 207, 246, 262]
def is_sc (a : Nat) : Prop := a ∈ L_sc
theorem is_sc_3 : is_sc 3 := by unfold is_sc; decide
theorem is_sc_47 : is_sc 47 := by unfold is_sc; decide
theorem is_sc_63 : is_sc 63 := by unfold is_sc; decide
theorem is_sc_79 : is_sc 79 := by unfold is_sc; decide
theorem is_sc_95 : is_sc 95 := by unfold is_sc; decide
theorem is_sc_111 : is_sc 111 := by unfold is_sc; decide
theorem is_sc_127 : is_sc 127 := by unfold is_sc; decide
theorem is_sc_143 : is_sc 143 := by unfold is_sc; decide
theorem is_sc_159 : is_sc 159 := by unfold is_sc; decide
theorem is_sc_175 : is_sc 175 := by unfold is_sc; decide
theorem is_sc_191 : is_sc 191 := by unfold is_sc; decide
theorem is_sc_207 : is_sc 207 := by unfold is_sc; decide
theorem is_sc_246 : is_sc 246 := by unfold is_sc; decide
theorem is_sc_262 : is_sc 262 := by unfold is_sc; decide
theorem be_S {a : Nat} (h : is_be a) : a < NG ∧ S0 a = (0, 1, [a + 1 + 3, a + 2 + 3, 0, 0, 0, 0]) := by
  have h2 : ∀ a ∈ L_be, a < NG ∧ S0 a = (0, 1, [a + 1 + 3, a + 2 + 3, 0, 0, 0, 0]) := by decide +kernel
  exact h2 a h
theorem be_f0 {a : Nat} (h : is_be a) : isArr 0 12 (a + 1) := by
  have h2 : ∀ a ∈ L_be, (a + 1 < NG ∧ S0 (a + 1) = (1, 0, [12])) := by decide +kernel
  exact h2 a h
theorem be_f1 {a : Nat} (h : is_be a) : isArr 0 40 (a + 2) := by
  have h2 : ∀ a ∈ L_be, (a + 2 < NG ∧ S0 (a + 2) = (1, 0, [40])) := by decide +kernel
  exact h2 a h
theorem ca_S {a : Nat} (h : is_ca a) : a < NG ∧ S0 a = (0, 2, [a + 1 + 3, a + 2 + 3, a + 3 + 3, a + 4 + 3, 0]) := by
  have h2 : ∀ a ∈ L_ca, a < NG ∧ S0 a = (0, 2, [a + 1 + 3, a + 2 + 3, a + 3 + 3, a + 4 + 3, 0]) := by decide +kernel
  exact h2 a h
theorem ca_f0 {a : Nat} (h : is_ca a) : isArr 0 10 (a + 1) := by
  have h2 : ∀ a ∈ L_ca, (a + 1 < NG ∧ S0 (a + 1) = (1, 0, [10])) := by decide +kernel
  exact h2 a h
theorem ca_f1 {a : Nat} (h : is_ca a) : isArr 0 10 (a + 2) := by
  have h2 : ∀ a ∈ L_ca, (a + 2 < NG ∧ S0 (a + 2) = (1, 0, [10])) := by decide +kernel
  exact h2 a h
theorem ca_f2 {a : Nat} (h : is_ca a) : isArr 0 10 (a + 3) := by
  have h2 : ∀ a ∈ L_ca, (a + 3 < NG ∧ S0 (a + 3) = (1, 0, [10])) := by decide +kernel
  exact h2 a h
theorem ca_f3 {a : Nat} (h : is_ca a) : isArr 0 10 (a + 4) := by
  have h2 : ∀ a ∈ L_ca, (a + 4 < NG ∧ S0 (a + 4) = (1, 0, [10])) := by decide +kernel
  exact h2 a h
theorem fu_S {a : Nat} (h : is_fu a) : a < NG ∧ S0 a = (0, 5, [24, 22, 8, a + 1 + 3, a + 6 + 3, a + 9 + 3, 0, 0, 0, 0, 0]) := by
  have h2 : ∀ a ∈ L_fu, a < NG ∧ S0 a = (0, 5, [24, 22, 8, a + 1 + 3, a + 6 + 3, a + 9 + 3, 0, 0, 0, 0, 0]) := by decide +kernel
  exact h2 a h
theorem fu_f3 {a : Nat} (h : is_fu a) : is_ca (a + 1) := by
  have h2 : ∀ a ∈ L_fu, (a + 1) ∈ L_ca := by decide +kernel
  exact h2 a h
theorem fu_f4 {a : Nat} (h : is_fu a) : is_be (a + 6) := by
  have h2 : ∀ a ∈ L_fu, (a + 6) ∈ L_be := by decide +kernel
  exact h2 a h
theorem fu_f5 {a : Nat} (h : is_fu a) : isArr 0 600 (a + 9) := by
  have h2 : ∀ a ∈ L_fu, (a + 9 < NG ∧ S0 (a + 9) = (1, 0, [600])) := by decide +kernel
  exact h2 a h
theorem ru_S {a : Nat} (h : is_ru a) : a < NG ∧ S0 a = (0, 7, [a + 1 + 3, a + 2 + 3, a + 3 + 3, 0, 0, 0]) := by
  have h2 : ∀ a ∈ L_ru, a < NG ∧ S0 a = (0, 7, [a + 1 + 3, a + 2 + 3, a + 3 + 3, 0, 0, 0]) := by decide +kernel
  exact h2 a h
theorem ru_f0 {a : Nat} (h : is_ru a) : isArr 0 40 (a + 1) := by
  have h2 : ∀ a ∈ L_ru, (a + 1 < NG ∧ S0 (a + 1) = (1, 0, [40])) := by decide +kernel
  exact h2 a h
theorem ru_f1 {a : Nat} (h : is_ru a) : isArr 0 40 (a + 2) := by
  have h2 : ∀ a ∈ L_ru, (a + 2 < NG ∧ S0 (a + 2) = (1, 0, [40])) := by decide +kernel
  exact h2 a h
theorem ru_f2 {a : Nat} (h : is_ru a) : isArr 0 8 (a + 3) := by
  have h2 : ∀ a ∈ L_ru, (a + 3 < NG ∧ S0 (a + 3) = (1, 0, [8])) := by decide +kernel
  exact h2 a h
theorem sc_S {a : Nat} (h : is_sc a) : a < NG ∧ S0 a = (0, 9, [a + 1 + 3, a + 2 + 3, 0, 0, 0, 0]) := by
  have h2 : ∀ a ∈ L_sc, a < NG ∧ S0 a = (0, 9, [a + 1 + 3, a + 2 + 3, 0, 0, 0, 0]) := by decide +kernel
  exact h2 a h
theorem sc_f1 {a : Nat} (h : is_sc a) : is_ca (a + 2) := by
  have h2 : ∀ a ∈ L_sc, (a + 2) ∈ L_ca := by decide +kernel
  exact h2 a h
theorem scb_S {a : Nat} (h : is_sc a) : a + 1 < NG ∧ S0 (a + 1) = (3, 4, [a + 7 + 1, a + 10 + 1, a + 13 + 1]) := by
  have h2 : ∀ a ∈ L_sc, a + 1 < NG ∧ S0 (a + 1) = (3, 4, [a + 7 + 1, a + 10 + 1, a + 13 + 1]) := by decide +kernel
  exact h2 a h
theorem lt3 {i : Int} (h0 : 0 ≤ i) (h1 : i < 3) : i.toNat = 0 ∨ i.toNat = 1 ∨ i.toNat = 2 := by omega
theorem scb_get {a : Nat} {i : Int} (h0 : 0 ≤ i) (h1 : i < 3) : [a + 7 + 1, a + 10 + 1, a + 13 + 1][i.toNat]? = some (a + 7 + 3 * i.toNat + 1) := by
  rcases lt3 h0 h1 with h | h | h <;> rw [h] <;> simp
theorem scb_is {a : Nat} (h : is_sc a) {i : Int} (h0 : 0 ≤ i) (h1 : i < 3) : is_be (a + 7 + 3 * i.toNat) := by
  have h2 : ∀ a ∈ L_sc, (a + 7) ∈ L_be ∧ (a + 10) ∈ L_be ∧ (a + 13) ∈ L_be := by decide +kernel
  obtain ⟨q0, q1, q2⟩ := h2 a h
  rcases lt3 h0 h1 with h | h | h <;> rw [h]
  · exact q0
  · exact q1
  · exact q2
theorem Q_46 : S0 46 = (3, 5, [48, 64, 80, 96, 112, 128, 144, 160, 176, 192, 208]) := rfl
theorem q46_get {i : Int} (h0 : 0 ≤ i) (h1 : i < 11) : ([48, 64, 80, 96, 112, 128, 144, 160, 176, 192, 208] : List Nat)[i.toNat]? = some (47 + 16 * i.toNat + 1) := by
  have h : i.toNat < 11 := by omega
  have h2 : ∀ k ∈ List.range 11, ([48, 64, 80, 96, 112, 128, 144, 160, 176, 192, 208] : List Nat)[k]? = some (47 + 16 * k + 1) := by decide +kernel
  exact h2 _ (List.mem_range.mpr h)
theorem q46_is {i : Int} (h0 : 0 ≤ i) (h1 : i < 11) : is_sc (47 + 16 * i.toNat) := by
  have h : i.toNat < 11 := by omega
  have h2 : ∀ k ∈ List.range 11, (47 + 16 * k) ∈ L_sc := by decide +kernel
  exact h2 _ (List.mem_range.mpr h)
theorem Q_223 : S0 223 = (3, 5, [247, 263]) := rfl
theorem q223_get {i : Int} (h0 : 0 ≤ i) (h1 : i < 2) : ([247, 263] : List Nat)[i.toNat]? = some (246 + 16 * i.toNat + 1) := by
  have h : i.toNat < 2 := by omega
  have h2 : ∀ k ∈ List.range 2, ([247, 263] : List Nat)[k]? = some (246 + 16 * k + 1) := by decide +kernel
  exact h2 _ (List.mem_range.mpr h)
theorem q223_is {i : Int} (h0 : 0 ≤ i) (h1 : i < 2) : is_sc (246 + 16 * i.toNat) := by
  have h : i.toNat < 2 := by omega
  have h2 : ∀ k ∈ List.range 2, (246 + 16 * k) ∈ L_sc := by decide +kernel
  exact h2 _ (List.mem_range.mpr h)
abbrev K_I (Δ : DT) (Γ : FT) (md : MD) (M : MEM) : Int → Prop := fun r => RetOk Δ Γ false md (some r) (NG, S0, M) 0 0
abbrev K_IM (Δ : DT) (Γ : FT) (md : MD) : Int × MEM → Prop := fun p => RetOk Δ Γ false md (some p.1) (NG, S0, p.2) 0 0
abbrev K_M (Δ : DT) (Γ : FT) (md : MD) : MEM → Prop := fun M => RetOk Δ Γ false md none (NG, S0, M) 0 0
abbrev K_T (Δ : DT) (Γ : FT) (md : MD) (d pc nL : Nat) : MEM ⊕ (Int × MEM) → Prop := Sum.elim (fun M => WAt Δ Γ false md d pc (List.replicate nL vN) [] (NG, S0, M) 0 0) (fun p => RetOk Δ Γ false md (some p.1) (NG, S0, p.2) 0 0)
def nokey (x : Int) : List Int → Prop
  | [] => True
  | k :: ks => ¬ x = k ∧ nokey x ks
theorem nokey_mem {x : Int} : ∀ {ks : List Int}, nokey x ks → ∀ k ∈ ks, x ≠ k := by
  intro ks
  induction ks with
  | nil => intro _ k h; cases h
  | cons a ks ih =>
    intro h k hk
    rcases List.mem_cons.mp hk with rfl | hk
    · exact h.1
    · exact ih h.2 k hk
section MORE
variable {Δ : DT} {Γ : FT} {fl : Bool} {md : MD} {d pc pc0 npc k1 k2 k3 : Nat} {mn : MethodName} {L st : List PV} {w : WD} {n : Nat} {S : Nat → SHP} {M : MEM} {cells slots : Nat}
theorem w_tabDef {dflt lo hi' : Int} {offs : Array Int} {x : Int} {tgt : Nat} {keys : List Int} (hi : lk md pc = some (pc0, Instr.tableswitch dflt lo hi' offs, npc, k1, k2, k3, mn)) (hx : nokey x keys) (hall : (List.range ((hi' - lo).toNat + 1)).all (fun (j : Nat) => decide (offs[j]? = some dflt) || decide (lo + (j : Int) ∈ keys)) = true) (ht : (pc : Int) + dflt = (tgt : Int)) (k : WAt Δ Γ fl md d tgt L st w cells slots) : WAt Δ Γ fl md d pc L (vI x :: st) w cells slots := by
  by_cases h : x < lo ∨ hi' < x
  · exact w_tabOut hi h ht k
  · have h1 : lo ≤ x := by omega
    have h2 : x ≤ hi' := by omega
    have h3 := List.all_eq_true.mp hall (x - lo).toNat (List.mem_range.mpr (by omega))
    rw [Bool.or_eq_true, decide_eq_true_eq, decide_eq_true_eq] at h3
    rcases h3 with h3 | h3
    · exact w_tabIn hi h1 h2 h3 ht k
    · exact absurd rfl (nokey_mem hx x (by rwa [show lo + (((x - lo).toNat : Nat) : Int) = x by omega] at h3))
theorem lookOff {dflt x : Int} : ∀ {ps : List (Int × Int)}, (∀ q ∈ ps, q.2 = dflt ∨ x ≠ q.1) → Op.lookupswitch.offset ps dflt x = dflt := by
  intro ps
  induction ps with
  | nil => intro _; rfl
  | cons a r ih =>
    intro h
    obtain ⟨a, o⟩ := a
    rw [Op.lookupswitch.offset_cons]
    split
    next e =>
      rcases h (a, o) List.mem_cons_self with h | h
      · exact h
      · exact absurd e.symm h
    next => exact ih (fun q hq => h q (List.mem_cons_of_mem _ hq))
theorem w_lookDef {dflt : Int} {ps : Array (Int × Int)} {x : Int} {tgt : Nat} {keys : List Int} (hi : lk md pc = some (pc0, Instr.lookupswitch dflt ps, npc, k1, k2, k3, mn)) (hp : (ps.toList.zip (ps.toList.drop 1)).all (fun (a, next) => a.1 < next.1) = true) (hx : nokey x keys) (hall : ps.toList.all (fun q => decide (q.2 = dflt) || decide (q.1 ∈ keys)) = true) (ht : (pc : Int) + dflt = (tgt : Int)) (k : WAt Δ Γ fl md d tgt L st w cells slots) : WAt Δ Γ fl md d pc L (vI x :: st) w cells slots :=
  w_lookup hi hp (lookOff (fun q hq => by
    have h3 := List.all_eq_true.mp hall q hq
    rw [Bool.or_eq_true, decide_eq_true_eq, decide_eq_true_eq] at h3
    exact h3.imp id (fun h e => nokey_mem hx q.1 h e))) ht k
theorem wd_copy : wis 12413 (.static arraycopyName) = true ∧ wis 12414 (.native arraycopyName) = true ∧ wis 4116 (.initialized "java/lang/System") = true := by decide +kernel
theorem w_copy {idx a b la lb c : Nat} (hi : lk md pc = some (pc0, Instr.invokestatic idx, npc, k1, 0, k3, ⟨"java/lang/System", "arraycopy", "(Ljava/lang/Object;ILjava/lang/Object;II)V"⟩)) (h4 : st.length ≤ 4) (ha : a < n) (hsa : S a = (1, 0, [la])) (hb : b < n) (hsb : S b = (1, 0, [lb])) (h1 : c ≤ la) (h2 : c ≤ lb) (h3 : c < 2147483648) (hfl : fl = false) (k : WAt Δ Γ fl md (d + 1) npc L st (n, S, cpy M a b c) cells slots) : WAt Δ Γ fl md (d + 1) pc L (vI (c : Int) :: vI 0 :: vR b :: vI 0 :: vR a :: st) (n, S, M) cells slots := by
  intro F hL hst hM ls H locs hl hP hS hz
  obtain ⟨-, hd, rfl, hq⟩ := lk_ok hi F.good
  have fr := F.fr
  have lo := F.lo
  have hlink : Cond.methodLink md.1.cls idx arraycopyName ∈ tblG := wis_in hq
  have hc : InR (c : Int) := by unfold InR; omega
  have hcc : (Int32.ofInt (c : Int)).toNatClampNeg = c := by rw [iI_clamp hc]; rfl
  have h00 : (Int32.ofInt 0).toNatClampNeg = 0 := rfl
  have hnn : ¬ Int32.ofInt (c : Int) < 0 := by rw [← iI_0, iI_lt hc (by unfold InR; omega)]; omega
  refine va_copyi (D := Δ.2.2.1) (sp := Int32.ofInt 0) (dp := Int32.ofInt 0) (n := Int32.ofInt (c : Int)) (n0 := la) (n1 := lb) (ty := .int) (c0 := Δ.2.2.2 0) (c1 := Δ.2.2.2 0) (f := fun j => Int32.ofInt (M a j)) (g := fun j => Int32.ofInt (M b j)) F.exec F.bytes (F.maxL.trans hl.1.symm) F.own (F.ts _ hlink) (F.ts _ (wis_in wd_copy.2.1)) (F.ts _ (wis_in wd_copy.1)) (F.ts _ (wis_in wd_copy.2.2)) F.kinds hP wL_D hS a b 0 0 (by rw [wL_get ha, hsa]; rfl) (by rw [wL_get hb, hsb]; rfl) rfl rfl rfl (by decide) (by decide) hnn (by rw [hcc, h00]; omega) (by rw [hcc, h00]; omega) (fun i _ => rfl) (by omega) ?_ hd (fun H1 locs1 hP1 _ hS1 => ?_)
  · have hw : nativeFrameWords "java/lang/System" "arraycopy" 5 = 7 := by decide +kernel
    have := cats (B := Δ.2.1) h4
    rw [hw]
    omega
  · rw [hcc, h00] at hP1
    have e : (wL Δ.2.1 Δ.2.2.2 (n, S, M)).set b (Δ.2.1 + b, .inl (Δ.2.2.2 0, lb, .inl (va_cpy (fun j => Int32.ofInt (M a j)) (fun j => Int32.ofInt (M b j)) 0 0 c))) = wL Δ.2.1 Δ.2.2.2 (n, S, cpy M a b c) := by
      rw [← wL_set (S := S) (S' := S) (M := M) (M' := cpy M a b c) (i := b) (fun _ _ => rfl) (fun j hj => by funext q; simp [cpy, hj]), hsb]
      have e2 : va_cpy (fun j => Int32.ofInt (M a j)) (fun j => Int32.ofInt (M b j)) 0 0 c = fun j => Int32.ofInt (cpy M a b c b j) := by
        funext j
        unfold va_cpy cpy
        by_cases hj : j < c
        · simp [hj]
        · simp [hj]
      rw [e2]
      rfl
    rw [e] at hP1
    refine k F hL (fun x hx => hst x (by simp only [List.mem_cons]; exact Or.inr (Or.inr (Or.inr (Or.inr (Or.inr hx)))))) (fun a' k' => ?_) ls H1 locs1 hl hP1 hS1 (fun h => by rw [hfl] at h; cases h)
    show InR (cpy M a b c a' k')
    unfold cpy
    split
    · exact hM a k'
    · exact hM a' k'
theorem wd_max : wis 12330 (.code Lib.Math.max.name Lib.Math.max.code 2 (some .int)) = true ∧ wis 12329 (.static Lib.Math.max.name) = true ∧ wis 4110 (.initialized "java/lang/Math") = true := by decide +kernel
theorem wd_min : wis 8354 (.code Lib.Math.min.name Lib.Math.min.code 2 (some .int)) = true ∧ wis 8353 (.static Lib.Math.min.name) = true ∧ wis 4110 (.initialized "java/lang/Math") = true := by decide +kernel
theorem wd_abs : wis 20623 (.code Lib.Math.abs.name Lib.Math.abs.code 1 (some .int)) = true ∧ wis 20622 (.static Lib.Math.abs.name) = true ∧ wis 4110 (.initialized "java/lang/Math") = true := by decide +kernel
theorem w_mmax {idx : Nat} {x y : Int} (hi : lk md pc = some (pc0, Instr.invokestatic idx, npc, k1, 0, k3, y_jm_max)) (h4 : st.length ≤ 4) (k : WAt Δ Γ fl md (d + 1) npc L (vI (max x y) :: st) w 0 0) : WAt Δ Γ fl md (d + 1) pc L (vI y :: vI x :: st) w 0 0 := by
  intro F hL hst hM ls H locs hl hP hS hz
  obtain ⟨-, hd, rfl, hq⟩ := lk_ok hi F.good
  have fr := F.fr
  have lo := F.lo
  have hlink : Cond.methodLink md.1.cls idx Lib.Math.max.name ∈ tblG := wis_in hq
  have hx : InR x := hst.tl.hd
  have hy : InR y := hst.hd
  refine va_mmax F.exec F.bytes (F.maxL.trans hl.1.symm) F.own (F.ts _ hlink) (F.ts _ (wis_in wd_max.2.1)) (F.ts _ (wis_in wd_max.2.2)) (F.ts _ (wis_in wd_max.1)) (by omega) ?_ (Nat.zero_le _) (Nat.zero_le _) hd ?_
  · have := cats (B := Δ.2.1) h4
    omega
  · have e : (if Int32.ofInt x < Int32.ofInt y then Int32.ofInt y else Int32.ofInt x) = Int32.ofInt (max x y) := by
      by_cases h : x < y
      · rw [if_pos ((iI_lt hx hy).mpr h), show max x y = y by omega]
      · rw [if_neg (fun q => h ((iI_lt hx hy).mp q)), show max x y = x by omega]
    rw [e]
    exact k F hL (hst.tl.tl.cons (show InR (max x y) by unfold InR at *; omega)) hM ls H locs hl hP hS hz
theorem w_mmin {idx : Nat} {x y : Int} (hi : lk md pc = some (pc0, Instr.invokestatic idx, npc, k1, 0, k3, y_jm_min)) (h4 : st.length ≤ 4) (k : WAt Δ Γ fl md (d + 1) npc L (vI (min x y) :: st) w 0 0) : WAt Δ Γ fl md (d + 1) pc L (vI y :: vI x :: st) w 0 0 := by
  intro F hL hst hM ls H locs hl hP hS hz
  obtain ⟨-, hd, rfl, hq⟩ := lk_ok hi F.good
  have fr := F.fr
  have lo := F.lo
  have hlink : Cond.methodLink md.1.cls idx Lib.Math.min.name ∈ tblG := wis_in hq
  have hx : InR x := hst.tl.hd
  have hy : InR y := hst.hd
  refine va_mmin F.exec F.bytes (F.maxL.trans hl.1.symm) F.own (F.ts _ hlink) (F.ts _ (wis_in wd_min.2.1)) (F.ts _ (wis_in wd_min.2.2)) (F.ts _ (wis_in wd_min.1)) (by omega) ?_ (Nat.zero_le _) (Nat.zero_le _) hd ?_
  · have := cats (B := Δ.2.1) h4
    omega
  · have e : (if Int32.ofInt y < Int32.ofInt x then Int32.ofInt y else Int32.ofInt x) = Int32.ofInt (min x y) := by
      by_cases h : y < x
      · rw [if_pos ((iI_lt hy hx).mpr h), show min x y = y by omega]
      · rw [if_neg (fun q => h ((iI_lt hy hx).mp q)), show min x y = x by omega]
    rw [e]
    exact k F hL (hst.tl.tl.cons (show InR (min x y) by unfold InR at *; omega)) hM ls H locs hl hP hS hz
theorem w_mabs {idx : Nat} {x : Int} (hi : lk md pc = some (pc0, Instr.invokestatic idx, npc, k1, 0, k3, y_jm_abs)) (h4 : st.length ≤ 4) (k : WAt Δ Γ fl md (d + 1) npc L (vI (iabs x) :: st) w 0 0) : WAt Δ Γ fl md (d + 1) pc L (vI x :: st) w 0 0 := by
  intro F hL hst hM ls H locs hl hP hS hz
  obtain ⟨-, hd, rfl, hq⟩ := lk_ok hi F.good
  have fr := F.fr
  have lo := F.lo
  have hlink : Cond.methodLink md.1.cls idx Lib.Math.abs.name ∈ tblG := wis_in hq
  have hx : InR x := hst.hd
  have h0 : InR 0 := by unfold InR; omega
  refine va_mabs F.exec F.bytes (F.maxL.trans hl.1.symm) F.own (F.ts _ hlink) (F.ts _ (wis_in wd_abs.2.1)) (F.ts _ (wis_in wd_abs.2.2)) (F.ts _ (wis_in wd_abs.1)) (by omega) ?_ (Nat.zero_le _) (Nat.zero_le _) hd ?_
  · have := cats (B := Δ.2.1) h4
    omega
  · have e : (if 0 ≤ Int32.ofInt x then Int32.ofInt x else 0 - Int32.ofInt x) = Int32.ofInt (iabs x) := by
      have hle : (0 : Int32) ≤ Int32.ofInt x ↔ 0 ≤ x := by rw [← iI_0]; exact iI_le h0 hx
      unfold iabs
      by_cases h : 0 ≤ x
      · rw [if_pos (hle.mpr h), if_pos h]
      · rw [if_neg (fun q => h (hle.mp q)), if_neg h, ← iI_sub]
        rfl
    rw [e]
    exact k F hL (hst.tl.cons (show InR (iabs x) by unfold iabs; split; exact hx; exact wr_in _)) hM ls H locs hl hP hS hz
end MORE

