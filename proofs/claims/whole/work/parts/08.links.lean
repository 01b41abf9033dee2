/-! ===== methods, links, receivers, by program ===== -/
theorem tb1_in {w : Cond} {i : Nat} (h : tables_1_1[i]? = some w) : w ∈ lw_tbl := by
  have h9 := List.mem_of_getElem? h
  exact List.mem_append_right _ (List.mem_append_left _ h9)
theorem tb2_in {w : Cond} {i : Nat} (h : tables_1_2[i]? = some w) : w ∈ lw_tbl := by
  have h9 := List.mem_of_getElem? h
  exact List.mem_append_right _ (List.mem_append_right _ (List.mem_append_left _ h9))
theorem tb3_in {w : Cond} {i : Nat} (h : tables_1_3[i]? = some w) : w ∈ lw_tbl := by
  have h9 := List.mem_of_getElem? h
  exact List.mem_append_right _ (List.mem_append_right _ (List.mem_append_right _ (List.mem_append_left _ h9)))
theorem tb4_in {w : Cond} {i : Nat} (h : tables_1_4[i]? = some w) : w ∈ lw_tbl := by
  have h9 := List.mem_of_getElem? h
  exact List.mem_append_right _ (List.mem_append_right _ (List.mem_append_right _ (List.mem_append_right _ (List.mem_append_left _ h9))))
theorem tb5_in {w : Cond} {i : Nat} (h : tables_1_5[i]? = some w) : w ∈ lw_tbl := by
  have h9 := List.mem_of_getElem? h
  exact List.mem_append_right _ (List.mem_append_right _ (List.mem_append_right _ (List.mem_append_right _ (List.mem_append_right _ (List.mem_append_left _ h9)))))
theorem tb6_in {w : Cond} {i : Nat} (h : tables_1_6[i]? = some w) : w ∈ lw_tbl := by
  have h9 := List.mem_of_getElem? h
  exact List.mem_append_right _ (List.mem_append_right _ (List.mem_append_right _ (List.mem_append_right _ (List.mem_append_right _ (List.mem_append_right _ (List.mem_append_left _ h9))))))
theorem tb7_in {w : Cond} {i : Nat} (h : tables_1_7[i]? = some w) : w ∈ lw_tbl := by
  have h9 := List.mem_of_getElem? h
  exact List.mem_append_right _ (List.mem_append_right _ (List.mem_append_right _ (List.mem_append_right _ (List.mem_append_right _ (List.mem_append_right _ (List.mem_append_right _ (List.mem_append_left _ h9)))))))
theorem tb8_in {w : Cond} {i : Nat} (h : tables_1_8[i]? = some w) : w ∈ lw_tbl := by
  have h9 := List.mem_of_getElem? h
  exact List.mem_append_right _ (List.mem_append_right _ (List.mem_append_right _ (List.mem_append_right _ (List.mem_append_right _ (List.mem_append_right _ (List.mem_append_right _ (List.mem_append_right _ (List.mem_append_left _ h9))))))))
theorem tb9_in {w : Cond} {i : Nat} (h : tables_1_9[i]? = some w) : w ∈ lw_tbl := by
  have h9 := List.mem_of_getElem? h
  exact List.mem_append_right _ (List.mem_append_right _ (List.mem_append_right _ (List.mem_append_right _ (List.mem_append_right _ (List.mem_append_right _ (List.mem_append_right _ (List.mem_append_right _ (List.mem_append_right _ (h9)))))))))
theorem tp_in {w : Cond} {i : Nat} (h : (k2_sels lw_privs)[i]? = some w) : w ∈ lw_tbl := List.mem_append_left _ (List.mem_of_getElem? h)
theorem kd_1 : kd 1 = 11 := by decide +kernel
theorem kd_2 : kd 2 = 9 := by decide +kernel
theorem kd_3 : kd 3 = 8 := by decide +kernel
theorem kd_4 : kd 4 = 20 := by decide +kernel
theorem kd_5 : kd 5 = 23 := by decide +kernel
theorem kd_6 : kd 6 = 24 := by decide +kernel
theorem kd_7 : kd 7 = 20 := by decide +kernel
theorem kd_8 : kd 8 = 1 := by decide +kernel
theorem kd_9 : kd 9 = 20 := by decide +kernel
theorem kd_10 : kd 10 = 20 := by decide +kernel
theorem kd_11 : kd 11 = 20 := by decide +kernel
theorem kd_12 : kd 12 = 20 := by decide +kernel
theorem kd_13 : kd 13 = 20 := by decide +kernel
theorem kd_14 : kd 14 = 1 := by decide +kernel
theorem kd_15 : kd 15 = 20 := by decide +kernel
theorem kd_16 : kd 16 = 20 := by decide +kernel
theorem kd_17 : kd 17 = 20 := by decide +kernel
theorem kd_18 : kd 18 = 20 := by decide +kernel
theorem kd_19 : kd 19 = 20 := by decide +kernel
theorem kd_20 : kd 20 = 2 := by decide +kernel
theorem kd_21 : kd 21 = 20 := by decide +kernel
theorem kd_22 : kd 22 = 20 := by decide +kernel
theorem kd_23 : kd 23 = 20 := by decide +kernel
theorem kd_24 : kd 24 = 2 := by decide +kernel
theorem kd_25 : kd 25 = 20 := by decide +kernel
theorem kd_26 : kd 26 = 20 := by decide +kernel
theorem kd_27 : kd 27 = 20 := by decide +kernel
theorem kd_28 : kd 28 = 2 := by decide +kernel
theorem kd_29 : kd 29 = 20 := by decide +kernel
theorem kd_30 : kd 30 = 20 := by decide +kernel
theorem kd_31 : kd 31 = 20 := by decide +kernel
theorem kd_32 : kd 32 = 2 := by decide +kernel
theorem kd_33 : kd 33 = 20 := by decide +kernel
theorem kd_34 : kd 34 = 20 := by decide +kernel
theorem kd_35 : kd 35 = 20 := by decide +kernel
theorem kd_36 : kd 36 = 2 := by decide +kernel
theorem kd_37 : kd 37 = 20 := by decide +kernel
theorem kd_38 : kd 38 = 20 := by decide +kernel
theorem kd_39 : kd 39 = 20 := by decide +kernel
theorem kd_40 : kd 40 = 2 := by decide +kernel
theorem kd_41 : kd 41 = 20 := by decide +kernel
theorem kd_42 : kd 42 = 20 := by decide +kernel
theorem kd_43 : kd 43 = 20 := by decide +kernel
theorem kd_44 : kd 44 = 26 := by decide +kernel
theorem kd_45 : kd 45 = 22 := by decide +kernel
theorem kd_46 : kd 46 = 4 := by decide +kernel
theorem kd_47 : kd 47 = 1 := by decide +kernel
theorem kd_48 : kd 48 = 20 := by decide +kernel
theorem kd_49 : kd 49 = 20 := by decide +kernel
theorem kd_50 : kd 50 = 20 := by decide +kernel
theorem kd_51 : kd 51 = 20 := by decide +kernel
theorem kd_52 : kd 52 = 20 := by decide +kernel
theorem kd_53 : kd 53 = 2 := by decide +kernel
theorem kd_54 : kd 54 = 20 := by decide +kernel
theorem kd_55 : kd 55 = 20 := by decide +kernel
theorem kd_56 : kd 56 = 20 := by decide +kernel
theorem kd_57 : kd 57 = 7 := by decide +kernel
theorem kd_58 : kd 58 = 25 := by decide +kernel
theorem kd_59 : kd 59 = 20 := by decide +kernel
theorem kd_60 : kd 60 = 20 := by decide +kernel
theorem kd_61 : kd 61 = 20 := by decide +kernel
theorem kd_62 : kd 62 = 20 := by decide +kernel
theorem kd_63 : kd 63 = 20 := by decide +kernel
theorem kd_64 : kd 64 = 1 := by decide +kernel
theorem kd_65 : kd 65 = 20 := by decide +kernel
theorem kd_66 : kd 66 = 20 := by decide +kernel
theorem kd_67 : kd 67 = 20 := by decide +kernel
theorem kd_68 : kd 68 = 20 := by decide +kernel
theorem kd_69 : kd 69 = 20 := by decide +kernel
theorem kd_70 : kd 70 = 0 := by decide +kernel
theorem kd_71 : kd 71 = 20 := by decide +kernel
theorem kd_72 : kd 72 = 20 := by decide +kernel
theorem kd_73 : kd 73 = 20 := by decide +kernel
theorem kd_74 : kd 74 = 0 := by decide +kernel
theorem kd_75 : kd 75 = 20 := by decide +kernel
theorem kd_76 : kd 76 = 20 := by decide +kernel
theorem kd_77 : kd 77 = 20 := by decide +kernel
theorem kd_78 : kd 78 = 0 := by decide +kernel
theorem kd_79 : kd 79 = 20 := by decide +kernel
theorem kd_80 : kd 80 = 20 := by decide +kernel
theorem kd_81 : kd 81 = 20 := by decide +kernel
theorem kd_82 : kd 82 = 0 := by decide +kernel
theorem kd_83 : kd 83 = 20 := by decide +kernel
theorem kd_84 : kd 84 = 20 := by decide +kernel
theorem kd_85 : kd 85 = 20 := by decide +kernel
theorem kd_86 : kd 86 = 0 := by decide +kernel
theorem kd_87 : kd 87 = 20 := by decide +kernel
theorem kd_88 : kd 88 = 20 := by decide +kernel
theorem kd_89 : kd 89 = 20 := by decide +kernel
theorem kd_90 : kd 90 = 5 := by decide +kernel
theorem kd_91 : kd 91 = 0 := by decide +kernel
theorem kd_92 : kd 92 = 20 := by decide +kernel
theorem kd_93 : kd 93 = 20 := by decide +kernel
theorem kd_94 : kd 94 = 20 := by decide +kernel
theorem kd_95 : kd 95 = 20 := by decide +kernel
theorem kd_96 : kd 96 = 20 := by decide +kernel
theorem kd_97 : kd 97 = 20 := by decide +kernel
theorem kd_98 : kd 98 = 20 := by decide +kernel
theorem kd_99 : kd 99 = 6 := by decide +kernel
theorem kd_100 : kd 100 = 20 := by decide +kernel
theorem kd_101 : kd 101 = 20 := by decide +kernel
theorem kd_102 : kd 102 = 20 := by decide +kernel
theorem kd_103 : kd 103 = 20 := by decide +kernel
theorem kd_104 : kd 104 = 20 := by decide +kernel
theorem kd_105 : kd 105 = 20 := by decide +kernel
theorem kd_106 : kd 106 = 20 := by decide +kernel
theorem kd_107 : kd 107 = 1 := by decide +kernel
theorem kd_108 : kd 108 = 20 := by decide +kernel
theorem kd_109 : kd 109 = 20 := by decide +kernel
theorem kd_110 : kd 110 = 20 := by decide +kernel
theorem kd_111 : kd 111 = 20 := by decide +kernel
theorem kd_112 : kd 112 = 20 := by decide +kernel
theorem kd_113 : kd 113 = 10 := by decide +kernel
theorem kd_114 : kd 114 = 20 := by decide +kernel
theorem kd_115 : kd 115 = 20 := by decide +kernel
theorem kd_116 : kd 116 = 20 := by decide +kernel
theorem kd_117 : kd 117 = 1 := by decide +kernel
theorem kd_118 : kd 118 = 20 := by decide +kernel
theorem kd_119 : kd 119 = 20 := by decide +kernel
theorem kd_120 : kd 120 = 20 := by decide +kernel
theorem kd_121 : kd 121 = 20 := by decide +kernel
theorem kd_122 : kd 122 = 20 := by decide +kernel
theorem kd_123 : kd 123 = 3 := by decide +kernel
theorem kd_124 : kd 124 = 20 := by decide +kernel
theorem kd_125 : kd 125 = 9 := by decide +kernel
theorem kd_126 : kd 126 = 8 := by decide +kernel
theorem kd_127 : kd 127 = 20 := by decide +kernel
theorem kd_128 : kd 128 = 23 := by decide +kernel
theorem kd_129 : kd 129 = 24 := by decide +kernel
theorem kd_130 : kd 130 = 20 := by decide +kernel
theorem kd_131 : kd 131 = 1 := by decide +kernel
theorem kd_132 : kd 132 = 20 := by decide +kernel
theorem kd_133 : kd 133 = 20 := by decide +kernel
theorem kd_134 : kd 134 = 20 := by decide +kernel
theorem kd_135 : kd 135 = 20 := by decide +kernel
theorem kd_136 : kd 136 = 20 := by decide +kernel
theorem kd_137 : kd 137 = 1 := by decide +kernel
theorem kd_138 : kd 138 = 20 := by decide +kernel
theorem kd_139 : kd 139 = 20 := by decide +kernel
theorem kd_140 : kd 140 = 20 := by decide +kernel
theorem kd_141 : kd 141 = 20 := by decide +kernel
theorem kd_142 : kd 142 = 20 := by decide +kernel
theorem kd_143 : kd 143 = 2 := by decide +kernel
theorem kd_144 : kd 144 = 20 := by decide +kernel
theorem kd_145 : kd 145 = 20 := by decide +kernel
theorem kd_146 : kd 146 = 20 := by decide +kernel
theorem kd_147 : kd 147 = 2 := by decide +kernel
theorem kd_148 : kd 148 = 20 := by decide +kernel
theorem kd_149 : kd 149 = 20 := by decide +kernel
theorem kd_150 : kd 150 = 20 := by decide +kernel
theorem kd_151 : kd 151 = 2 := by decide +kernel
theorem kd_152 : kd 152 = 20 := by decide +kernel
theorem kd_153 : kd 153 = 20 := by decide +kernel
theorem kd_154 : kd 154 = 20 := by decide +kernel
theorem kd_155 : kd 155 = 2 := by decide +kernel
theorem kd_156 : kd 156 = 20 := by decide +kernel
theorem kd_157 : kd 157 = 20 := by decide +kernel
theorem kd_158 : kd 158 = 20 := by decide +kernel
theorem kd_159 : kd 159 = 2 := by decide +kernel
theorem kd_160 : kd 160 = 20 := by decide +kernel
theorem kd_161 : kd 161 = 20 := by decide +kernel
theorem kd_162 : kd 162 = 20 := by decide +kernel
theorem kd_163 : kd 163 = 2 := by decide +kernel
theorem kd_164 : kd 164 = 20 := by decide +kernel
theorem kd_165 : kd 165 = 20 := by decide +kernel
theorem kd_166 : kd 166 = 20 := by decide +kernel
theorem kd_167 : kd 167 = 9 := by decide +kernel
theorem kd_168 : kd 168 = 8 := by decide +kernel
theorem kd_169 : kd 169 = 20 := by decide +kernel
theorem kd_170 : kd 170 = 23 := by decide +kernel
theorem kd_171 : kd 171 = 24 := by decide +kernel
theorem kd_172 : kd 172 = 20 := by decide +kernel
theorem kd_173 : kd 173 = 1 := by decide +kernel
theorem kd_174 : kd 174 = 20 := by decide +kernel
theorem kd_175 : kd 175 = 20 := by decide +kernel
theorem kd_176 : kd 176 = 20 := by decide +kernel
theorem kd_177 : kd 177 = 20 := by decide +kernel
theorem kd_178 : kd 178 = 20 := by decide +kernel
theorem kd_179 : kd 179 = 1 := by decide +kernel
theorem kd_180 : kd 180 = 20 := by decide +kernel
theorem kd_181 : kd 181 = 20 := by decide +kernel
theorem kd_182 : kd 182 = 20 := by decide +kernel
theorem kd_183 : kd 183 = 20 := by decide +kernel
theorem kd_184 : kd 184 = 20 := by decide +kernel
theorem kd_185 : kd 185 = 2 := by decide +kernel
theorem kd_186 : kd 186 = 20 := by decide +kernel
theorem kd_187 : kd 187 = 20 := by decide +kernel
theorem kd_188 : kd 188 = 20 := by decide +kernel
theorem kd_189 : kd 189 = 2 := by decide +kernel
theorem kd_190 : kd 190 = 20 := by decide +kernel
theorem kd_191 : kd 191 = 20 := by decide +kernel
theorem kd_192 : kd 192 = 20 := by decide +kernel
theorem kd_193 : kd 193 = 2 := by decide +kernel
theorem kd_194 : kd 194 = 20 := by decide +kernel
theorem kd_195 : kd 195 = 20 := by decide +kernel
theorem kd_196 : kd 196 = 20 := by decide +kernel
theorem kd_197 : kd 197 = 2 := by decide +kernel
theorem kd_198 : kd 198 = 20 := by decide +kernel
theorem kd_199 : kd 199 = 20 := by decide +kernel
theorem kd_200 : kd 200 = 20 := by decide +kernel
theorem kd_201 : kd 201 = 2 := by decide +kernel
theorem kd_202 : kd 202 = 20 := by decide +kernel
theorem kd_203 : kd 203 = 20 := by decide +kernel
theorem kd_204 : kd 204 = 20 := by decide +kernel
theorem kd_205 : kd 205 = 2 := by decide +kernel
theorem kd_206 : kd 206 = 20 := by decide +kernel
theorem kd_207 : kd 207 = 20 := by decide +kernel
theorem kd_208 : kd 208 = 20 := by decide +kernel
theorem kd_209 : kd 209 = 9 := by decide +kernel
theorem kd_210 : kd 210 = 8 := by decide +kernel
theorem kd_211 : kd 211 = 20 := by decide +kernel
theorem kd_212 : kd 212 = 23 := by decide +kernel
theorem kd_213 : kd 213 = 24 := by decide +kernel
theorem kd_214 : kd 214 = 20 := by decide +kernel
theorem kd_215 : kd 215 = 1 := by decide +kernel
theorem kd_216 : kd 216 = 20 := by decide +kernel
theorem kd_217 : kd 217 = 20 := by decide +kernel
theorem kd_218 : kd 218 = 20 := by decide +kernel
theorem kd_219 : kd 219 = 20 := by decide +kernel
theorem kd_220 : kd 220 = 20 := by decide +kernel
theorem kd_221 : kd 221 = 1 := by decide +kernel
theorem kd_222 : kd 222 = 20 := by decide +kernel
theorem kd_223 : kd 223 = 20 := by decide +kernel
theorem kd_224 : kd 224 = 20 := by decide +kernel
theorem kd_225 : kd 225 = 20 := by decide +kernel
theorem kd_226 : kd 226 = 20 := by decide +kernel
theorem kd_227 : kd 227 = 2 := by decide +kernel
theorem kd_228 : kd 228 = 20 := by decide +kernel
theorem kd_229 : kd 229 = 20 := by decide +kernel
theorem kd_230 : kd 230 = 20 := by decide +kernel
theorem kd_231 : kd 231 = 2 := by decide +kernel
theorem kd_232 : kd 232 = 20 := by decide +kernel
theorem kd_233 : kd 233 = 20 := by decide +kernel
theorem kd_234 : kd 234 = 20 := by decide +kernel
theorem kd_235 : kd 235 = 2 := by decide +kernel
theorem kd_236 : kd 236 = 20 := by decide +kernel
theorem kd_237 : kd 237 = 20 := by decide +kernel
theorem kd_238 : kd 238 = 20 := by decide +kernel
theorem kd_239 : kd 239 = 2 := by decide +kernel
theorem kd_240 : kd 240 = 20 := by decide +kernel
theorem kd_241 : kd 241 = 20 := by decide +kernel
theorem kd_242 : kd 242 = 20 := by decide +kernel
theorem kd_243 : kd 243 = 2 := by decide +kernel
theorem kd_244 : kd 244 = 20 := by decide +kernel
theorem kd_245 : kd 245 = 20 := by decide +kernel
theorem kd_246 : kd 246 = 20 := by decide +kernel
theorem kd_247 : kd 247 = 2 := by decide +kernel
theorem kd_248 : kd 248 = 20 := by decide +kernel
theorem kd_249 : kd 249 = 20 := by decide +kernel
theorem kd_250 : kd 250 = 20 := by decide +kernel
theorem kd_251 : kd 251 = 12 := by decide +kernel
theorem kd_252 : kd 252 = 21 := by decide +kernel
theorem kd_253 : kd 253 = 20 := by decide +kernel
theorem kd_254 : kd 254 = 20 := by decide +kernel
theorem kd_255 : kd 255 = 20 := by decide +kernel
theorem kd_256 : kd 256 = 20 := by decide +kernel
theorem kd_257 : kd 257 = 20 := by decide +kernel
theorem kd_258 : kd 258 = 20 := by decide +kernel
theorem kd_259 : kd 259 = 20 := by decide +kernel
theorem kd_260 : kd 260 = 20 := by decide +kernel
theorem kd_261 : kd 261 = 20 := by decide +kernel
theorem kd_262 : kd 262 = 20 := by decide +kernel
theorem kd_263 : kd 263 = 20 := by decide +kernel
theorem kd_264 : kd 264 = 20 := by decide +kernel
theorem kd_265 : kd 265 = 20 := by decide +kernel
theorem kd_266 : kd 266 = 20 := by decide +kernel
theorem kd_267 : kd 267 = 20 := by decide +kernel
theorem kd_268 : kd 268 = 20 := by decide +kernel
theorem kd_269 : kd 269 = 20 := by decide +kernel
theorem kd_270 : kd 270 = 20 := by decide +kernel
theorem kd_271 : kd 271 = 20 := by decide +kernel
theorem kd_272 : kd 272 = 20 := by decide +kernel
theorem kd_273 : kd 273 = 20 := by decide +kernel
theorem kd_274 : kd 274 = 20 := by decide +kernel
theorem kd_275 : kd 275 = 20 := by decide +kernel
theorem kd_276 : kd 276 = 20 := by decide +kernel
theorem kd_277 : kd 277 = 20 := by decide +kernel
theorem kd_278 : kd 278 = 20 := by decide +kernel
theorem kd_279 : kd 279 = 20 := by decide +kernel
theorem kd_280 : kd 280 = 22 := by decide +kernel
theorem ln_4 : ln 4 = 600 := by decide +kernel
theorem ln_5 : ln 5 = 2 := by decide +kernel
theorem ln_6 : ln 6 = 8 := by decide +kernel
theorem ln_7 : ln 7 = 4 := by decide +kernel
theorem ln_9 : ln 9 = 5 := by decide +kernel
theorem ln_10 : ln 10 = 5 := by decide +kernel
theorem ln_11 : ln 11 = 5 := by decide +kernel
theorem ln_12 : ln 12 = 8 := by decide +kernel
theorem ln_13 : ln 13 = 8 := by decide +kernel
theorem ln_15 : ln 15 = 5 := by decide +kernel
theorem ln_16 : ln 16 = 5 := by decide +kernel
theorem ln_17 : ln 17 = 5 := by decide +kernel
theorem ln_18 : ln 18 = 8 := by decide +kernel
theorem ln_19 : ln 19 = 8 := by decide +kernel
theorem ln_21 : ln 21 = 40 := by decide +kernel
theorem ln_22 : ln 22 = 40 := by decide +kernel
theorem ln_23 : ln 23 = 40 := by decide +kernel
theorem ln_25 : ln 25 = 40 := by decide +kernel
theorem ln_26 : ln 26 = 40 := by decide +kernel
theorem ln_27 : ln 27 = 40 := by decide +kernel
theorem ln_29 : ln 29 = 10 := by decide +kernel
theorem ln_30 : ln 30 = 10 := by decide +kernel
theorem ln_31 : ln 31 = 10 := by decide +kernel
theorem ln_33 : ln 33 = 10 := by decide +kernel
theorem ln_34 : ln 34 = 10 := by decide +kernel
theorem ln_35 : ln 35 = 10 := by decide +kernel
theorem ln_37 : ln 37 = 7 := by decide +kernel
theorem ln_38 : ln 38 = 7 := by decide +kernel
theorem ln_39 : ln 39 = 7 := by decide +kernel
theorem ln_41 : ln 41 = 7 := by decide +kernel
theorem ln_42 : ln 42 = 7 := by decide +kernel
theorem ln_43 : ln 43 = 7 := by decide +kernel
theorem ln_44 : ln 44 = 3 := by decide +kernel
theorem ln_45 : ln 45 = 3 := by decide +kernel
theorem ln_48 : ln 48 = 5 := by decide +kernel
theorem ln_49 : ln 49 = 5 := by decide +kernel
theorem ln_50 : ln 50 = 5 := by decide +kernel
theorem ln_51 : ln 51 = 8 := by decide +kernel
theorem ln_52 : ln 52 = 8 := by decide +kernel
theorem ln_54 : ln 54 = 40 := by decide +kernel
theorem ln_55 : ln 55 = 40 := by decide +kernel
theorem ln_56 : ln 56 = 40 := by decide +kernel
theorem ln_58 : ln 58 = 5 := by decide +kernel
theorem ln_59 : ln 59 = 8 := by decide +kernel
theorem ln_60 : ln 60 = 8 := by decide +kernel
theorem ln_61 : ln 61 = 8 := by decide +kernel
theorem ln_62 : ln 62 = 64 := by decide +kernel
theorem ln_63 : ln 63 = 5 := by decide +kernel
theorem ln_65 : ln 65 = 5 := by decide +kernel
theorem ln_66 : ln 66 = 5 := by decide +kernel
theorem ln_67 : ln 67 = 5 := by decide +kernel
theorem ln_68 : ln 68 = 8 := by decide +kernel
theorem ln_69 : ln 69 = 8 := by decide +kernel
theorem ln_71 : ln 71 = 12 := by decide +kernel
theorem ln_72 : ln 72 = 12 := by decide +kernel
theorem ln_73 : ln 73 = 12 := by decide +kernel
theorem ln_75 : ln 75 = 12 := by decide +kernel
theorem ln_76 : ln 76 = 12 := by decide +kernel
theorem ln_77 : ln 77 = 12 := by decide +kernel
theorem ln_79 : ln 79 = 12 := by decide +kernel
theorem ln_80 : ln 80 = 12 := by decide +kernel
theorem ln_81 : ln 81 = 12 := by decide +kernel
theorem ln_83 : ln 83 = 12 := by decide +kernel
theorem ln_84 : ln 84 = 12 := by decide +kernel
theorem ln_85 : ln 85 = 12 := by decide +kernel
theorem ln_87 : ln 87 = 12 := by decide +kernel
theorem ln_88 : ln 88 = 12 := by decide +kernel
theorem ln_89 : ln 89 = 12 := by decide +kernel
theorem ln_92 : ln 92 = 12 := by decide +kernel
theorem ln_93 : ln 93 = 12 := by decide +kernel
theorem ln_94 : ln 94 = 12 := by decide +kernel
theorem ln_95 : ln 95 = 20 := by decide +kernel
theorem ln_96 : ln 96 = 5 := by decide +kernel
theorem ln_97 : ln 97 = 4 := by decide +kernel
theorem ln_98 : ln 98 = 7 := by decide +kernel
theorem ln_100 : ln 100 = 6 := by decide +kernel
theorem ln_101 : ln 101 = 6 := by decide +kernel
theorem ln_102 : ln 102 = 6 := by decide +kernel
theorem ln_103 : ln 103 = 5 := by decide +kernel
theorem ln_104 : ln 104 = 5 := by decide +kernel
theorem ln_105 : ln 105 = 6 := by decide +kernel
theorem ln_106 : ln 106 = 6 := by decide +kernel
theorem ln_108 : ln 108 = 5 := by decide +kernel
theorem ln_109 : ln 109 = 5 := by decide +kernel
theorem ln_110 : ln 110 = 5 := by decide +kernel
theorem ln_111 : ln 111 = 8 := by decide +kernel
theorem ln_112 : ln 112 = 8 := by decide +kernel
theorem ln_114 : ln 114 = 5 := by decide +kernel
theorem ln_115 : ln 115 = 5 := by decide +kernel
theorem ln_116 : ln 116 = 5 := by decide +kernel
theorem ln_118 : ln 118 = 5 := by decide +kernel
theorem ln_119 : ln 119 = 5 := by decide +kernel
theorem ln_120 : ln 120 = 5 := by decide +kernel
theorem ln_121 : ln 121 = 8 := by decide +kernel
theorem ln_122 : ln 122 = 8 := by decide +kernel
theorem ln_124 : ln 124 = 256 := by decide +kernel
theorem ln_127 : ln 127 = 600 := by decide +kernel
theorem ln_128 : ln 128 = 2 := by decide +kernel
theorem ln_129 : ln 129 = 8 := by decide +kernel
theorem ln_130 : ln 130 = 4 := by decide +kernel
theorem ln_132 : ln 132 = 5 := by decide +kernel
theorem ln_133 : ln 133 = 5 := by decide +kernel
theorem ln_134 : ln 134 = 5 := by decide +kernel
theorem ln_135 : ln 135 = 8 := by decide +kernel
theorem ln_136 : ln 136 = 8 := by decide +kernel
theorem ln_138 : ln 138 = 5 := by decide +kernel
theorem ln_139 : ln 139 = 5 := by decide +kernel
theorem ln_140 : ln 140 = 5 := by decide +kernel
theorem ln_141 : ln 141 = 8 := by decide +kernel
theorem ln_142 : ln 142 = 8 := by decide +kernel
theorem ln_144 : ln 144 = 40 := by decide +kernel
theorem ln_145 : ln 145 = 40 := by decide +kernel
theorem ln_146 : ln 146 = 40 := by decide +kernel
theorem ln_148 : ln 148 = 40 := by decide +kernel
theorem ln_149 : ln 149 = 40 := by decide +kernel
theorem ln_150 : ln 150 = 40 := by decide +kernel
theorem ln_152 : ln 152 = 10 := by decide +kernel
theorem ln_153 : ln 153 = 10 := by decide +kernel
theorem ln_154 : ln 154 = 10 := by decide +kernel
theorem ln_156 : ln 156 = 10 := by decide +kernel
theorem ln_157 : ln 157 = 10 := by decide +kernel
theorem ln_158 : ln 158 = 10 := by decide +kernel
theorem ln_160 : ln 160 = 7 := by decide +kernel
theorem ln_161 : ln 161 = 7 := by decide +kernel
theorem ln_162 : ln 162 = 7 := by decide +kernel
theorem ln_164 : ln 164 = 7 := by decide +kernel
theorem ln_165 : ln 165 = 7 := by decide +kernel
theorem ln_166 : ln 166 = 7 := by decide +kernel
theorem ln_169 : ln 169 = 600 := by decide +kernel
theorem ln_170 : ln 170 = 2 := by decide +kernel
theorem ln_171 : ln 171 = 8 := by decide +kernel
theorem ln_172 : ln 172 = 4 := by decide +kernel
theorem ln_174 : ln 174 = 5 := by decide +kernel
theorem ln_175 : ln 175 = 5 := by decide +kernel
theorem ln_176 : ln 176 = 5 := by decide +kernel
theorem ln_177 : ln 177 = 8 := by decide +kernel
theorem ln_178 : ln 178 = 8 := by decide +kernel
theorem ln_180 : ln 180 = 5 := by decide +kernel
theorem ln_181 : ln 181 = 5 := by decide +kernel
theorem ln_182 : ln 182 = 5 := by decide +kernel
theorem ln_183 : ln 183 = 8 := by decide +kernel
theorem ln_184 : ln 184 = 8 := by decide +kernel
theorem ln_186 : ln 186 = 40 := by decide +kernel
theorem ln_187 : ln 187 = 40 := by decide +kernel
theorem ln_188 : ln 188 = 40 := by decide +kernel
theorem ln_190 : ln 190 = 40 := by decide +kernel
theorem ln_191 : ln 191 = 40 := by decide +kernel
theorem ln_192 : ln 192 = 40 := by decide +kernel
theorem ln_194 : ln 194 = 10 := by decide +kernel
theorem ln_195 : ln 195 = 10 := by decide +kernel
theorem ln_196 : ln 196 = 10 := by decide +kernel
theorem ln_198 : ln 198 = 10 := by decide +kernel
theorem ln_199 : ln 199 = 10 := by decide +kernel
theorem ln_200 : ln 200 = 10 := by decide +kernel
theorem ln_202 : ln 202 = 7 := by decide +kernel
theorem ln_203 : ln 203 = 7 := by decide +kernel
theorem ln_204 : ln 204 = 7 := by decide +kernel
theorem ln_206 : ln 206 = 7 := by decide +kernel
theorem ln_207 : ln 207 = 7 := by decide +kernel
theorem ln_208 : ln 208 = 7 := by decide +kernel
theorem ln_211 : ln 211 = 600 := by decide +kernel
theorem ln_212 : ln 212 = 2 := by decide +kernel
theorem ln_213 : ln 213 = 8 := by decide +kernel
theorem ln_214 : ln 214 = 4 := by decide +kernel
theorem ln_216 : ln 216 = 5 := by decide +kernel
theorem ln_217 : ln 217 = 5 := by decide +kernel
theorem ln_218 : ln 218 = 5 := by decide +kernel
theorem ln_219 : ln 219 = 8 := by decide +kernel
theorem ln_220 : ln 220 = 8 := by decide +kernel
theorem ln_222 : ln 222 = 5 := by decide +kernel
theorem ln_223 : ln 223 = 5 := by decide +kernel
theorem ln_224 : ln 224 = 5 := by decide +kernel
theorem ln_225 : ln 225 = 8 := by decide +kernel
theorem ln_226 : ln 226 = 8 := by decide +kernel
theorem ln_228 : ln 228 = 40 := by decide +kernel
theorem ln_229 : ln 229 = 40 := by decide +kernel
theorem ln_230 : ln 230 = 40 := by decide +kernel
theorem ln_232 : ln 232 = 40 := by decide +kernel
theorem ln_233 : ln 233 = 40 := by decide +kernel
theorem ln_234 : ln 234 = 40 := by decide +kernel
theorem ln_236 : ln 236 = 10 := by decide +kernel
theorem ln_237 : ln 237 = 10 := by decide +kernel
theorem ln_238 : ln 238 = 10 := by decide +kernel
theorem ln_240 : ln 240 = 10 := by decide +kernel
theorem ln_241 : ln 241 = 10 := by decide +kernel
theorem ln_242 : ln 242 = 10 := by decide +kernel
theorem ln_244 : ln 244 = 7 := by decide +kernel
theorem ln_245 : ln 245 = 7 := by decide +kernel
theorem ln_246 : ln 246 = 7 := by decide +kernel
theorem ln_248 : ln 248 = 7 := by decide +kernel
theorem ln_249 : ln 249 = 7 := by decide +kernel
theorem ln_250 : ln 250 = 7 := by decide +kernel
theorem ln_252 : ln 252 = 2400 := by decide +kernel
theorem ln_253 : ln 253 = 4 := by decide +kernel
theorem ln_254 : ln 254 = 4 := by decide +kernel
theorem ln_255 : ln 255 = 4 := by decide +kernel
theorem ln_256 : ln 256 = 16 := by decide +kernel
theorem ln_257 : ln 257 = 264 := by decide +kernel
theorem ln_258 : ln 258 = 968 := by decide +kernel
theorem ln_259 : ln 259 = 248 := by decide +kernel
theorem ln_260 : ln 260 = 64 := by decide +kernel
theorem ln_261 : ln 261 = 121 := by decide +kernel
theorem ln_262 : ln 262 = 3 := by decide +kernel
theorem ln_263 : ln 263 = 80 := by decide +kernel
theorem ln_264 : ln 264 = 80 := by decide +kernel
theorem ln_265 : ln 265 = 80 := by decide +kernel
theorem ln_266 : ln 266 = 5 := by decide +kernel
theorem ln_267 : ln 267 = 5 := by decide +kernel
theorem ln_268 : ln 268 = 5 := by decide +kernel
theorem ln_269 : ln 269 = 5 := by decide +kernel
theorem ln_270 : ln 270 = 8 := by decide +kernel
theorem ln_271 : ln 271 = 8 := by decide +kernel
theorem ln_272 : ln 272 = 64 := by decide +kernel
theorem ln_273 : ln 273 = 8 := by decide +kernel
theorem ln_274 : ln 274 = 8 := by decide +kernel
theorem ln_275 : ln 275 = 5 := by decide +kernel
theorem ln_276 : ln 276 = 8 := by decide +kernel
theorem ln_277 : ln 277 = 8 := by decide +kernel
theorem ln_278 : ln 278 = 256 := by decide +kernel
theorem ln_279 : ln 279 = 1536 := by decide +kernel
theorem ln_280 : ln 280 = 3 := by decide +kernel
theorem rcv_1 : Rcv 1 RX11 := Or.inl ⟨by rw [kd_1]; decide, by rw [kd_1]; rfl⟩
theorem rcv_2 : Rcv 2 RX9 := Or.inl ⟨by rw [kd_2]; decide, by rw [kd_2]; rfl⟩
theorem rcv_3 : Rcv 3 RX8 := Or.inl ⟨by rw [kd_3]; decide, by rw [kd_3]; rfl⟩
theorem rcv_8 : Rcv 8 RX1 := Or.inl ⟨by rw [kd_8]; decide, by rw [kd_8]; rfl⟩
theorem rcv_14 : Rcv 14 RX1 := Or.inl ⟨by rw [kd_14]; decide, by rw [kd_14]; rfl⟩
theorem rcv_20 : Rcv 20 RX2 := Or.inl ⟨by rw [kd_20]; decide, by rw [kd_20]; rfl⟩
theorem rcv_24 : Rcv 24 RX2 := Or.inl ⟨by rw [kd_24]; decide, by rw [kd_24]; rfl⟩
theorem rcv_28 : Rcv 28 RX2 := Or.inl ⟨by rw [kd_28]; decide, by rw [kd_28]; rfl⟩
theorem rcv_32 : Rcv 32 RX2 := Or.inl ⟨by rw [kd_32]; decide, by rw [kd_32]; rfl⟩
theorem rcv_36 : Rcv 36 RX2 := Or.inl ⟨by rw [kd_36]; decide, by rw [kd_36]; rfl⟩
theorem rcv_40 : Rcv 40 RX2 := Or.inl ⟨by rw [kd_40]; decide, by rw [kd_40]; rfl⟩
theorem rcv_46 : Rcv 46 RX4 := Or.inl ⟨by rw [kd_46]; decide, by rw [kd_46]; rfl⟩
theorem rcv_47 : Rcv 47 RX1 := Or.inl ⟨by rw [kd_47]; decide, by rw [kd_47]; rfl⟩
theorem rcv_53 : Rcv 53 RX2 := Or.inl ⟨by rw [kd_53]; decide, by rw [kd_53]; rfl⟩
theorem rcv_57 : Rcv 57 RX7 := Or.inl ⟨by rw [kd_57]; decide, by rw [kd_57]; rfl⟩
theorem rcv_64 : Rcv 64 RX1 := Or.inl ⟨by rw [kd_64]; decide, by rw [kd_64]; rfl⟩
theorem rcv_70 : Rcv 70 RX0 := Or.inl ⟨by rw [kd_70]; decide, by rw [kd_70]; rfl⟩
theorem rcv_74 : Rcv 74 RX0 := Or.inl ⟨by rw [kd_74]; decide, by rw [kd_74]; rfl⟩
theorem rcv_78 : Rcv 78 RX0 := Or.inl ⟨by rw [kd_78]; decide, by rw [kd_78]; rfl⟩
theorem rcv_82 : Rcv 82 RX0 := Or.inl ⟨by rw [kd_82]; decide, by rw [kd_82]; rfl⟩
theorem rcv_86 : Rcv 86 RX0 := Or.inl ⟨by rw [kd_86]; decide, by rw [kd_86]; rfl⟩
theorem rcv_90 : Rcv 90 RX5 := Or.inl ⟨by rw [kd_90]; decide, by rw [kd_90]; rfl⟩
theorem rcv_91 : Rcv 91 RX0 := Or.inl ⟨by rw [kd_91]; decide, by rw [kd_91]; rfl⟩
theorem rcv_99 : Rcv 99 RX6 := Or.inl ⟨by rw [kd_99]; decide, by rw [kd_99]; rfl⟩
theorem rcv_107 : Rcv 107 RX1 := Or.inl ⟨by rw [kd_107]; decide, by rw [kd_107]; rfl⟩
theorem rcv_113 : Rcv 113 RX10 := Or.inl ⟨by rw [kd_113]; decide, by rw [kd_113]; rfl⟩
theorem rcv_117 : Rcv 117 RX1 := Or.inl ⟨by rw [kd_117]; decide, by rw [kd_117]; rfl⟩
theorem rcv_123 : Rcv 123 RX3 := Or.inl ⟨by rw [kd_123]; decide, by rw [kd_123]; rfl⟩
theorem rcv_125 : Rcv 125 RX9 := Or.inl ⟨by rw [kd_125]; decide, by rw [kd_125]; rfl⟩
theorem rcv_126 : Rcv 126 RX8 := Or.inl ⟨by rw [kd_126]; decide, by rw [kd_126]; rfl⟩
theorem rcv_131 : Rcv 131 RX1 := Or.inl ⟨by rw [kd_131]; decide, by rw [kd_131]; rfl⟩
theorem rcv_137 : Rcv 137 RX1 := Or.inl ⟨by rw [kd_137]; decide, by rw [kd_137]; rfl⟩
theorem rcv_143 : Rcv 143 RX2 := Or.inl ⟨by rw [kd_143]; decide, by rw [kd_143]; rfl⟩
theorem rcv_147 : Rcv 147 RX2 := Or.inl ⟨by rw [kd_147]; decide, by rw [kd_147]; rfl⟩
theorem rcv_151 : Rcv 151 RX2 := Or.inl ⟨by rw [kd_151]; decide, by rw [kd_151]; rfl⟩
theorem rcv_155 : Rcv 155 RX2 := Or.inl ⟨by rw [kd_155]; decide, by rw [kd_155]; rfl⟩
theorem rcv_159 : Rcv 159 RX2 := Or.inl ⟨by rw [kd_159]; decide, by rw [kd_159]; rfl⟩
theorem rcv_163 : Rcv 163 RX2 := Or.inl ⟨by rw [kd_163]; decide, by rw [kd_163]; rfl⟩
theorem rcv_167 : Rcv 167 RX9 := Or.inl ⟨by rw [kd_167]; decide, by rw [kd_167]; rfl⟩
theorem rcv_168 : Rcv 168 RX8 := Or.inl ⟨by rw [kd_168]; decide, by rw [kd_168]; rfl⟩
theorem rcv_173 : Rcv 173 RX1 := Or.inl ⟨by rw [kd_173]; decide, by rw [kd_173]; rfl⟩
theorem rcv_179 : Rcv 179 RX1 := Or.inl ⟨by rw [kd_179]; decide, by rw [kd_179]; rfl⟩
theorem rcv_185 : Rcv 185 RX2 := Or.inl ⟨by rw [kd_185]; decide, by rw [kd_185]; rfl⟩
theorem rcv_189 : Rcv 189 RX2 := Or.inl ⟨by rw [kd_189]; decide, by rw [kd_189]; rfl⟩
theorem rcv_193 : Rcv 193 RX2 := Or.inl ⟨by rw [kd_193]; decide, by rw [kd_193]; rfl⟩
theorem rcv_197 : Rcv 197 RX2 := Or.inl ⟨by rw [kd_197]; decide, by rw [kd_197]; rfl⟩
theorem rcv_201 : Rcv 201 RX2 := Or.inl ⟨by rw [kd_201]; decide, by rw [kd_201]; rfl⟩
theorem rcv_205 : Rcv 205 RX2 := Or.inl ⟨by rw [kd_205]; decide, by rw [kd_205]; rfl⟩
theorem rcv_209 : Rcv 209 RX9 := Or.inl ⟨by rw [kd_209]; decide, by rw [kd_209]; rfl⟩
theorem rcv_210 : Rcv 210 RX8 := Or.inl ⟨by rw [kd_210]; decide, by rw [kd_210]; rfl⟩
theorem rcv_215 : Rcv 215 RX1 := Or.inl ⟨by rw [kd_215]; decide, by rw [kd_215]; rfl⟩
theorem rcv_221 : Rcv 221 RX1 := Or.inl ⟨by rw [kd_221]; decide, by rw [kd_221]; rfl⟩
theorem rcv_227 : Rcv 227 RX2 := Or.inl ⟨by rw [kd_227]; decide, by rw [kd_227]; rfl⟩
theorem rcv_231 : Rcv 231 RX2 := Or.inl ⟨by rw [kd_231]; decide, by rw [kd_231]; rfl⟩
theorem rcv_235 : Rcv 235 RX2 := Or.inl ⟨by rw [kd_235]; decide, by rw [kd_235]; rfl⟩
theorem rcv_239 : Rcv 239 RX2 := Or.inl ⟨by rw [kd_239]; decide, by rw [kd_239]; rfl⟩
theorem rcv_243 : Rcv 243 RX2 := Or.inl ⟨by rw [kd_243]; decide, by rw [kd_243]; rfl⟩
theorem rcv_247 : Rcv 247 RX2 := Or.inl ⟨by rw [kd_247]; decide, by rw [kd_247]; rfl⟩
theorem rcv_251 : Rcv 251 RX12 := Or.inl ⟨by rw [kd_251]; decide, by rw [kd_251]; rfl⟩
theorem rcv_B {k : Nat} (h : kd k = 0) : Rcv k RX0 := Or.inl ⟨by rw [h]; decide, by rw [h]; rfl⟩
theorem rcv_H {k : Nat} (h : kd k = 1) : Rcv k RX1 := Or.inl ⟨by rw [h]; decide, by rw [h]; rfl⟩
theorem rcv_L {k : Nat} (h : kd k = 2) : Rcv k RX2 := Or.inl ⟨by rw [h]; decide, by rw [h]; rfl⟩
theorem rcv_T {k : Nat} (h : kd k = 8) : Rcv k RX8 := Or.inl ⟨by rw [h]; decide, by rw [h]; rfl⟩
theorem rcv_D {k : Nat} (h : kd k = 9) : Rcv k RX9 := Or.inl ⟨by rw [h]; decide, by rw [h]; rfl⟩
def z_T_takeOne : Mt := (yX8_takeOne, cX8_takeOne, 3, none)
theorem mk_T_takeOne : MkV z_T_takeOne 1 := ⟨⟨⟨w0_in (tb2_in (i := 203) rfl) rfl, w0_in (tb1_in (i := 3) (by decide +kernel)) rfl⟩, ⟨by decide, by decide, by decide +kernel⟩, by decide⟩, w0_in (tb2_in (i := 202) (by decide +kernel)) rfl, w0_in (tp_in (i := 0) (by decide +kernel)) rfl⟩
def z_T_takeFive : Mt := (yX8_takeFive, cX8_takeFive, 6, (some .int))
theorem mk_T_takeFive : MkV z_T_takeFive 5 := ⟨⟨⟨w0_in (tb2_in (i := 199) rfl) rfl, w0_in (tb1_in (i := 3) (by decide +kernel)) rfl⟩, ⟨by decide, by decide, by decide +kernel⟩, by decide⟩, w0_in (tb2_in (i := 197) (by decide +kernel)) rfl, w0_in (tb2_in (i := 198) (by decide +kernel)) rfl⟩
def z_K_feed : Mt := (yX11_feed, cX11_feed, 6, (some .int))
theorem mk_K_feed : MkV z_K_feed 5 := ⟨⟨⟨w0_in (tb2_in (i := 195) rfl) rfl, w0_in (tb1_in (i := 1) (by decide +kernel)) rfl⟩, ⟨by decide, by decide, by decide +kernel⟩, by decide⟩, w0_in (tb2_in (i := 193) (by decide +kernel)) rfl, w0_in (tb2_in (i := 194) (by decide +kernel)) rfl⟩
def z_M_four : Mt := (yX12_four, cX12_four, 3, none)
theorem mk_M_four : MkV z_M_four 1 := ⟨⟨⟨w0_in (tb6_in (i := 220) rfl) rfl, w0_in (tb1_in (i := 14) (by decide +kernel)) rfl⟩, ⟨by decide, by decide, by decide +kernel⟩, by decide⟩, w0_in (tb6_in (i := 219) (by decide +kernel)) rfl, w0_in (tp_in (i := 33) (by decide +kernel)) rfl⟩
def z_M_feed : Mt := (yX12_feed, cX12_feed, 6, (some .int))
theorem mk_M_feed : MkV z_M_feed 5 := ⟨⟨⟨w0_in (tb6_in (i := 216) rfl) rfl, w0_in (tb1_in (i := 14) (by decide +kernel)) rfl⟩, ⟨by decide, by decide, by decide +kernel⟩, by decide⟩, w0_in (tb6_in (i := 214) (by decide +kernel)) rfl, w0_in (tb6_in (i := 215) (by decide +kernel)) rfl⟩
def z_T_cutTo : Mt := (yX8_cutTo, cX8_cutTo, 2, (some .int))
theorem mk_T_cutTo : MkV z_T_cutTo 1 := ⟨⟨⟨w0_in (tb2_in (i := 211) rfl) rfl, w0_in (tb1_in (i := 3) (by decide +kernel)) rfl⟩, ⟨by decide, by decide, by decide +kernel⟩, by decide⟩, w0_in (tb2_in (i := 209) (by decide +kernel)) rfl, w0_in (tb2_in (i := 210) (by decide +kernel)) rfl⟩
def z_K_end : Mt := (yX11_end, cX11_end, 2, (some .int))
theorem mk_K_end : MkV z_K_end 1 := ⟨⟨⟨w0_in (tb2_in (i := 207) rfl) rfl, w0_in (tb1_in (i := 1) (by decide +kernel)) rfl⟩, ⟨by decide, by decide, by decide +kernel⟩, by decide⟩, w0_in (tb2_in (i := 205) (by decide +kernel)) rfl, w0_in (tb2_in (i := 206) (by decide +kernel)) rfl⟩
def z_M_in : Mt := (yX12_in, cX12_in, 3, (some .boolean))
theorem mk_M_in : MkS z_M_in 3 := ⟨⟨⟨w0_in (tb6_in (i := 227) rfl) rfl, w0_in (tb1_in (i := 14) (by decide +kernel)) rfl⟩, ⟨by decide, by decide, by decide +kernel⟩, by decide⟩, w0_in (tb6_in (i := 226) (by decide +kernel)) rfl⟩
def z_M_end : Mt := (yX12_end, cX12_end, 2, (some .int))
theorem mk_M_end : MkV z_M_end 1 := ⟨⟨⟨w0_in (tb6_in (i := 224) rfl) rfl, w0_in (tb1_in (i := 14) (by decide +kernel)) rfl⟩, ⟨by decide, by decide, by decide +kernel⟩, by decide⟩, w0_in (tb6_in (i := 222) (by decide +kernel)) rfl, w0_in (tb6_in (i := 223) (by decide +kernel)) rfl⟩
def z_K_isOf : Mt := (yX11_isOf, cX11_isOf, 3, (some .boolean))
theorem mk_K_isOf : MkS z_K_isOf 3 := ⟨⟨⟨w0_in (tb2_in (i := 222) rfl) rfl, w0_in (tb1_in (i := 1) (by decide +kernel)) rfl⟩, ⟨by decide, by decide, by decide +kernel⟩, by decide⟩, w0_in (tb2_in (i := 221) (by decide +kernel)) rfl⟩
def z_D_countOf : Mt := (yX9_countOf, cX9_countOf, 2, (some .int))
theorem mk_D_countOf : MkV z_D_countOf 1 := ⟨⟨⟨w0_in (tb2_in (i := 226) rfl) rfl, w0_in (tb1_in (i := 2) (by decide +kernel)) rfl⟩, ⟨by decide, by decide, by decide +kernel⟩, by decide⟩, w0_in (tb2_in (i := 224) (by decide +kernel)) rfl, w0_in (tb2_in (i := 225) (by decide +kernel)) rfl⟩
def z_D_has : Mt := (yX9_has, cX9_has, 3, (some .boolean))
theorem mk_D_has : MkV z_D_has 2 := ⟨⟨⟨w0_in (tb2_in (i := 230) rfl) rfl, w0_in (tb1_in (i := 2) (by decide +kernel)) rfl⟩, ⟨by decide, by decide, by decide +kernel⟩, by decide⟩, w0_in (tb2_in (i := 228) (by decide +kernel)) rfl, w0_in (tb2_in (i := 229) (by decide +kernel)) rfl⟩
def z_D_hasPlace : Mt := (yX9_hasPlace, cX9_hasPlace, 3, (some .boolean))
theorem mk_D_hasPlace : MkV z_D_hasPlace 2 := ⟨⟨⟨w0_in (tb2_in (i := 219) rfl) rfl, w0_in (tb1_in (i := 2) (by decide +kernel)) rfl⟩, ⟨by decide, by decide, by decide +kernel⟩, by decide⟩, w0_in (tb2_in (i := 217) (by decide +kernel)) rfl, w0_in (tb2_in (i := 218) (by decide +kernel)) rfl⟩
def z_J_fill : Mt := (yJ7_fill_53178, cJ7_fill_53178, 4, none)
theorem mk_J_fill : MkS z_J_fill 2 := ⟨⟨⟨w0_in (tb3_in (i := 1) rfl) rfl, w0_in (tb1_in (i := 15) (by decide +kernel)) rfl⟩, ⟨by decide, by decide, by decide +kernel⟩, by decide⟩, w0_in (tb3_in (i := 0) (by decide +kernel)) rfl⟩
def z_H_clear : Mt := (yX1_clear, cX1_clear, 1, none)
theorem mk_H_clear : MkV z_H_clear 0 := ⟨⟨⟨w0_in (tb2_in (i := 238) rfl) rfl, w0_in (tb1_in (i := 4) (by decide +kernel)) rfl⟩, ⟨by decide, by decide, by decide +kernel⟩, by decide⟩, w0_in (tb2_in (i := 236) (by decide +kernel)) rfl, w0_in (tb2_in (i := 237) (by decide +kernel)) rfl⟩
def z_L_clear : Mt := (yX2_clear, cX2_clear, 1, none)
theorem mk_L_clear : MkV z_L_clear 0 := ⟨⟨⟨w0_in (tb3_in (i := 5) rfl) rfl, w0_in (tb1_in (i := 5) (by decide +kernel)) rfl⟩, ⟨by decide, by decide, by decide +kernel⟩, by decide⟩, w0_in (tb3_in (i := 3) (by decide +kernel)) rfl, w0_in (tb3_in (i := 4) (by decide +kernel)) rfl⟩
def z_T_byteAt : Mt := (yX8_byteAt, cX8_byteAt, 2, (some .int))
theorem mk_T_byteAt : MkV z_T_byteAt 1 := ⟨⟨⟨w0_in (tb3_in (i := 13) rfl) rfl, w0_in (tb1_in (i := 3) (by decide +kernel)) rfl⟩, ⟨by decide, by decide, by decide +kernel⟩, by decide⟩, w0_in (tb3_in (i := 11) (by decide +kernel)) rfl, w0_in (tb3_in (i := 12) (by decide +kernel)) rfl⟩
def z_R_isBlank : Mt := (yX4_isBlank, cX4_isBlank, 1, (some .boolean))
theorem mk_R_isBlank : MkS z_R_isBlank 1 := ⟨⟨⟨w0_in (tb3_in (i := 16) rfl) rfl, w0_in (tb1_in (i := 7) (by decide +kernel)) rfl⟩, ⟨by decide, by decide, by decide +kernel⟩, by decide⟩, w0_in (tb3_in (i := 15) (by decide +kernel)) rfl⟩
def z_R_isLetter : Mt := (yX4_isLetter, cX4_isLetter, 1, (some .boolean))
theorem mk_R_isLetter : MkS z_R_isLetter 1 := ⟨⟨⟨w0_in (tb3_in (i := 19) rfl) rfl, w0_in (tb1_in (i := 7) (by decide +kernel)) rfl⟩, ⟨by decide, by decide, by decide +kernel⟩, by decide⟩, w0_in (tb3_in (i := 18) (by decide +kernel)) rfl⟩
def z_R_isDigit : Mt := (yX4_isDigit, cX4_isDigit, 1, (some .boolean))
theorem mk_R_isDigit : MkS z_R_isDigit 1 := ⟨⟨⟨w0_in (tb3_in (i := 22) rfl) rfl, w0_in (tb1_in (i := 7) (by decide +kernel)) rfl⟩, ⟨by decide, by decide, by decide +kernel⟩, by decide⟩, w0_in (tb3_in (i := 21) (by decide +kernel)) rfl⟩
def z_R_step : Mt := (yX4_step, cX4_step, 2, none)
theorem mk_R_step : MkV z_R_step 0 := ⟨⟨⟨w0_in (tb3_in (i := 9) rfl) rfl, w0_in (tb1_in (i := 7) (by decide +kernel)) rfl⟩, ⟨by decide, by decide, by decide +kernel⟩, by decide⟩, w0_in (tb3_in (i := 8) (by decide +kernel)) rfl, w0_in (tp_in (i := 1) (by decide +kernel)) rfl⟩
def z_R_spells : Mt := (yX4_spells, cX4_spells, 3, (some .boolean))
theorem mk_R_spells : MkV z_R_spells 1 := ⟨⟨⟨w0_in (tb3_in (i := 35) rfl) rfl, w0_in (tb1_in (i := 7) (by decide +kernel)) rfl⟩, ⟨by decide, by decide, by decide +kernel⟩, by decide⟩, w0_in (tb3_in (i := 34) (by decide +kernel)) rfl, w0_in (tp_in (i := 4) (by decide +kernel)) rfl⟩
def z_R_keyword : Mt := (yX4_keyword, cX4_keyword, 2, (some .int))
theorem mk_R_keyword : MkV z_R_keyword 1 := ⟨⟨⟨w0_in (tb3_in (i := 30) rfl) rfl, w0_in (tb1_in (i := 7) (by decide +kernel)) rfl⟩, ⟨by decide, by decide, by decide +kernel⟩, by decide⟩, w0_in (tb3_in (i := 29) (by decide +kernel)) rfl, w0_in (tp_in (i := 3) (by decide +kernel)) rfl⟩
def z_R_breakOff : Mt := (yX4_breakOff, cX4_breakOff, 1, none)
theorem mk_R_breakOff : MkV z_R_breakOff 0 := ⟨⟨⟨w0_in (tb3_in (i := 102) rfl) rfl, w0_in (tb1_in (i := 7) (by decide +kernel)) rfl⟩, ⟨by decide, by decide, by decide +kernel⟩, by decide⟩, w0_in (tb3_in (i := 101) (by decide +kernel)) rfl, w0_in (tp_in (i := 5) (by decide +kernel)) rfl⟩
def z_K_limitOf : Mt := (yX11_limitOf, cX11_limitOf, 1, (some .int))
theorem mk_K_limitOf : MkS z_K_limitOf 1 := ⟨⟨⟨w0_in (tb1_in (i := 97) rfl) rfl, w0_in (tb1_in (i := 1) (by decide +kernel)) rfl⟩, ⟨by decide, by decide, by decide +kernel⟩, by decide⟩, w0_in (tb1_in (i := 96) (by decide +kernel)) rfl⟩
def z_R_note : Mt := (yX4_note, cX4_note, 3, none)
theorem mk_R_note : MkV z_R_note 2 := ⟨⟨⟨w0_in (tb3_in (i := 107) rfl) rfl, w0_in (tb1_in (i := 7) (by decide +kernel)) rfl⟩, ⟨by decide, by decide, by decide +kernel⟩, by decide⟩, w0_in (tb3_in (i := 106) (by decide +kernel)) rfl, w0_in (tp_in (i := 6) (by decide +kernel)) rfl⟩
def z_K_isIn : Mt := (yX11_isIn, cX11_isIn, 2, (some .boolean))
theorem mk_K_isIn : MkS z_K_isIn 2 := ⟨⟨⟨w0_in (tb3_in (i := 118) rfl) rfl, w0_in (tb1_in (i := 1) (by decide +kernel)) rfl⟩, ⟨by decide, by decide, by decide +kernel⟩, by decide⟩, w0_in (tb3_in (i := 117) (by decide +kernel)) rfl⟩
def z_R_number : Mt := (yX4_number, cX4_number, 6, (some .int))
theorem mk_R_number : MkV z_R_number 3 := ⟨⟨⟨w0_in (tb3_in (i := 115) rfl) rfl, w0_in (tb1_in (i := 7) (by decide +kernel)) rfl⟩, ⟨by decide, by decide, by decide +kernel⟩, by decide⟩, w0_in (tb3_in (i := 114) (by decide +kernel)) rfl, w0_in (tp_in (i := 8) (by decide +kernel)) rfl⟩
def z_H_addTable : Mt := (yX1_addTable, cX1_addTable, 4, none)
theorem mk_H_addTable : MkV z_H_addTable 3 := ⟨⟨⟨w0_in (tb3_in (i := 122) rfl) rfl, w0_in (tb1_in (i := 4) (by decide +kernel)) rfl⟩, ⟨by decide, by decide, by decide +kernel⟩, by decide⟩, w0_in (tb3_in (i := 120) (by decide +kernel)) rfl, w0_in (tb3_in (i := 121) (by decide +kernel)) rfl⟩
def z_H_addCouple : Mt := (yX1_addCouple, cX1_addCouple, 5, none)
theorem mk_H_addCouple : MkV z_H_addCouple 3 := ⟨⟨⟨w0_in (tb3_in (i := 126) rfl) rfl, w0_in (tb1_in (i := 4) (by decide +kernel)) rfl⟩, ⟨by decide, by decide, by decide +kernel⟩, by decide⟩, w0_in (tb3_in (i := 124) (by decide +kernel)) rfl, w0_in (tb3_in (i := 125) (by decide +kernel)) rfl⟩
def z_R_readInnLine : Mt := (yX4_readInnLine, cX4_readInnLine, 5, none)
theorem mk_R_readInnLine : MkV z_R_readInnLine 1 := ⟨⟨⟨w0_in (tb3_in (i := 111) rfl) rfl, w0_in (tb1_in (i := 7) (by decide +kernel)) rfl⟩, ⟨by decide, by decide, by decide +kernel⟩, by decide⟩, w0_in (tb3_in (i := 110) (by decide +kernel)) rfl, w0_in (tp_in (i := 7) (by decide +kernel)) rfl⟩
def z_L_add : Mt := (yX2_add, cX2_add, 4, none)
theorem mk_L_add : MkV z_L_add 3 := ⟨⟨⟨w0_in (tb3_in (i := 135) rfl) rfl, w0_in (tb1_in (i := 5) (by decide +kernel)) rfl⟩, ⟨by decide, by decide, by decide +kernel⟩, by decide⟩, w0_in (tb3_in (i := 133) (by decide +kernel)) rfl, w0_in (tb3_in (i := 134) (by decide +kernel)) rfl⟩
def z_R_readDeed : Mt := (yX4_readDeed, cX4_readDeed, 5, none)
theorem mk_R_readDeed : MkV z_R_readDeed 1 := ⟨⟨⟨w0_in (tb3_in (i := 131) rfl) rfl, w0_in (tb1_in (i := 7) (by decide +kernel)) rfl⟩, ⟨by decide, by decide, by decide +kernel⟩, by decide⟩, w0_in (tb3_in (i := 130) (by decide +kernel)) rfl, w0_in (tp_in (i := 9) (by decide +kernel)) rfl⟩
def z_R_readWish : Mt := (yX4_readWish, cX4_readWish, 4, none)
theorem mk_R_readWish : MkV z_R_readWish 1 := ⟨⟨⟨w0_in (tb3_in (i := 139) rfl) rfl, w0_in (tb1_in (i := 7) (by decide +kernel)) rfl⟩, ⟨by decide, by decide, by decide +kernel⟩, by decide⟩, w0_in (tb3_in (i := 138) (by decide +kernel)) rfl, w0_in (tp_in (i := 10) (by decide +kernel)) rfl⟩
def z_R_readLine : Mt := (yX4_readLine, cX4_readLine, 3, none)
theorem mk_R_readLine : MkV z_R_readLine 1 := ⟨⟨⟨w0_in (tb3_in (i := 26) rfl) rfl, w0_in (tb1_in (i := 7) (by decide +kernel)) rfl⟩, ⟨by decide, by decide, by decide +kernel⟩, by decide⟩, w0_in (tb3_in (i := 25) (by decide +kernel)) rfl, w0_in (tp_in (i := 2) (by decide +kernel)) rfl⟩
def z_H_hasAll : Mt := (yX1_hasAll, cX1_hasAll, 2, (some .boolean))
theorem mk_H_hasAll : MkV z_H_hasAll 1 := ⟨⟨⟨w0_in (tb3_in (i := 143) rfl) rfl, w0_in (tb1_in (i := 4) (by decide +kernel)) rfl⟩, ⟨by decide, by decide, by decide +kernel⟩, by decide⟩, w0_in (tb3_in (i := 141) (by decide +kernel)) rfl, w0_in (tb3_in (i := 142) (by decide +kernel)) rfl⟩
def z_R_read : Mt := (yX4_read, cX4_read, 3, none)
theorem mk_R_read : MkV z_R_read 1 := ⟨⟨⟨w0_in (tb2_in (i := 234) rfl) rfl, w0_in (tb1_in (i := 7) (by decide +kernel)) rfl⟩, ⟨by decide, by decide, by decide +kernel⟩, by decide⟩, w0_in (tb2_in (i := 232) (by decide +kernel)) rfl, w0_in (tb2_in (i := 233) (by decide +kernel)) rfl⟩
def z_D_setFault : Mt := (yX9_setFault, cX9_setFault, 3, none)
theorem mk_D_setFault : MkV z_D_setFault 2 := ⟨⟨⟨w0_in (tb3_in (i := 147) rfl) rfl, w0_in (tb1_in (i := 2) (by decide +kernel)) rfl⟩, ⟨by decide, by decide, by decide +kernel⟩, by decide⟩, w0_in (tb3_in (i := 145) (by decide +kernel)) rfl, w0_in (tb3_in (i := 146) (by decide +kernel)) rfl⟩
def z_D_innAt : Mt := (yX9_innAt, cX9_innAt, 2, (some (.object "GrainInn$House")))
theorem mk_D_innAt : MkV z_D_innAt 1 := ⟨⟨⟨w0_in (tb3_in (i := 156) rfl) rfl, w0_in (tb1_in (i := 2) (by decide +kernel)) rfl⟩, ⟨by decide, by decide, by decide +kernel⟩, by decide⟩, w0_in (tb3_in (i := 154) (by decide +kernel)) rfl, w0_in (tb3_in (i := 155) (by decide +kernel)) rfl⟩
def z_D_linesAt : Mt := (yX9_linesAt, cX9_linesAt, 3, (some (.object "GrainInn$Lines")))
theorem mk_D_linesAt : MkV z_D_linesAt 2 := ⟨⟨⟨w0_in (tb3_in (i := 160) rfl) rfl, w0_in (tb1_in (i := 2) (by decide +kernel)) rfl⟩, ⟨by decide, by decide, by decide +kernel⟩, by decide⟩, w0_in (tb3_in (i := 158) (by decide +kernel)) rfl, w0_in (tb3_in (i := 159) (by decide +kernel)) rfl⟩
def z_L_has : Mt := (yX2_has, cX2_has, 2, (some .boolean))
theorem mk_L_has : MkV z_L_has 1 := ⟨⟨⟨w0_in (tb3_in (i := 173) rfl) rfl, w0_in (tb1_in (i := 5) (by decide +kernel)) rfl⟩, ⟨by decide, by decide, by decide +kernel⟩, by decide⟩, w0_in (tb3_in (i := 171) (by decide +kernel)) rfl, w0_in (tb3_in (i := 172) (by decide +kernel)) rfl⟩
def z_L_kindOf : Mt := (yX2_kindOf, cX2_kindOf, 2, (some .int))
theorem mk_L_kindOf : MkV z_L_kindOf 1 := ⟨⟨⟨w0_in (tb3_in (i := 169) rfl) rfl, w0_in (tb1_in (i := 5) (by decide +kernel)) rfl⟩, ⟨by decide, by decide, by decide +kernel⟩, by decide⟩, w0_in (tb3_in (i := 167) (by decide +kernel)) rfl, w0_in (tb3_in (i := 168) (by decide +kernel)) rfl⟩
def z_L_firstOf : Mt := (yX2_firstOf, cX2_firstOf, 2, (some .int))
theorem mk_L_firstOf : MkV z_L_firstOf 1 := ⟨⟨⟨w0_in (tb3_in (i := 177) rfl) rfl, w0_in (tb1_in (i := 5) (by decide +kernel)) rfl⟩, ⟨by decide, by decide, by decide +kernel⟩, by decide⟩, w0_in (tb3_in (i := 175) (by decide +kernel)) rfl, w0_in (tb3_in (i := 176) (by decide +kernel)) rfl⟩
def z_L_secondOf : Mt := (yX2_secondOf, cX2_secondOf, 2, (some .int))
theorem mk_L_secondOf : MkV z_L_secondOf 1 := ⟨⟨⟨w0_in (tb3_in (i := 181) rfl) rfl, w0_in (tb1_in (i := 5) (by decide +kernel)) rfl⟩, ⟨by decide, by decide, by decide +kernel⟩, by decide⟩, w0_in (tb3_in (i := 179) (by decide +kernel)) rfl, w0_in (tb3_in (i := 180) (by decide +kernel)) rfl⟩
def z_L_copyFrom : Mt := (yX2_copyFrom, cX2_copyFrom, 3, none)
theorem mk_L_copyFrom : MkV z_L_copyFrom 1 := ⟨⟨⟨w0_in (tb3_in (i := 164) rfl) rfl, w0_in (tb1_in (i := 5) (by decide +kernel)) rfl⟩, ⟨by decide, by decide, by decide +kernel⟩, by decide⟩, w0_in (tb3_in (i := 162) (by decide +kernel)) rfl, w0_in (tb3_in (i := 163) (by decide +kernel)) rfl⟩
def z_H_copyFrom : Mt := (yX1_copyFrom, cX1_copyFrom, 2, none)
theorem mk_H_copyFrom : MkV z_H_copyFrom 1 := ⟨⟨⟨w0_in (tb3_in (i := 186) rfl) rfl, w0_in (tb1_in (i := 4) (by decide +kernel)) rfl⟩, ⟨by decide, by decide, by decide +kernel⟩, by decide⟩, w0_in (tb3_in (i := 184) (by decide +kernel)) rfl, w0_in (tb3_in (i := 185) (by decide +kernel)) rfl⟩
def z_D_keep : Mt := (yX9_keep, cX9_keep, 7, (some .int))
theorem mk_D_keep : MkV z_D_keep 3 := ⟨⟨⟨w0_in (tb3_in (i := 151) rfl) rfl, w0_in (tb1_in (i := 2) (by decide +kernel)) rfl⟩, ⟨by decide, by decide, by decide +kernel⟩, by decide⟩, w0_in (tb3_in (i := 149) (by decide +kernel)) rfl, w0_in (tb3_in (i := 150) (by decide +kernel)) rfl⟩
def z_K_text : Mt := (yX11_text, cX11_text, 4, (some .int))
theorem mk_K_text : MkV z_K_text 2 := ⟨⟨⟨w0_in (tb2_in (i := 215) rfl) rfl, w0_in (tb1_in (i := 1) (by decide +kernel)) rfl⟩, ⟨by decide, by decide, by decide +kernel⟩, by decide⟩, w0_in (tb2_in (i := 213) (by decide +kernel)) rfl, w0_in (tb2_in (i := 214) (by decide +kernel)) rfl⟩
def z_M_is : Mt := (yX12_is, cX12_is, 3, (some .boolean))
theorem mk_M_is : MkV z_M_is 2 := ⟨⟨⟨w0_in (tb6_in (i := 235) rfl) rfl, w0_in (tb1_in (i := 14) (by decide +kernel)) rfl⟩, ⟨by decide, by decide, by decide +kernel⟩, by decide⟩, w0_in (tb6_in (i := 234) (by decide +kernel)) rfl, w0_in (tp_in (i := 34) (by decide +kernel)) rfl⟩
def z_M_see : Mt := (yX12_see, cX12_see, 1, (some .int))
theorem mk_M_see : MkV z_M_see 0 := ⟨⟨⟨w0_in (tb7_in (i := 7) rfl) rfl, w0_in (tb1_in (i := 14) (by decide +kernel)) rfl⟩, ⟨by decide, by decide, by decide +kernel⟩, by decide⟩, w0_in (tb7_in (i := 6) (by decide +kernel)) rfl, w0_in (tp_in (i := 37) (by decide +kernel)) rfl⟩
def z_M_token : Mt := (yX12_token, cX12_token, 3, none)
theorem mk_M_token : MkV z_M_token 0 := ⟨⟨⟨w0_in (tb7_in (i := 3) rfl) rfl, w0_in (tb1_in (i := 14) (by decide +kernel)) rfl⟩, ⟨by decide, by decide, by decide +kernel⟩, by decide⟩, w0_in (tb7_in (i := 2) (by decide +kernel)) rfl, w0_in (tp_in (i := 36) (by decide +kernel)) rfl⟩
def z_M_fails : Mt := (yX12_fails, cX12_fails, 1, (some .boolean))
theorem mk_M_fails : MkV z_M_fails 0 := ⟨⟨⟨w0_in (tb7_in (i := 27) rfl) rfl, w0_in (tb1_in (i := 14) (by decide +kernel)) rfl⟩, ⟨by decide, by decide, by decide +kernel⟩, by decide⟩, w0_in (tb7_in (i := 26) (by decide +kernel)) rfl, w0_in (tp_in (i := 41) (by decide +kernel)) rfl⟩
def z_M_later : Mt := (yX12_later, cX12_later, 3, none)
theorem mk_M_later : MkV z_M_later 2 := ⟨⟨⟨w0_in (tb7_in (i := 35) rfl) rfl, w0_in (tb1_in (i := 14) (by decide +kernel)) rfl⟩, ⟨by decide, by decide, by decide +kernel⟩, by decide⟩, w0_in (tb7_in (i := 34) (by decide +kernel)) rfl, w0_in (tp_in (i := 43) (by decide +kernel)) rfl⟩
def z_M_full : Mt := (yX12_full, cX12_full, 4, none)
theorem mk_M_full : MkV z_M_full 3 := ⟨⟨⟨w0_in (tb7_in (i := 31) rfl) rfl, w0_in (tb1_in (i := 14) (by decide +kernel)) rfl⟩, ⟨by decide, by decide, by decide +kernel⟩, by decide⟩, w0_in (tb7_in (i := 30) (by decide +kernel)) rfl, w0_in (tp_in (i := 42) (by decide +kernel)) rfl⟩
def z_M_takeBut : Mt := (yX12_takeBut, cX12_takeBut, 5, (some .boolean))
theorem mk_M_takeBut : MkV z_M_takeBut 4 := ⟨⟨⟨w0_in (tb7_in (i := 47) rfl) rfl, w0_in (tb1_in (i := 14) (by decide +kernel)) rfl⟩, ⟨by decide, by decide, by decide +kernel⟩, by decide⟩, w0_in (tb7_in (i := 46) (by decide +kernel)) rfl, w0_in (tp_in (i := 46) (by decide +kernel)) rfl⟩
def z_M_take : Mt := (yX12_take, cX12_take, 4, (some .boolean))
theorem mk_M_take : MkV z_M_take 3 := ⟨⟨⟨w0_in (tb7_in (i := 43) rfl) rfl, w0_in (tb1_in (i := 14) (by decide +kernel)) rfl⟩, ⟨by decide, by decide, by decide +kernel⟩, by decide⟩, w0_in (tb7_in (i := 42) (by decide +kernel)) rfl, w0_in (tp_in (i := 45) (by decide +kernel)) rfl⟩
def z_M_greater : Mt := (yX12_greater, cX12_greater, 2, (some .int))
theorem mk_M_greater : MkS z_M_greater 2 := ⟨⟨⟨w0_in (tb7_in (i := 50) rfl) rfl, w0_in (tb1_in (i := 14) (by decide +kernel)) rfl⟩, ⟨by decide, by decide, by decide +kernel⟩, by decide⟩, w0_in (tb7_in (i := 49) (by decide +kernel)) rfl⟩
def z_M_coupleLine : Mt := (yX12_coupleLine, cX12_coupleLine, 2, (some .boolean))
theorem mk_M_coupleLine : MkV z_M_coupleLine 1 := ⟨⟨⟨w0_in (tb7_in (i := 39) rfl) rfl, w0_in (tb1_in (i := 14) (by decide +kernel)) rfl⟩, ⟨by decide, by decide, by decide +kernel⟩, by decide⟩, w0_in (tb7_in (i := 38) (by decide +kernel)) rfl, w0_in (tp_in (i := 44) (by decide +kernel)) rfl⟩
def z_M_keep : Mt := (yX12_keep, cX12_keep, 7, none)
theorem mk_M_keep : MkV z_M_keep 4 := ⟨⟨⟨w0_in (tb7_in (i := 54) rfl) rfl, w0_in (tb1_in (i := 14) (by decide +kernel)) rfl⟩, ⟨by decide, by decide, by decide +kernel⟩, by decide⟩, w0_in (tb7_in (i := 53) (by decide +kernel)) rfl, w0_in (tp_in (i := 47) (by decide +kernel)) rfl⟩
def z_M_innLine : Mt := (yX12_innLine, cX12_innLine, 4, (some .boolean))
theorem mk_M_innLine : MkV z_M_innLine 2 := ⟨⟨⟨w0_in (tb7_in (i := 19) rfl) rfl, w0_in (tb1_in (i := 14) (by decide +kernel)) rfl⟩, ⟨by decide, by decide, by decide +kernel⟩, by decide⟩, w0_in (tb7_in (i := 18) (by decide +kernel)) rfl, w0_in (tp_in (i := 40) (by decide +kernel)) rfl⟩
def z_M_deedBy : Mt := (yX12_deedBy, cX12_deedBy, 2, (some .int))
theorem mk_M_deedBy : MkS z_M_deedBy 1 := ⟨⟨⟨w0_in (tb7_in (i := 61) rfl) rfl, w0_in (tb1_in (i := 14) (by decide +kernel)) rfl⟩, ⟨by decide, by decide, by decide +kernel⟩, by decide⟩, w0_in (tb7_in (i := 60) (by decide +kernel)) rfl⟩
def z_M_has : Mt := (yX12_has, cX12_has, 2, (some .boolean))
theorem mk_M_has : MkS z_M_has 2 := ⟨⟨⟨w0_in (tb7_in (i := 78) rfl) rfl, w0_in (tb1_in (i := 14) (by decide +kernel)) rfl⟩, ⟨by decide, by decide, by decide +kernel⟩, by decide⟩, w0_in (tb7_in (i := 77) (by decide +kernel)) rfl⟩
def z_M_sitters : Mt := (yX12_sitters, cX12_sitters, 3, (some .boolean))
theorem mk_M_sitters : MkV z_M_sitters 0 := ⟨⟨⟨w0_in (tb7_in (i := 75) rfl) rfl, w0_in (tb1_in (i := 14) (by decide +kernel)) rfl⟩, ⟨by decide, by decide, by decide +kernel⟩, by decide⟩, w0_in (tb7_in (i := 74) (by decide +kernel)) rfl, w0_in (tp_in (i := 50) (by decide +kernel)) rfl⟩
def z_M_deedNumbers : Mt := (yX12_deedNumbers, cX12_deedNumbers, 2, (some .boolean))
theorem mk_M_deedNumbers : MkV z_M_deedNumbers 1 := ⟨⟨⟨w0_in (tb7_in (i := 71) rfl) rfl, w0_in (tb1_in (i := 14) (by decide +kernel)) rfl⟩, ⟨by decide, by decide, by decide +kernel⟩, by decide⟩, w0_in (tb7_in (i := 70) (by decide +kernel)) rfl, w0_in (tp_in (i := 49) (by decide +kernel)) rfl⟩
def z_M_eveningLine : Mt := (yX12_eveningLine, cX12_eveningLine, 5, (some .boolean))
theorem mk_M_eveningLine : MkV z_M_eveningLine 2 := ⟨⟨⟨w0_in (tb7_in (i := 58) rfl) rfl, w0_in (tb1_in (i := 14) (by decide +kernel)) rfl⟩, ⟨by decide, by decide, by decide +kernel⟩, by decide⟩, w0_in (tb7_in (i := 57) (by decide +kernel)) rfl, w0_in (tp_in (i := 48) (by decide +kernel)) rfl⟩
def z_M_wishLine : Mt := (yX12_wishLine, cX12_wishLine, 5, (some .boolean))
theorem mk_M_wishLine : MkV z_M_wishLine 2 := ⟨⟨⟨w0_in (tb7_in (i := 82) rfl) rfl, w0_in (tb1_in (i := 14) (by decide +kernel)) rfl⟩, ⟨by decide, by decide, by decide +kernel⟩, by decide⟩, w0_in (tb7_in (i := 81) (by decide +kernel)) rfl, w0_in (tp_in (i := 51) (by decide +kernel)) rfl⟩
def z_M_hearingLine : Mt := (yX12_hearingLine, cX12_hearingLine, 4, (some .boolean))
theorem mk_M_hearingLine : MkV z_M_hearingLine 2 := ⟨⟨⟨w0_in (tb7_in (i := 90) rfl) rfl, w0_in (tb1_in (i := 14) (by decide +kernel)) rfl⟩, ⟨by decide, by decide, by decide +kernel⟩, by decide⟩, w0_in (tb7_in (i := 89) (by decide +kernel)) rfl, w0_in (tp_in (i := 52) (by decide +kernel)) rfl⟩
def z_M_lineOf : Mt := (yX12_lineOf, cX12_lineOf, 5, (some .boolean))
theorem mk_M_lineOf : MkV z_M_lineOf 3 := ⟨⟨⟨w0_in (tb7_in (i := 15) rfl) rfl, w0_in (tb1_in (i := 14) (by decide +kernel)) rfl⟩, ⟨by decide, by decide, by decide +kernel⟩, by decide⟩, w0_in (tb7_in (i := 14) (by decide +kernel)) rfl, w0_in (tp_in (i := 39) (by decide +kernel)) rfl⟩
def z_M_lines : Mt := (yX12_lines, cX12_lines, 4, (some .boolean))
theorem mk_M_lines : MkV z_M_lines 1 := ⟨⟨⟨w0_in (tb7_in (i := 11) rfl) rfl, w0_in (tb1_in (i := 14) (by decide +kernel)) rfl⟩, ⟨by decide, by decide, by decide +kernel⟩, by decide⟩, w0_in (tb7_in (i := 10) (by decide +kernel)) rfl, w0_in (tp_in (i := 38) (by decide +kernel)) rfl⟩
def z_M_readText : Mt := (yX12_readText, cX12_readText, 3, (some .boolean))
theorem mk_M_readText : MkV z_M_readText 1 := ⟨⟨⟨w0_in (tb6_in (i := 239) rfl) rfl, w0_in (tb1_in (i := 14) (by decide +kernel)) rfl⟩, ⟨by decide, by decide, by decide +kernel⟩, by decide⟩, w0_in (tb6_in (i := 238) (by decide +kernel)) rfl, w0_in (tp_in (i := 35) (by decide +kernel)) rfl⟩
def z_M_store : Mt := (yX12_store, cX12_store, 5, none)
theorem mk_M_store : MkV z_M_store 3 := ⟨⟨⟨w0_in (tb7_in (i := 100) rfl) rfl, w0_in (tb1_in (i := 14) (by decide +kernel)) rfl⟩, ⟨by decide, by decide, by decide +kernel⟩, by decide⟩, w0_in (tb7_in (i := 99) (by decide +kernel)) rfl, w0_in (tp_in (i := 54) (by decide +kernel)) rfl⟩
def z_M_storeAll : Mt := (yX12_storeAll, cX12_storeAll, 3, none)
theorem mk_M_storeAll : MkV z_M_storeAll 2 := ⟨⟨⟨w0_in (tb7_in (i := 96) rfl) rfl, w0_in (tb1_in (i := 14) (by decide +kernel)) rfl⟩, ⟨by decide, by decide, by decide +kernel⟩, by decide⟩, w0_in (tb7_in (i := 95) (by decide +kernel)) rfl, w0_in (tp_in (i := 53) (by decide +kernel)) rfl⟩
def z_M_text : Mt := (yX12_text, cX12_text, 4, (some .int))
theorem mk_M_text : MkV z_M_text 2 := ⟨⟨⟨w0_in (tb6_in (i := 231) rfl) rfl, w0_in (tb1_in (i := 14) (by decide +kernel)) rfl⟩, ⟨by decide, by decide, by decide +kernel⟩, by decide⟩, w0_in (tb6_in (i := 229) (by decide +kernel)) rfl, w0_in (tb6_in (i := 230) (by decide +kernel)) rfl⟩
def z_K_fault : Mt := (yX11_fault, cX11_fault, 2, (some .int))
theorem mk_K_fault : MkV z_K_fault 1 := ⟨⟨⟨w0_in (tb3_in (i := 194) rfl) rfl, w0_in (tb1_in (i := 1) (by decide +kernel)) rfl⟩, ⟨by decide, by decide, by decide +kernel⟩, by decide⟩, w0_in (tb3_in (i := 192) (by decide +kernel)) rfl, w0_in (tb3_in (i := 193) (by decide +kernel)) rfl⟩
def z_M_fault : Mt := (yX12_fault, cX12_fault, 2, (some .int))
theorem mk_M_fault : MkV z_M_fault 1 := ⟨⟨⟨w0_in (tb7_in (i := 104) rfl) rfl, w0_in (tb1_in (i := 14) (by decide +kernel)) rfl⟩, ⟨by decide, by decide, by decide +kernel⟩, by decide⟩, w0_in (tb7_in (i := 102) (by decide +kernel)) rfl, w0_in (tb7_in (i := 103) (by decide +kernel)) rfl⟩
def z_H_hasTable : Mt := (yX1_hasTable, cX1_hasTable, 2, (some .boolean))
theorem mk_H_hasTable : MkV z_H_hasTable 1 := ⟨⟨⟨w0_in (tb3_in (i := 208) rfl) rfl, w0_in (tb1_in (i := 4) (by decide +kernel)) rfl⟩, ⟨by decide, by decide, by decide +kernel⟩, by decide⟩, w0_in (tb3_in (i := 206) (by decide +kernel)) rfl, w0_in (tb3_in (i := 207) (by decide +kernel)) rfl⟩
def z_H_seatsOf : Mt := (yX1_seatsOf, cX1_seatsOf, 2, (some .int))
theorem mk_H_seatsOf : MkV z_H_seatsOf 1 := ⟨⟨⟨w0_in (tb3_in (i := 204) rfl) rfl, w0_in (tb1_in (i := 4) (by decide +kernel)) rfl⟩, ⟨by decide, by decide, by decide +kernel⟩, by decide⟩, w0_in (tb3_in (i := 202) (by decide +kernel)) rfl, w0_in (tb3_in (i := 203) (by decide +kernel)) rfl⟩
def z_H_keepsOf : Mt := (yX1_keepsOf, cX1_keepsOf, 2, (some .int))
theorem mk_H_keepsOf : MkV z_H_keepsOf 1 := ⟨⟨⟨w0_in (tb3_in (i := 212) rfl) rfl, w0_in (tb1_in (i := 4) (by decide +kernel)) rfl⟩, ⟨by decide, by decide, by decide +kernel⟩, by decide⟩, w0_in (tb3_in (i := 210) (by decide +kernel)) rfl, w0_in (tb3_in (i := 211) (by decide +kernel)) rfl⟩
def z_H_priceOf : Mt := (yX1_priceOf, cX1_priceOf, 2, (some .int))
theorem mk_H_priceOf : MkV z_H_priceOf 1 := ⟨⟨⟨w0_in (tb3_in (i := 216) rfl) rfl, w0_in (tb1_in (i := 4) (by decide +kernel)) rfl⟩, ⟨by decide, by decide, by decide +kernel⟩, by decide⟩, w0_in (tb3_in (i := 214) (by decide +kernel)) rfl, w0_in (tb3_in (i := 215) (by decide +kernel)) rfl⟩
def z_H_hasGuest : Mt := (yX1_hasGuest, cX1_hasGuest, 2, (some .boolean))
theorem mk_H_hasGuest : MkV z_H_hasGuest 1 := ⟨⟨⟨w0_in (tb3_in (i := 224) rfl) rfl, w0_in (tb1_in (i := 4) (by decide +kernel)) rfl⟩, ⟨by decide, by decide, by decide +kernel⟩, by decide⟩, w0_in (tb3_in (i := 222) (by decide +kernel)) rfl, w0_in (tb3_in (i := 223) (by decide +kernel)) rfl⟩
def z_H_quarrelsOf : Mt := (yX1_quarrelsOf, cX1_quarrelsOf, 2, (some .int))
theorem mk_H_quarrelsOf : MkV z_H_quarrelsOf 1 := ⟨⟨⟨w0_in (tb3_in (i := 220) rfl) rfl, w0_in (tb1_in (i := 4) (by decide +kernel)) rfl⟩, ⟨by decide, by decide, by decide +kernel⟩, by decide⟩, w0_in (tb3_in (i := 218) (by decide +kernel)) rfl, w0_in (tb3_in (i := 219) (by decide +kernel)) rfl⟩
def z_H_lovesOf : Mt := (yX1_lovesOf, cX1_lovesOf, 2, (some .int))
theorem mk_H_lovesOf : MkV z_H_lovesOf 1 := ⟨⟨⟨w0_in (tb3_in (i := 228) rfl) rfl, w0_in (tb1_in (i := 4) (by decide +kernel)) rfl⟩, ⟨by decide, by decide, by decide +kernel⟩, by decide⟩, w0_in (tb3_in (i := 226) (by decide +kernel)) rfl, w0_in (tb3_in (i := 227) (by decide +kernel)) rfl⟩
def z_K_inn : Mt := (yX11_inn, cX11_inn, 4, (some .int))
theorem mk_K_inn : MkV z_K_inn 2 := ⟨⟨⟨w0_in (tb3_in (i := 198) rfl) rfl, w0_in (tb1_in (i := 1) (by decide +kernel)) rfl⟩, ⟨by decide, by decide, by decide +kernel⟩, by decide⟩, w0_in (tb3_in (i := 196) (by decide +kernel)) rfl, w0_in (tb3_in (i := 197) (by decide +kernel)) rfl⟩
def z_M_of : Mt := (yX12_of, cX12_of, 2, (some .int))
theorem mk_M_of : MkV z_M_of 1 := ⟨⟨⟨w0_in (tb7_in (i := 116) rfl) rfl, w0_in (tb1_in (i := 14) (by decide +kernel)) rfl⟩, ⟨by decide, by decide, by decide +kernel⟩, by decide⟩, w0_in (tb7_in (i := 115) (by decide +kernel)) rfl, w0_in (tp_in (i := 56) (by decide +kernel)) rfl⟩
def z_M_hand : Mt := (yX12_hand, cX12_hand, 2, (some .boolean))
theorem mk_M_hand : MkV z_M_hand 1 := ⟨⟨⟨w0_in (tb7_in (i := 112) rfl) rfl, w0_in (tb1_in (i := 14) (by decide +kernel)) rfl⟩, ⟨by decide, by decide, by decide +kernel⟩, by decide⟩, w0_in (tb7_in (i := 111) (by decide +kernel)) rfl, w0_in (tp_in (i := 55) (by decide +kernel)) rfl⟩
def z_M_ofTable : Mt := (yX12_ofTable, cX12_ofTable, 3, (some .int))
theorem mk_M_ofTable : MkV z_M_ofTable 2 := ⟨⟨⟨w0_in (tb7_in (i := 120) rfl) rfl, w0_in (tb1_in (i := 14) (by decide +kernel)) rfl⟩, ⟨by decide, by decide, by decide +kernel⟩, by decide⟩, w0_in (tb7_in (i := 119) (by decide +kernel)) rfl, w0_in (tp_in (i := 57) (by decide +kernel)) rfl⟩
def z_M_inn : Mt := (yX12_inn, cX12_inn, 3, (some .int))
theorem mk_M_inn : MkV z_M_inn 2 := ⟨⟨⟨w0_in (tb7_in (i := 108) rfl) rfl, w0_in (tb1_in (i := 14) (by decide +kernel)) rfl⟩, ⟨by decide, by decide, by decide +kernel⟩, by decide⟩, w0_in (tb7_in (i := 106) (by decide +kernel)) rfl, w0_in (tb7_in (i := 107) (by decide +kernel)) rfl⟩
def z_K_lineOf : Mt := (yX11_lineOf, cX11_lineOf, 3, (some .int))
theorem mk_K_lineOf : MkS z_K_lineOf 3 := ⟨⟨⟨w0_in (tb3_in (i := 236) rfl) rfl, w0_in (tb1_in (i := 1) (by decide +kernel)) rfl⟩, ⟨by decide, by decide, by decide +kernel⟩, by decide⟩, w0_in (tb3_in (i := 235) (by decide +kernel)) rfl⟩
def z_K_deed : Mt := (yX11_deed, cX11_deed, 4, (some .int))
theorem mk_K_deed : MkV z_K_deed 3 := ⟨⟨⟨w0_in (tb3_in (i := 232) rfl) rfl, w0_in (tb1_in (i := 1) (by decide +kernel)) rfl⟩, ⟨by decide, by decide, by decide +kernel⟩, by decide⟩, w0_in (tb3_in (i := 230) (by decide +kernel)) rfl, w0_in (tb3_in (i := 231) (by decide +kernel)) rfl⟩
def z_M_hasEvenings : Mt := (yX12_hasEvenings, cX12_hasEvenings, 2, (some .boolean))
theorem mk_M_hasEvenings : MkV z_M_hasEvenings 1 := ⟨⟨⟨w0_in (tb7_in (i := 128) rfl) rfl, w0_in (tb1_in (i := 14) (by decide +kernel)) rfl⟩, ⟨by decide, by decide, by decide +kernel⟩, by decide⟩, w0_in (tb7_in (i := 127) (by decide +kernel)) rfl, w0_in (tp_in (i := 58) (by decide +kernel)) rfl⟩
def z_M_deeds : Mt := (yX12_deeds, cX12_deeds, 1, (some .int))
theorem mk_M_deeds : MkV z_M_deeds 0 := ⟨⟨⟨w0_in (tb7_in (i := 132) rfl) rfl, w0_in (tb1_in (i := 14) (by decide +kernel)) rfl⟩, ⟨by decide, by decide, by decide +kernel⟩, by decide⟩, w0_in (tb7_in (i := 131) (by decide +kernel)) rfl, w0_in (tp_in (i := 59) (by decide +kernel)) rfl⟩
def z_M_deedOf : Mt := (yX12_deedOf, cX12_deedOf, 3, (some .int))
theorem mk_M_deedOf : MkV z_M_deedOf 2 := ⟨⟨⟨w0_in (tb7_in (i := 136) rfl) rfl, w0_in (tb1_in (i := 14) (by decide +kernel)) rfl⟩, ⟨by decide, by decide, by decide +kernel⟩, by decide⟩, w0_in (tb7_in (i := 135) (by decide +kernel)) rfl, w0_in (tp_in (i := 60) (by decide +kernel)) rfl⟩
def z_M_deed : Mt := (yX12_deed, cX12_deed, 4, (some .int))
theorem mk_M_deed : MkV z_M_deed 3 := ⟨⟨⟨w0_in (tb7_in (i := 124) rfl) rfl, w0_in (tb1_in (i := 14) (by decide +kernel)) rfl⟩, ⟨by decide, by decide, by decide +kernel⟩, by decide⟩, w0_in (tb7_in (i := 122) (by decide +kernel)) rfl, w0_in (tb7_in (i := 123) (by decide +kernel)) rfl⟩
def z_B_clear : Mt := (yX0_clear, cX0_clear, 1, none)
theorem mk_B_clear : MkV z_B_clear 0 := ⟨⟨⟨w0_in (tb4_in (i := 17) rfl) rfl, w0_in (tb1_in (i := 9) (by decide +kernel)) rfl⟩, ⟨by decide, by decide, by decide +kernel⟩, by decide⟩, w0_in (tb4_in (i := 15) (by decide +kernel)) rfl, w0_in (tb4_in (i := 16) (by decide +kernel)) rfl⟩
def z_S_begin : Mt := (yX7_begin, cX7_begin, 3, none)
theorem mk_S_begin : MkV z_S_begin 1 := ⟨⟨⟨w0_in (tb4_in (i := 12) rfl) rfl, w0_in (tb1_in (i := 8) (by decide +kernel)) rfl⟩, ⟨by decide, by decide, by decide +kernel⟩, by decide⟩, w0_in (tb4_in (i := 10) (by decide +kernel)) rfl, w0_in (tb4_in (i := 11) (by decide +kernel)) rfl⟩
def z_S_benchAt : Mt := (yX7_benchAt, cX7_benchAt, 2, (some (.object "GrainInn$Bench")))
theorem mk_S_benchAt : MkV z_S_benchAt 1 := ⟨⟨⟨w0_in (tb4_in (i := 32) rfl) rfl, w0_in (tb1_in (i := 8) (by decide +kernel)) rfl⟩, ⟨by decide, by decide, by decide +kernel⟩, by decide⟩, w0_in (tb4_in (i := 30) (by decide +kernel)) rfl, w0_in (tb4_in (i := 31) (by decide +kernel)) rfl⟩
def z_S_seated : Mt := (yX7_seated, cX7_seated, 3, (some .int))
theorem mk_S_seated : MkV z_S_seated 0 := ⟨⟨⟨w0_in (tb4_in (i := 38) rfl) rfl, w0_in (tb1_in (i := 8) (by decide +kernel)) rfl⟩, ⟨by decide, by decide, by decide +kernel⟩, by decide⟩, w0_in (tb4_in (i := 36) (by decide +kernel)) rfl, w0_in (tb4_in (i := 37) (by decide +kernel)) rfl⟩
def z_J_bitCount : Mt := (yJ6_bitCount_0f7a4, cJ6_bitCount_0f7a4, 1, (some .int))
theorem mk_J_bitCount : MkS z_J_bitCount 1 := ⟨⟨⟨w0_in (tb4_in (i := 41) rfl) rfl, w0_in (tb1_in (i := 21) (by decide +kernel)) rfl⟩, ⟨by decide, by decide, by decide +kernel⟩, by decide⟩, w0_in (tb4_in (i := 40) (by decide +kernel)) rfl⟩
def z_B_guestsOf : Mt := (yX0_guestsOf, cX0_guestsOf, 2, (some .int))
theorem mk_B_guestsOf : MkV z_B_guestsOf 1 := ⟨⟨⟨w0_in (tb4_in (i := 49) rfl) rfl, w0_in (tb1_in (i := 9) (by decide +kernel)) rfl⟩, ⟨by decide, by decide, by decide +kernel⟩, by decide⟩, w0_in (tb4_in (i := 47) (by decide +kernel)) rfl, w0_in (tb4_in (i := 48) (by decide +kernel)) rfl⟩
def z_B_wordsOf : Mt := (yX0_wordsOf, cX0_wordsOf, 2, (some .int))
theorem mk_B_wordsOf : MkV z_B_wordsOf 1 := ⟨⟨⟨w0_in (tb4_in (i := 53) rfl) rfl, w0_in (tb1_in (i := 9) (by decide +kernel)) rfl⟩, ⟨by decide, by decide, by decide +kernel⟩, by decide⟩, w0_in (tb4_in (i := 51) (by decide +kernel)) rfl, w0_in (tb4_in (i := 52) (by decide +kernel)) rfl⟩
def z_H_couplesOf : Mt := (yX1_couplesOf, cX1_couplesOf, 5, (some .int))
theorem mk_H_couplesOf : MkS z_H_couplesOf 3 := ⟨⟨⟨w0_in (tb4_in (i := 60) rfl) rfl, w0_in (tb1_in (i := 4) (by decide +kernel)) rfl⟩, ⟨by decide, by decide, by decide +kernel⟩, by decide⟩, w0_in (tb4_in (i := 59) (by decide +kernel)) rfl⟩
def z_H_strifeOf : Mt := (yX1_strifeOf, cX1_strifeOf, 3, (some .int))
theorem mk_H_strifeOf : MkV z_H_strifeOf 2 := ⟨⟨⟨w0_in (tb4_in (i := 57) rfl) rfl, w0_in (tb1_in (i := 4) (by decide +kernel)) rfl⟩, ⟨by decide, by decide, by decide +kernel⟩, by decide⟩, w0_in (tb4_in (i := 55) (by decide +kernel)) rfl, w0_in (tb4_in (i := 56) (by decide +kernel)) rfl⟩
def z_H_joyOf : Mt := (yX1_joyOf, cX1_joyOf, 3, (some .int))
theorem mk_H_joyOf : MkV z_H_joyOf 2 := ⟨⟨⟨w0_in (tb4_in (i := 65) rfl) rfl, w0_in (tb1_in (i := 4) (by decide +kernel)) rfl⟩, ⟨by decide, by decide, by decide +kernel⟩, by decide⟩, w0_in (tb4_in (i := 63) (by decide +kernel)) rfl, w0_in (tb4_in (i := 64) (by decide +kernel)) rfl⟩
def z_S_payAll : Mt := (yX7_payAll, cX7_payAll, 6, none)
theorem mk_S_payAll : MkV z_S_payAll 3 := ⟨⟨⟨w0_in (tb4_in (i := 70) rfl) rfl, w0_in (tb1_in (i := 8) (by decide +kernel)) rfl⟩, ⟨by decide, by decide, by decide +kernel⟩, by decide⟩, w0_in (tb4_in (i := 69) (by decide +kernel)) rfl, w0_in (tp_in (i := 13) (by decide +kernel)) rfl⟩
def z_S_hearAll : Mt := (yX7_hearAll, cX7_hearAll, 4, none)
theorem mk_S_hearAll : MkV z_S_hearAll 2 := ⟨⟨⟨w0_in (tb4_in (i := 75) rfl) rfl, w0_in (tb1_in (i := 8) (by decide +kernel)) rfl⟩, ⟨by decide, by decide, by decide +kernel⟩, by decide⟩, w0_in (tb4_in (i := 74) (by decide +kernel)) rfl, w0_in (tp_in (i := 14) (by decide +kernel)) rfl⟩
def z_S_meetAll : Mt := (yX7_meetAll, cX7_meetAll, 5, none)
theorem mk_S_meetAll : MkV z_S_meetAll 2 := ⟨⟨⟨w0_in (tb4_in (i := 79) rfl) rfl, w0_in (tb1_in (i := 8) (by decide +kernel)) rfl⟩, ⟨by decide, by decide, by decide +kernel⟩, by decide⟩, w0_in (tb4_in (i := 78) (by decide +kernel)) rfl, w0_in (tp_in (i := 15) (by decide +kernel)) rfl⟩
def z_B_turnOn : Mt := (yX0_turnOn, cX0_turnOn, 1, none)
theorem mk_B_turnOn : MkV z_B_turnOn 0 := ⟨⟨⟨w0_in (tb4_in (i := 83) rfl) rfl, w0_in (tb1_in (i := 9) (by decide +kernel)) rfl⟩, ⟨by decide, by decide, by decide +kernel⟩, by decide⟩, w0_in (tb4_in (i := 81) (by decide +kernel)) rfl, w0_in (tb4_in (i := 82) (by decide +kernel)) rfl⟩
def z_S_sitDown : Mt := (yX7_sitDown, cX7_sitDown, 6, (some .boolean))
theorem mk_S_sitDown : MkV z_S_sitDown 2 := ⟨⟨⟨w0_in (tb4_in (i := 28) rfl) rfl, w0_in (tb1_in (i := 8) (by decide +kernel)) rfl⟩, ⟨by decide, by decide, by decide +kernel⟩, by decide⟩, w0_in (tb4_in (i := 27) (by decide +kernel)) rfl, w0_in (tp_in (i := 12) (by decide +kernel)) rfl⟩
def z_S_tableOf : Mt := (yX7_tableOf, cX7_tableOf, 3, (some .int))
theorem mk_S_tableOf : MkV z_S_tableOf 1 := ⟨⟨⟨w0_in (tb4_in (i := 92) rfl) rfl, w0_in (tb1_in (i := 8) (by decide +kernel)) rfl⟩, ⟨by decide, by decide, by decide +kernel⟩, by decide⟩, w0_in (tb4_in (i := 90) (by decide +kernel)) rfl, w0_in (tb4_in (i := 91) (by decide +kernel)) rfl⟩
def z_S_speak : Mt := (yX7_speak, cX7_speak, 4, (some .boolean))
theorem mk_S_speak : MkV z_S_speak 2 := ⟨⟨⟨w0_in (tb4_in (i := 87) rfl) rfl, w0_in (tb1_in (i := 8) (by decide +kernel)) rfl⟩, ⟨by decide, by decide, by decide +kernel⟩, by decide⟩, w0_in (tb4_in (i := 86) (by decide +kernel)) rfl, w0_in (tp_in (i := 16) (by decide +kernel)) rfl⟩
def z_B_append : Mt := (yX0_append, cX0_append, 4, none)
theorem mk_B_append : MkV z_B_append 3 := ⟨⟨⟨w0_in (tb4_in (i := 106) rfl) rfl, w0_in (tb1_in (i := 9) (by decide +kernel)) rfl⟩, ⟨by decide, by decide, by decide +kernel⟩, by decide⟩, w0_in (tb4_in (i := 104) (by decide +kernel)) rfl, w0_in (tb4_in (i := 105) (by decide +kernel)) rfl⟩
def z_B_forgetFirst : Mt := (yX0_forgetFirst, cX0_forgetFirst, 3, none)
theorem mk_B_forgetFirst : MkV z_B_forgetFirst 1 := ⟨⟨⟨w0_in (tb4_in (i := 110) rfl) rfl, w0_in (tb1_in (i := 9) (by decide +kernel)) rfl⟩, ⟨by decide, by decide, by decide +kernel⟩, by decide⟩, w0_in (tb4_in (i := 108) (by decide +kernel)) rfl, w0_in (tb4_in (i := 109) (by decide +kernel)) rfl⟩
def z_B_endNight : Mt := (yX0_endNight, cX0_endNight, 3, none)
theorem mk_B_endNight : MkV z_B_endNight 2 := ⟨⟨⟨w0_in (tb4_in (i := 102) rfl) rfl, w0_in (tb1_in (i := 9) (by decide +kernel)) rfl⟩, ⟨by decide, by decide, by decide +kernel⟩, by decide⟩, w0_in (tb4_in (i := 100) (by decide +kernel)) rfl, w0_in (tb4_in (i := 101) (by decide +kernel)) rfl⟩
def z_S_endNight : Mt := (yX7_endNight, cX7_endNight, 2, none)
theorem mk_S_endNight : MkV z_S_endNight 0 := ⟨⟨⟨w0_in (tb4_in (i := 97) rfl) rfl, w0_in (tb1_in (i := 8) (by decide +kernel)) rfl⟩, ⟨by decide, by decide, by decide +kernel⟩, by decide⟩, w0_in (tb4_in (i := 96) (by decide +kernel)) rfl, w0_in (tp_in (i := 17) (by decide +kernel)) rfl⟩
def z_B_forgetLastButOne : Mt := (yX0_forgetLastButOne, cX0_forgetLastButOne, 2, none)
theorem mk_B_forgetLastButOne : MkV z_B_forgetLastButOne 0 := ⟨⟨⟨w0_in (tb4_in (i := 119) rfl) rfl, w0_in (tb1_in (i := 9) (by decide +kernel)) rfl⟩, ⟨by decide, by decide, by decide +kernel⟩, by decide⟩, w0_in (tb4_in (i := 117) (by decide +kernel)) rfl, w0_in (tb4_in (i := 118) (by decide +kernel)) rfl⟩
def z_S_scrubAt : Mt := (yX7_scrubAt, cX7_scrubAt, 3, (some .boolean))
theorem mk_S_scrubAt : MkV z_S_scrubAt 1 := ⟨⟨⟨w0_in (tb4_in (i := 115) rfl) rfl, w0_in (tb1_in (i := 8) (by decide +kernel)) rfl⟩, ⟨by decide, by decide, by decide +kernel⟩, by decide⟩, w0_in (tb4_in (i := 114) (by decide +kernel)) rfl, w0_in (tp_in (i := 18) (by decide +kernel)) rfl⟩
def z_B_nightOf : Mt := (yX0_nightOf, cX0_nightOf, 2, (some .int))
theorem mk_B_nightOf : MkV z_B_nightOf 1 := ⟨⟨⟨w0_in (tb4_in (i := 127) rfl) rfl, w0_in (tb1_in (i := 9) (by decide +kernel)) rfl⟩, ⟨by decide, by decide, by decide +kernel⟩, by decide⟩, w0_in (tb4_in (i := 125) (by decide +kernel)) rfl, w0_in (tb4_in (i := 126) (by decide +kernel)) rfl⟩
def z_S_joinTo : Mt := (yX7_joinTo, cX7_joinTo, 6, (some .boolean))
theorem mk_S_joinTo : MkV z_S_joinTo 2 := ⟨⟨⟨w0_in (tb4_in (i := 123) rfl) rfl, w0_in (tb1_in (i := 8) (by decide +kernel)) rfl⟩, ⟨by decide, by decide, by decide +kernel⟩, by decide⟩, w0_in (tb4_in (i := 122) (by decide +kernel)) rfl, w0_in (tp_in (i := 19) (by decide +kernel)) rfl⟩
def z_S_splitTo : Mt := (yX7_splitTo, cX7_splitTo, 7, (some .boolean))
theorem mk_S_splitTo : MkV z_S_splitTo 2 := ⟨⟨⟨w0_in (tb4_in (i := 133) rfl) rfl, w0_in (tb1_in (i := 8) (by decide +kernel)) rfl⟩, ⟨by decide, by decide, by decide +kernel⟩, by decide⟩, w0_in (tb4_in (i := 132) (by decide +kernel)) rfl, w0_in (tp_in (i := 20) (by decide +kernel)) rfl⟩
def z_S_follows : Mt := (yX7_follows, cX7_follows, 5, (some .boolean))
theorem mk_S_follows : MkV z_S_follows 2 := ⟨⟨⟨w0_in (tb4_in (i := 21) rfl) rfl, w0_in (tb1_in (i := 8) (by decide +kernel)) rfl⟩, ⟨by decide, by decide, by decide +kernel⟩, by decide⟩, w0_in (tb4_in (i := 19) (by decide +kernel)) rfl, w0_in (tb4_in (i := 20) (by decide +kernel)) rfl⟩
def z_K_follow : Mt := (yX11_follow, cX11_follow, 5, (some .int))
theorem mk_K_follow : MkV z_K_follow 3 := ⟨⟨⟨w0_in (tb4_in (i := 8) rfl) rfl, w0_in (tb1_in (i := 1) (by decide +kernel)) rfl⟩, ⟨by decide, by decide, by decide +kernel⟩, by decide⟩, w0_in (tb4_in (i := 7) (by decide +kernel)) rfl, w0_in (tp_in (i := 11) (by decide +kernel)) rfl⟩
def z_K_stop : Mt := (yX11_stop, cX11_stop, 5, (some .int))
theorem mk_K_stop : MkV z_K_stop 2 := ⟨⟨⟨w0_in (tb4_in (i := 4) rfl) rfl, w0_in (tb1_in (i := 1) (by decide +kernel)) rfl⟩, ⟨by decide, by decide, by decide +kernel⟩, by decide⟩, w0_in (tb4_in (i := 2) (by decide +kernel)) rfl, w0_in (tb4_in (i := 3) (by decide +kernel)) rfl⟩
def z_M_begin : Mt := (yX12_begin, cX12_begin, 2, none)
theorem mk_M_begin : MkV z_M_begin 0 := ⟨⟨⟨w0_in (tb7_in (i := 148) rfl) rfl, w0_in (tb1_in (i := 14) (by decide +kernel)) rfl⟩, ⟨by decide, by decide, by decide +kernel⟩, by decide⟩, w0_in (tb7_in (i := 147) (by decide +kernel)) rfl, w0_in (tp_in (i := 62) (by decide +kernel)) rfl⟩
def z_M_isTable : Mt := (yX12_isTable, cX12_isTable, 2, (some .boolean))
theorem mk_M_isTable : MkV z_M_isTable 1 := ⟨⟨⟨w0_in (tb7_in (i := 160) rfl) rfl, w0_in (tb1_in (i := 14) (by decide +kernel)) rfl⟩, ⟨by decide, by decide, by decide +kernel⟩, by decide⟩, w0_in (tb7_in (i := 159) (by decide +kernel)) rfl, w0_in (tp_in (i := 65) (by decide +kernel)) rfl⟩
def z_M_allSeated : Mt := (yX12_allSeated, cX12_allSeated, 3, (some .int))
theorem mk_M_allSeated : MkV z_M_allSeated 0 := ⟨⟨⟨w0_in (tb7_in (i := 164) rfl) rfl, w0_in (tb1_in (i := 14) (by decide +kernel)) rfl⟩, ⟨by decide, by decide, by decide +kernel⟩, by decide⟩, w0_in (tb7_in (i := 163) (by decide +kernel)) rfl, w0_in (tp_in (i := 66) (by decide +kernel)) rfl⟩
def z_M_ones : Mt := (yX12_ones, cX12_ones, 3, (some .int))
theorem mk_M_ones : MkS z_M_ones 1 := ⟨⟨⟨w0_in (tb7_in (i := 167) rfl) rfl, w0_in (tb1_in (i := 14) (by decide +kernel)) rfl⟩, ⟨by decide, by decide, by decide +kernel⟩, by decide⟩, w0_in (tb7_in (i := 166) (by decide +kernel)) rfl⟩
def z_M_meet : Mt := (yX12_meet, cX12_meet, 4, none)
theorem mk_M_meet : MkV z_M_meet 2 := ⟨⟨⟨w0_in (tb7_in (i := 175) rfl) rfl, w0_in (tb1_in (i := 14) (by decide +kernel)) rfl⟩, ⟨by decide, by decide, by decide +kernel⟩, by decide⟩, w0_in (tb7_in (i := 174) (by decide +kernel)) rfl, w0_in (tp_in (i := 68) (by decide +kernel)) rfl⟩
def z_M_hears : Mt := (yX12_hears, cX12_hears, 4, none)
theorem mk_M_hears : MkV z_M_hears 2 := ⟨⟨⟨w0_in (tb7_in (i := 183) rfl) rfl, w0_in (tb1_in (i := 14) (by decide +kernel)) rfl⟩, ⟨by decide, by decide, by decide +kernel⟩, by decide⟩, w0_in (tb7_in (i := 182) (by decide +kernel)) rfl, w0_in (tp_in (i := 70) (by decide +kernel)) rfl⟩
def z_M_couples : Mt := (yX12_couples, cX12_couples, 7, (some .int))
theorem mk_M_couples : MkV z_M_couples 3 := ⟨⟨⟨w0_in (tb7_in (i := 187) rfl) rfl, w0_in (tb1_in (i := 14) (by decide +kernel)) rfl⟩, ⟨by decide, by decide, by decide +kernel⟩, by decide⟩, w0_in (tb7_in (i := 186) (by decide +kernel)) rfl, w0_in (tp_in (i := 71) (by decide +kernel)) rfl⟩
def z_M_leastOf : Mt := (yX12_leastOf, cX12_leastOf, 3, (some .int))
theorem mk_M_leastOf : MkV z_M_leastOf 1 := ⟨⟨⟨w0_in (tb7_in (i := 191) rfl) rfl, w0_in (tb1_in (i := 14) (by decide +kernel)) rfl⟩, ⟨by decide, by decide, by decide +kernel⟩, by decide⟩, w0_in (tb7_in (i := 190) (by decide +kernel)) rfl, w0_in (tp_in (i := 72) (by decide +kernel)) rfl⟩
def z_M_repeats : Mt := (yX12_repeats, cX12_repeats, 8, none)
theorem mk_M_repeats : MkV z_M_repeats 2 := ⟨⟨⟨w0_in (tb7_in (i := 179) rfl) rfl, w0_in (tb1_in (i := 14) (by decide +kernel)) rfl⟩, ⟨by decide, by decide, by decide +kernel⟩, by decide⟩, w0_in (tb7_in (i := 178) (by decide +kernel)) rfl, w0_in (tp_in (i := 69) (by decide +kernel)) rfl⟩
def z_M_sitsDown : Mt := (yX12_sitsDown, cX12_sitsDown, 4, none)
theorem mk_M_sitsDown : MkV z_M_sitsDown 2 := ⟨⟨⟨w0_in (tb7_in (i := 171) rfl) rfl, w0_in (tb1_in (i := 14) (by decide +kernel)) rfl⟩, ⟨by decide, by decide, by decide +kernel⟩, by decide⟩, w0_in (tb7_in (i := 170) (by decide +kernel)) rfl, w0_in (tp_in (i := 67) (by decide +kernel)) rfl⟩
def z_M_sits : Mt := (yX12_sits, cX12_sits, 3, (some .boolean))
theorem mk_M_sits : MkV z_M_sits 2 := ⟨⟨⟨w0_in (tb7_in (i := 156) rfl) rfl, w0_in (tb1_in (i := 14) (by decide +kernel)) rfl⟩, ⟨by decide, by decide, by decide +kernel⟩, by decide⟩, w0_in (tb7_in (i := 155) (by decide +kernel)) rfl, w0_in (tp_in (i := 64) (by decide +kernel)) rfl⟩
def z_M_isGuest : Mt := (yX12_isGuest, cX12_isGuest, 2, (some .boolean))
theorem mk_M_isGuest : MkV z_M_isGuest 1 := ⟨⟨⟨w0_in (tb7_in (i := 199) rfl) rfl, w0_in (tb1_in (i := 14) (by decide +kernel)) rfl⟩, ⟨by decide, by decide, by decide +kernel⟩, by decide⟩, w0_in (tb7_in (i := 198) (by decide +kernel)) rfl, w0_in (tp_in (i := 74) (by decide +kernel)) rfl⟩
def z_M_tableOf : Mt := (yX12_tableOf, cX12_tableOf, 3, (some .int))
theorem mk_M_tableOf : MkV z_M_tableOf 1 := ⟨⟨⟨w0_in (tb7_in (i := 203) rfl) rfl, w0_in (tb1_in (i := 14) (by decide +kernel)) rfl⟩, ⟨by decide, by decide, by decide +kernel⟩, by decide⟩, w0_in (tb7_in (i := 202) (by decide +kernel)) rfl, w0_in (tp_in (i := 75) (by decide +kernel)) rfl⟩
def z_M_says : Mt := (yX12_says, cX12_says, 4, (some .boolean))
theorem mk_M_says : MkV z_M_says 2 := ⟨⟨⟨w0_in (tb7_in (i := 195) rfl) rfl, w0_in (tb1_in (i := 14) (by decide +kernel)) rfl⟩, ⟨by decide, by decide, by decide +kernel⟩, by decide⟩, w0_in (tb7_in (i := 194) (by decide +kernel)) rfl, w0_in (tp_in (i := 73) (by decide +kernel)) rfl⟩
def z_M_movePast : Mt := (yX12_movePast, cX12_movePast, 5, none)
theorem mk_M_movePast : MkV z_M_movePast 4 := ⟨⟨⟨w0_in (tb7_in (i := 219) rfl) rfl, w0_in (tb1_in (i := 14) (by decide +kernel)) rfl⟩, ⟨by decide, by decide, by decide +kernel⟩, by decide⟩, w0_in (tb7_in (i := 218) (by decide +kernel)) rfl, w0_in (tp_in (i := 79) (by decide +kernel)) rfl⟩
def z_M_lessens : Mt := (yX12_lessens, cX12_lessens, 4, (some .int))
theorem mk_M_lessens : MkV z_M_lessens 1 := ⟨⟨⟨w0_in (tb7_in (i := 215) rfl) rfl, w0_in (tb1_in (i := 14) (by decide +kernel)) rfl⟩, ⟨by decide, by decide, by decide +kernel⟩, by decide⟩, w0_in (tb7_in (i := 214) (by decide +kernel)) rfl, w0_in (tp_in (i := 78) (by decide +kernel)) rfl⟩
def z_M_becomesPast : Mt := (yX12_becomesPast, cX12_becomesPast, 3, none)
theorem mk_M_becomesPast : MkV z_M_becomesPast 1 := ⟨⟨⟨w0_in (tb7_in (i := 211) rfl) rfl, w0_in (tb1_in (i := 14) (by decide +kernel)) rfl⟩, ⟨by decide, by decide, by decide +kernel⟩, by decide⟩, w0_in (tb7_in (i := 210) (by decide +kernel)) rfl, w0_in (tp_in (i := 77) (by decide +kernel)) rfl⟩
def z_M_night : Mt := (yX12_night, cX12_night, 2, none)
theorem mk_M_night : MkV z_M_night 0 := ⟨⟨⟨w0_in (tb7_in (i := 207) rfl) rfl, w0_in (tb1_in (i := 14) (by decide +kernel)) rfl⟩, ⟨by decide, by decide, by decide +kernel⟩, by decide⟩, w0_in (tb7_in (i := 206) (by decide +kernel)) rfl, w0_in (tp_in (i := 76) (by decide +kernel)) rfl⟩
def z_M_scrubs : Mt := (yX12_scrubs, cX12_scrubs, 3, (some .boolean))
theorem mk_M_scrubs : MkV z_M_scrubs 1 := ⟨⟨⟨w0_in (tb7_in (i := 223) rfl) rfl, w0_in (tb1_in (i := 14) (by decide +kernel)) rfl⟩, ⟨by decide, by decide, by decide +kernel⟩, by decide⟩, w0_in (tb7_in (i := 222) (by decide +kernel)) rfl, w0_in (tp_in (i := 80) (by decide +kernel)) rfl⟩
def z_M_areFree : Mt := (yX12_areFree, cX12_areFree, 3, (some .boolean))
theorem mk_M_areFree : MkV z_M_areFree 2 := ⟨⟨⟨w0_in (tb7_in (i := 231) rfl) rfl, w0_in (tb1_in (i := 14) (by decide +kernel)) rfl⟩, ⟨by decide, by decide, by decide +kernel⟩, by decide⟩, w0_in (tb7_in (i := 230) (by decide +kernel)) rfl, w0_in (tp_in (i := 82) (by decide +kernel)) rfl⟩
def z_M_joins : Mt := (yX12_joins, cX12_joins, 4, (some .boolean))
theorem mk_M_joins : MkV z_M_joins 2 := ⟨⟨⟨w0_in (tb7_in (i := 227) rfl) rfl, w0_in (tb1_in (i := 14) (by decide +kernel)) rfl⟩, ⟨by decide, by decide, by decide +kernel⟩, by decide⟩, w0_in (tb7_in (i := 226) (by decide +kernel)) rfl, w0_in (tp_in (i := 81) (by decide +kernel)) rfl⟩
def z_M_splits : Mt := (yX12_splits, cX12_splits, 5, (some .boolean))
theorem mk_M_splits : MkV z_M_splits 2 := ⟨⟨⟨w0_in (tb7_in (i := 235) rfl) rfl, w0_in (tb1_in (i := 14) (by decide +kernel)) rfl⟩, ⟨by decide, by decide, by decide +kernel⟩, by decide⟩, w0_in (tb7_in (i := 234) (by decide +kernel)) rfl, w0_in (tp_in (i := 83) (by decide +kernel)) rfl⟩
def z_M_does : Mt := (yX12_does, cX12_does, 4, (some .boolean))
theorem mk_M_does : MkV z_M_does 1 := ⟨⟨⟨w0_in (tb7_in (i := 152) rfl) rfl, w0_in (tb1_in (i := 14) (by decide +kernel)) rfl⟩, ⟨by decide, by decide, by decide +kernel⟩, by decide⟩, w0_in (tb7_in (i := 151) (by decide +kernel)) rfl, w0_in (tp_in (i := 63) (by decide +kernel)) rfl⟩
def z_M_play : Mt := (yX12_play, cX12_play, 3, (some .int))
theorem mk_M_play : MkV z_M_play 1 := ⟨⟨⟨w0_in (tb7_in (i := 144) rfl) rfl, w0_in (tb1_in (i := 14) (by decide +kernel)) rfl⟩, ⟨by decide, by decide, by decide +kernel⟩, by decide⟩, w0_in (tb7_in (i := 143) (by decide +kernel)) rfl, w0_in (tp_in (i := 61) (by decide +kernel)) rfl⟩
def z_M_stop : Mt := (yX12_stop, cX12_stop, 3, (some .int))
theorem mk_M_stop : MkV z_M_stop 2 := ⟨⟨⟨w0_in (tb7_in (i := 140) rfl) rfl, w0_in (tb1_in (i := 14) (by decide +kernel)) rfl⟩, ⟨by decide, by decide, by decide +kernel⟩, by decide⟩, w0_in (tb7_in (i := 138) (by decide +kernel)) rfl, w0_in (tb7_in (i := 139) (by decide +kernel)) rfl⟩
def z_K_reach : Mt := (yX11_reach, cX11_reach, 6, (some (.object "GrainInn$State")))
theorem mk_K_reach : MkV z_K_reach 3 := ⟨⟨⟨w0_in (tb4_in (i := 141) rfl) rfl, w0_in (tb1_in (i := 1) (by decide +kernel)) rfl⟩, ⟨by decide, by decide, by decide +kernel⟩, by decide⟩, w0_in (tb4_in (i := 140) (by decide +kernel)) rfl, w0_in (tp_in (i := 21) (by decide +kernel)) rfl⟩
def z_S_paidByAll : Mt := (yX7_paidByAll, cX7_paidByAll, 3, (some .int))
theorem mk_S_paidByAll : MkV z_S_paidByAll 0 := ⟨⟨⟨w0_in (tb4_in (i := 145) rfl) rfl, w0_in (tb1_in (i := 8) (by decide +kernel)) rfl⟩, ⟨by decide, by decide, by decide +kernel⟩, by decide⟩, w0_in (tb4_in (i := 143) (by decide +kernel)) rfl, w0_in (tb4_in (i := 144) (by decide +kernel)) rfl⟩
def z_K_benchFact : Mt := (yX11_benchFact, cX11_benchFact, 4, (some .int))
theorem mk_K_benchFact : MkS z_K_benchFact 2 := ⟨⟨⟨w0_in (tb4_in (i := 149) rfl) rfl, w0_in (tb1_in (i := 1) (by decide +kernel)) rfl⟩, ⟨by decide, by decide, by decide +kernel⟩, by decide⟩, w0_in (tb4_in (i := 148) (by decide +kernel)) rfl⟩
def z_K_state : Mt := (yX11_state, cX11_state, 6, (some .int))
theorem mk_K_state : MkV z_K_state 4 := ⟨⟨⟨w0_in (tb4_in (i := 137) rfl) rfl, w0_in (tb1_in (i := 1) (by decide +kernel)) rfl⟩, ⟨by decide, by decide, by decide +kernel⟩, by decide⟩, w0_in (tb4_in (i := 135) (by decide +kernel)) rfl, w0_in (tb4_in (i := 136) (by decide +kernel)) rfl⟩
def z_M_layState : Mt := (yX12_layState, cX12_layState, 4, (some .boolean))
theorem mk_M_layState : MkV z_M_layState 3 := ⟨⟨⟨w0_in (tb8_in (i := 3) rfl) rfl, w0_in (tb1_in (i := 14) (by decide +kernel)) rfl⟩, ⟨by decide, by decide, by decide +kernel⟩, by decide⟩, w0_in (tb8_in (i := 2) (by decide +kernel)) rfl, w0_in (tp_in (i := 84) (by decide +kernel)) rfl⟩
def z_M_allPaid : Mt := (yX12_allPaid, cX12_allPaid, 3, (some .int))
theorem mk_M_allPaid : MkV z_M_allPaid 0 := ⟨⟨⟨w0_in (tb8_in (i := 7) rfl) rfl, w0_in (tb1_in (i := 14) (by decide +kernel)) rfl⟩, ⟨by decide, by decide, by decide +kernel⟩, by decide⟩, w0_in (tb8_in (i := 6) (by decide +kernel)) rfl, w0_in (tp_in (i := 85) (by decide +kernel)) rfl⟩
def z_M_state : Mt := (yX12_state, cX12_state, 5, (some .int))
theorem mk_M_state : MkV z_M_state 4 := ⟨⟨⟨w0_in (tb7_in (i := 239) rfl) rfl, w0_in (tb1_in (i := 14) (by decide +kernel)) rfl⟩, ⟨by decide, by decide, by decide +kernel⟩, by decide⟩, w0_in (tb7_in (i := 237) (by decide +kernel)) rfl, w0_in (tb7_in (i := 238) (by decide +kernel)) rfl⟩
def z_S_heardBy : Mt := (yX7_heardBy, cX7_heardBy, 2, (some .int))
theorem mk_S_heardBy : MkV z_S_heardBy 1 := ⟨⟨⟨w0_in (tb4_in (i := 160) rfl) rfl, w0_in (tb1_in (i := 8) (by decide +kernel)) rfl⟩, ⟨by decide, by decide, by decide +kernel⟩, by decide⟩, w0_in (tb4_in (i := 158) (by decide +kernel)) rfl, w0_in (tb4_in (i := 159) (by decide +kernel)) rfl⟩
def z_S_paidBy : Mt := (yX7_paidBy, cX7_paidBy, 2, (some .int))
theorem mk_S_paidBy : MkV z_S_paidBy 1 := ⟨⟨⟨w0_in (tb4_in (i := 164) rfl) rfl, w0_in (tb1_in (i := 8) (by decide +kernel)) rfl⟩, ⟨by decide, by decide, by decide +kernel⟩, by decide⟩, w0_in (tb4_in (i := 162) (by decide +kernel)) rfl, w0_in (tb4_in (i := 163) (by decide +kernel)) rfl⟩
def z_S_debtOf : Mt := (yX7_debtOf, cX7_debtOf, 3, (some .int))
theorem mk_S_debtOf : MkV z_S_debtOf 2 := ⟨⟨⟨w0_in (tb4_in (i := 173) rfl) rfl, w0_in (tb1_in (i := 8) (by decide +kernel)) rfl⟩, ⟨by decide, by decide, by decide +kernel⟩, by decide⟩, w0_in (tb4_in (i := 171) (by decide +kernel)) rfl, w0_in (tb4_in (i := 172) (by decide +kernel)) rfl⟩
def z_S_netOf : Mt := (yX7_netOf, cX7_netOf, 4, (some .int))
theorem mk_S_netOf : MkV z_S_netOf 1 := ⟨⟨⟨w0_in (tb4_in (i := 169) rfl) rfl, w0_in (tb1_in (i := 8) (by decide +kernel)) rfl⟩, ⟨by decide, by decide, by decide +kernel⟩, by decide⟩, w0_in (tb4_in (i := 167) (by decide +kernel)) rfl, w0_in (tb4_in (i := 168) (by decide +kernel)) rfl⟩
def z_S_creditorOf : Mt := (yX7_creditorOf, cX7_creditorOf, 5, (some .int))
theorem mk_S_creditorOf : MkV z_S_creditorOf 1 := ⟨⟨⟨w0_in (tb4_in (i := 181) rfl) rfl, w0_in (tb1_in (i := 8) (by decide +kernel)) rfl⟩, ⟨by decide, by decide, by decide +kernel⟩, by decide⟩, w0_in (tb4_in (i := 180) (by decide +kernel)) rfl, w0_in (tp_in (i := 22) (by decide +kernel)) rfl⟩
def z_S_followDebts : Mt := (yX7_followDebts, cX7_followDebts, 5, none)
theorem mk_S_followDebts : MkV z_S_followDebts 1 := ⟨⟨⟨w0_in (tb4_in (i := 177) rfl) rfl, w0_in (tb1_in (i := 8) (by decide +kernel)) rfl⟩, ⟨by decide, by decide, by decide +kernel⟩, by decide⟩, w0_in (tb4_in (i := 175) (by decide +kernel)) rfl, w0_in (tb4_in (i := 176) (by decide +kernel)) rfl⟩
def z_K_guest : Mt := (yX11_guest, cX11_guest, 7, (some .int))
theorem mk_K_guest : MkV z_K_guest 5 := ⟨⟨⟨w0_in (tb4_in (i := 154) rfl) rfl, w0_in (tb1_in (i := 1) (by decide +kernel)) rfl⟩, ⟨by decide, by decide, by decide +kernel⟩, by decide⟩, w0_in (tb4_in (i := 152) (by decide +kernel)) rfl, w0_in (tb4_in (i := 153) (by decide +kernel)) rfl⟩
def z_M_owesMost : Mt := (yX12_owesMost, cX12_owesMost, 5, (some .int))
theorem mk_M_owesMost : MkV z_M_owesMost 1 := ⟨⟨⟨w0_in (tb8_in (i := 20) rfl) rfl, w0_in (tb1_in (i := 14) (by decide +kernel)) rfl⟩, ⟨by decide, by decide, by decide +kernel⟩, by decide⟩, w0_in (tb8_in (i := 19) (by decide +kernel)) rfl, w0_in (tp_in (i := 87) (by decide +kernel)) rfl⟩
def z_M_chain : Mt := (yX12_chain, cX12_chain, 4, none)
theorem mk_M_chain : MkV z_M_chain 1 := ⟨⟨⟨w0_in (tb8_in (i := 16) rfl) rfl, w0_in (tb1_in (i := 14) (by decide +kernel)) rfl⟩, ⟨by decide, by decide, by decide +kernel⟩, by decide⟩, w0_in (tb8_in (i := 15) (by decide +kernel)) rfl, w0_in (tp_in (i := 86) (by decide +kernel)) rfl⟩
def z_M_net : Mt := (yX12_net, cX12_net, 4, (some .int))
theorem mk_M_net : MkV z_M_net 1 := ⟨⟨⟨w0_in (tb8_in (i := 24) rfl) rfl, w0_in (tb1_in (i := 14) (by decide +kernel)) rfl⟩, ⟨by decide, by decide, by decide +kernel⟩, by decide⟩, w0_in (tb8_in (i := 23) (by decide +kernel)) rfl, w0_in (tp_in (i := 88) (by decide +kernel)) rfl⟩
def z_M_guest : Mt := (yX12_guest, cX12_guest, 6, (some .int))
theorem mk_M_guest : MkV z_M_guest 5 := ⟨⟨⟨w0_in (tb8_in (i := 11) rfl) rfl, w0_in (tb1_in (i := 14) (by decide +kernel)) rfl⟩, ⟨by decide, by decide, by decide +kernel⟩, by decide⟩, w0_in (tb8_in (i := 9) (by decide +kernel)) rfl, w0_in (tb8_in (i := 10) (by decide +kernel)) rfl⟩
def z_K_past : Mt := (yX11_past, cX11_past, 9, (some .int))
theorem mk_K_past : MkV z_K_past 6 := ⟨⟨⟨w0_in (tb4_in (i := 186) rfl) rfl, w0_in (tb1_in (i := 1) (by decide +kernel)) rfl⟩, ⟨by decide, by decide, by decide +kernel⟩, by decide⟩, w0_in (tb4_in (i := 184) (by decide +kernel)) rfl, w0_in (tb4_in (i := 185) (by decide +kernel)) rfl⟩
def z_M_past : Mt := (yX12_past, cX12_past, 8, (some .int))
theorem mk_M_past : MkV z_M_past 6 := ⟨⟨⟨w0_in (tb8_in (i := 28) rfl) rfl, w0_in (tb1_in (i := 14) (by decide +kernel)) rfl⟩, ⟨by decide, by decide, by decide +kernel⟩, by decide⟩, w0_in (tb8_in (i := 26) (by decide +kernel)) rfl, w0_in (tb8_in (i := 27) (by decide +kernel)) rfl⟩
def z_K_wish : Mt := (yX11_wish, cX11_wish, 4, (some .int))
theorem mk_K_wish : MkV z_K_wish 3 := ⟨⟨⟨w0_in (tb4_in (i := 193) rfl) rfl, w0_in (tb1_in (i := 1) (by decide +kernel)) rfl⟩, ⟨by decide, by decide, by decide +kernel⟩, by decide⟩, w0_in (tb4_in (i := 191) (by decide +kernel)) rfl, w0_in (tb4_in (i := 192) (by decide +kernel)) rfl⟩
def z_M_hasWishes : Mt := (yX12_hasWishes, cX12_hasWishes, 2, (some .boolean))
theorem mk_M_hasWishes : MkV z_M_hasWishes 1 := ⟨⟨⟨w0_in (tb8_in (i := 36) rfl) rfl, w0_in (tb1_in (i := 14) (by decide +kernel)) rfl⟩, ⟨by decide, by decide, by decide +kernel⟩, by decide⟩, w0_in (tb8_in (i := 35) (by decide +kernel)) rfl, w0_in (tp_in (i := 89) (by decide +kernel)) rfl⟩
def z_M_wishMany : Mt := (yX12_wishMany, cX12_wishMany, 1, (some .int))
theorem mk_M_wishMany : MkV z_M_wishMany 0 := ⟨⟨⟨w0_in (tb8_in (i := 40) rfl) rfl, w0_in (tb1_in (i := 14) (by decide +kernel)) rfl⟩, ⟨by decide, by decide, by decide +kernel⟩, by decide⟩, w0_in (tb8_in (i := 39) (by decide +kernel)) rfl, w0_in (tp_in (i := 90) (by decide +kernel)) rfl⟩
def z_M_wishOf : Mt := (yX12_wishOf, cX12_wishOf, 3, (some .int))
theorem mk_M_wishOf : MkV z_M_wishOf 2 := ⟨⟨⟨w0_in (tb8_in (i := 44) rfl) rfl, w0_in (tb1_in (i := 14) (by decide +kernel)) rfl⟩, ⟨by decide, by decide, by decide +kernel⟩, by decide⟩, w0_in (tb8_in (i := 43) (by decide +kernel)) rfl, w0_in (tp_in (i := 91) (by decide +kernel)) rfl⟩
def z_M_wish : Mt := (yX12_wish, cX12_wish, 4, (some .int))
theorem mk_M_wish : MkV z_M_wish 3 := ⟨⟨⟨w0_in (tb8_in (i := 32) rfl) rfl, w0_in (tb1_in (i := 14) (by decide +kernel)) rfl⟩, ⟨by decide, by decide, by decide +kernel⟩, by decide⟩, w0_in (tb8_in (i := 30) (by decide +kernel)) rfl, w0_in (tb8_in (i := 31) (by decide +kernel)) rfl⟩
def z_G_isHere : Mt := (yX6_isHere, cX6_isHere, 2, (some .boolean))
theorem mk_G_isHere : MkV z_G_isHere 1 := ⟨⟨⟨w0_in (tb4_in (i := 215) rfl) rfl, w0_in (tb1_in (i := 11) (by decide +kernel)) rfl⟩, ⟨by decide, by decide, by decide +kernel⟩, by decide⟩, w0_in (tb4_in (i := 214) (by decide +kernel)) rfl, w0_in (tp_in (i := 24) (by decide +kernel)) rfl⟩
def z_G_tablesWith : Mt := (yX6_tablesWith, cX6_tablesWith, 6, (some .int))
theorem mk_G_tablesWith : MkS z_G_tablesWith 3 := ⟨⟨⟨w0_in (tb4_in (i := 219) rfl) rfl, w0_in (tb1_in (i := 11) (by decide +kernel)) rfl⟩, ⟨by decide, by decide, by decide +kernel⟩, by decide⟩, w0_in (tb4_in (i := 218) (by decide +kernel)) rfl⟩
def z_G_takeWish : Mt := (yX6_takeWish, cX6_takeWish, 6, (some .boolean))
theorem mk_G_takeWish : MkV z_G_takeWish 4 := ⟨⟨⟨w0_in (tb4_in (i := 211) rfl) rfl, w0_in (tb1_in (i := 11) (by decide +kernel)) rfl⟩, ⟨by decide, by decide, by decide +kernel⟩, by decide⟩, w0_in (tb4_in (i := 210) (by decide +kernel)) rfl, w0_in (tp_in (i := 23) (by decide +kernel)) rfl⟩
def z_G_weigh : Mt := (yX6_weigh, cX6_weigh, 3, none)
theorem mk_G_weigh : MkV z_G_weigh 2 := ⟨⟨⟨w0_in (tb4_in (i := 229) rfl) rfl, w0_in (tb1_in (i := 11) (by decide +kernel)) rfl⟩, ⟨by decide, by decide, by decide +kernel⟩, by decide⟩, w0_in (tb4_in (i := 228) (by decide +kernel)) rfl, w0_in (tp_in (i := 26) (by decide +kernel)) rfl⟩
def z_G_maySit : Mt := (yX6_maySit, cX6_maySit, 5, (some .boolean))
theorem mk_G_maySit : MkV z_G_maySit 2 := ⟨⟨⟨w0_in (tb4_in (i := 234) rfl) rfl, w0_in (tb1_in (i := 11) (by decide +kernel)) rfl⟩, ⟨by decide, by decide, by decide +kernel⟩, by decide⟩, w0_in (tb4_in (i := 233) (by decide +kernel)) rfl, w0_in (tp_in (i := 27) (by decide +kernel)) rfl⟩
def z_G_seatFrom : Mt := (yX6_seatFrom, cX6_seatFrom, 7, none)
theorem mk_G_seatFrom : MkV z_G_seatFrom 3 := ⟨⟨⟨w0_in (tb4_in (i := 225) rfl) rfl, w0_in (tb1_in (i := 11) (by decide +kernel)) rfl⟩, ⟨by decide, by decide, by decide +kernel⟩, by decide⟩, w0_in (tb4_in (i := 224) (by decide +kernel)) rfl, w0_in (tp_in (i := 25) (by decide +kernel)) rfl⟩
def z_G_search : Mt := (yX6_search, cX6_search, 5, none)
theorem mk_G_search : MkV z_G_search 2 := ⟨⟨⟨w0_in (tb4_in (i := 201) rfl) rfl, w0_in (tb1_in (i := 11) (by decide +kernel)) rfl⟩, ⟨by decide, by decide, by decide +kernel⟩, by decide⟩, w0_in (tb4_in (i := 199) (by decide +kernel)) rfl, w0_in (tb4_in (i := 200) (by decide +kernel)) rfl⟩
def z_G_bestTableOf : Mt := (yX6_bestTableOf, cX6_bestTableOf, 2, (some .int))
theorem mk_G_bestTableOf : MkV z_G_bestTableOf 1 := ⟨⟨⟨w0_in (tb5_in (i := 3) rfl) rfl, w0_in (tb1_in (i := 11) (by decide +kernel)) rfl⟩, ⟨by decide, by decide, by decide +kernel⟩, by decide⟩, w0_in (tb5_in (i := 1) (by decide +kernel)) rfl, w0_in (tb5_in (i := 2) (by decide +kernel)) rfl⟩
def z_K_seats : Mt := (yX11_seats, cX11_seats, 8, (some .int))
theorem mk_K_seats : MkV z_K_seats 5 := ⟨⟨⟨w0_in (tb4_in (i := 197) rfl) rfl, w0_in (tb1_in (i := 1) (by decide +kernel)) rfl⟩, ⟨by decide, by decide, by decide +kernel⟩, by decide⟩, w0_in (tb4_in (i := 195) (by decide +kernel)) rfl, w0_in (tb4_in (i := 196) (by decide +kernel)) rfl⟩
def z_M_laySeats : Mt := (yX12_laySeats, cX12_laySeats, 5, (some .boolean))
theorem mk_M_laySeats : MkV z_M_laySeats 1 := ⟨⟨⟨w0_in (tb8_in (i := 53) rfl) rfl, w0_in (tb1_in (i := 14) (by decide +kernel)) rfl⟩, ⟨by decide, by decide, by decide +kernel⟩, by decide⟩, w0_in (tb8_in (i := 52) (by decide +kernel)) rfl, w0_in (tp_in (i := 92) (by decide +kernel)) rfl⟩
def z_M_isFulfilled : Mt := (yX12_isFulfilled, cX12_isFulfilled, 7, (some .boolean))
theorem mk_M_isFulfilled : MkV z_M_isFulfilled 1 := ⟨⟨⟨w0_in (tb8_in (i := 61) rfl) rfl, w0_in (tb1_in (i := 14) (by decide +kernel)) rfl⟩, ⟨by decide, by decide, by decide +kernel⟩, by decide⟩, w0_in (tb8_in (i := 60) (by decide +kernel)) rfl, w0_in (tp_in (i := 94) (by decide +kernel)) rfl⟩
def z_M_areFulfilled : Mt := (yX12_areFulfilled, cX12_areFulfilled, 3, (some .boolean))
theorem mk_M_areFulfilled : MkV z_M_areFulfilled 0 := ⟨⟨⟨w0_in (tb8_in (i := 57) rfl) rfl, w0_in (tb1_in (i := 14) (by decide +kernel)) rfl⟩, ⟨by decide, by decide, by decide +kernel⟩, by decide⟩, w0_in (tb8_in (i := 56) (by decide +kernel)) rfl, w0_in (tp_in (i := 93) (by decide +kernel)) rfl⟩
def z_M_ghostsAt : Mt := (yX12_ghostsAt, cX12_ghostsAt, 2, (some .int))
theorem mk_M_ghostsAt : MkV z_M_ghostsAt 1 := ⟨⟨⟨w0_in (tb8_in (i := 69) rfl) rfl, w0_in (tb1_in (i := 14) (by decide +kernel)) rfl⟩, ⟨by decide, by decide, by decide +kernel⟩, by decide⟩, w0_in (tb8_in (i := 68) (by decide +kernel)) rfl, w0_in (tp_in (i := 96) (by decide +kernel)) rfl⟩
def z_M_harm : Mt := (yX12_harm, cX12_harm, 3, (some .int))
theorem mk_M_harm : MkV z_M_harm 0 := ⟨⟨⟨w0_in (tb8_in (i := 65) rfl) rfl, w0_in (tb1_in (i := 14) (by decide +kernel)) rfl⟩, ⟨by decide, by decide, by decide +kernel⟩, by decide⟩, w0_in (tb8_in (i := 64) (by decide +kernel)) rfl, w0_in (tp_in (i := 95) (by decide +kernel)) rfl⟩
def z_M_pays : Mt := (yX12_pays, cX12_pays, 3, (some .int))
theorem mk_M_pays : MkV z_M_pays 0 := ⟨⟨⟨w0_in (tb8_in (i := 73) rfl) rfl, w0_in (tb1_in (i := 14) (by decide +kernel)) rfl⟩, ⟨by decide, by decide, by decide +kernel⟩, by decide⟩, w0_in (tb8_in (i := 72) (by decide +kernel)) rfl, w0_in (tp_in (i := 97) (by decide +kernel)) rfl⟩
def z_M_seats : Mt := (yX12_seats, cX12_seats, 14, (some .int))
theorem mk_M_seats : MkV z_M_seats 5 := ⟨⟨⟨w0_in (tb8_in (i := 48) rfl) rfl, w0_in (tb1_in (i := 14) (by decide +kernel)) rfl⟩, ⟨by decide, by decide, by decide +kernel⟩, by decide⟩, w0_in (tb8_in (i := 46) (by decide +kernel)) rfl, w0_in (tb8_in (i := 47) (by decide +kernel)) rfl⟩
def z_B_copyFrom : Mt := (yX0_copyFrom, cX0_copyFrom, 3, none)
theorem mk_B_copyFrom : MkV z_B_copyFrom 1 := ⟨⟨⟨w0_in (tb5_in (i := 22) rfl) rfl, w0_in (tb1_in (i := 9) (by decide +kernel)) rfl⟩, ⟨by decide, by decide, by decide +kernel⟩, by decide⟩, w0_in (tb5_in (i := 20) (by decide +kernel)) rfl, w0_in (tb5_in (i := 21) (by decide +kernel)) rfl⟩
def z_N_tryFrom : Mt := (yX5_tryFrom, cX5_tryFrom, 4, none)
theorem mk_N_tryFrom : MkV z_N_tryFrom 2 := ⟨⟨⟨w0_in (tb5_in (i := 16) rfl) rfl, w0_in (tb1_in (i := 10) (by decide +kernel)) rfl⟩, ⟨by decide, by decide, by decide +kernel⟩, by decide⟩, w0_in (tb5_in (i := 15) (by decide +kernel)) rfl, w0_in (tp_in (i := 28) (by decide +kernel)) rfl⟩
def z_B_sitQuietly : Mt := (yX0_sitQuietly, cX0_sitQuietly, 3, none)
theorem mk_B_sitQuietly : MkV z_B_sitQuietly 2 := ⟨⟨⟨w0_in (tb5_in (i := 34) rfl) rfl, w0_in (tb1_in (i := 9) (by decide +kernel)) rfl⟩, ⟨by decide, by decide, by decide +kernel⟩, by decide⟩, w0_in (tb5_in (i := 32) (by decide +kernel)) rfl, w0_in (tb5_in (i := 33) (by decide +kernel)) rfl⟩
def z_N_awaitWord : Mt := (yX5_awaitWord, cX5_awaitWord, 5, none)
theorem mk_N_awaitWord : MkV z_N_awaitWord 3 := ⟨⟨⟨w0_in (tb5_in (i := 12) rfl) rfl, w0_in (tb1_in (i := 10) (by decide +kernel)) rfl⟩, ⟨by decide, by decide, by decide +kernel⟩, by decide⟩, w0_in (tb5_in (i := 10) (by decide +kernel)) rfl, w0_in (tb5_in (i := 11) (by decide +kernel)) rfl⟩
def z_K_comes : Mt := (yX11_comes, cX11_comes, 8, (some .int))
theorem mk_K_comes : MkV z_K_comes 6 := ⟨⟨⟨w0_in (tb5_in (i := 7) rfl) rfl, w0_in (tb1_in (i := 1) (by decide +kernel)) rfl⟩, ⟨by decide, by decide, by decide +kernel⟩, by decide⟩, w0_in (tb5_in (i := 5) (by decide +kernel)) rfl, w0_in (tb5_in (i := 6) (by decide +kernel)) rfl⟩
def z_M_findComes : Mt := (yX12_findComes, cX12_findComes, 7, none)
theorem mk_M_findComes : MkV z_M_findComes 2 := ⟨⟨⟨w0_in (tb8_in (i := 81) rfl) rfl, w0_in (tb1_in (i := 14) (by decide +kernel)) rfl⟩, ⟨by decide, by decide, by decide +kernel⟩, by decide⟩, w0_in (tb8_in (i := 80) (by decide +kernel)) rfl, w0_in (tp_in (i := 98) (by decide +kernel)) rfl⟩
def z_M_comes : Mt := (yX12_comes, cX12_comes, 7, (some .int))
theorem mk_M_comes : MkV z_M_comes 6 := ⟨⟨⟨w0_in (tb8_in (i := 77) rfl) rfl, w0_in (tb1_in (i := 14) (by decide +kernel)) rfl⟩, ⟨by decide, by decide, by decide +kernel⟩, by decide⟩, w0_in (tb8_in (i := 75) (by decide +kernel)) rfl, w0_in (tb8_in (i := 76) (by decide +kernel)) rfl⟩
def z_H_isPeaceful : Mt := (yX1_isPeaceful, cX1_isPeaceful, 2, (some .boolean))
theorem mk_H_isPeaceful : MkV z_H_isPeaceful 1 := ⟨⟨⟨w0_in (tb5_in (i := 48) rfl) rfl, w0_in (tb1_in (i := 4) (by decide +kernel)) rfl⟩, ⟨by decide, by decide, by decide +kernel⟩, by decide⟩, w0_in (tb5_in (i := 46) (by decide +kernel)) rfl, w0_in (tb5_in (i := 47) (by decide +kernel)) rfl⟩
def z_P_fewestCuts : Mt := (yX3_fewestCuts, cX3_fewestCuts, 7, (some .int))
theorem mk_P_fewestCuts : MkV z_P_fewestCuts 2 := ⟨⟨⟨w0_in (tb5_in (i := 43) rfl) rfl, w0_in (tb1_in (i := 13) (by decide +kernel)) rfl⟩, ⟨by decide, by decide, by decide +kernel⟩, by decide⟩, w0_in (tb5_in (i := 41) (by decide +kernel)) rfl, w0_in (tb5_in (i := 42) (by decide +kernel)) rfl⟩
def z_P_leastForgotten : Mt := (yX3_leastForgotten, cX3_leastForgotten, 8, (some .int))
theorem mk_P_leastForgotten : MkV z_P_leastForgotten 2 := ⟨⟨⟨w0_in (tb5_in (i := 53) rfl) rfl, w0_in (tb1_in (i := 13) (by decide +kernel)) rfl⟩, ⟨by decide, by decide, by decide +kernel⟩, by decide⟩, w0_in (tb5_in (i := 51) (by decide +kernel)) rfl, w0_in (tb5_in (i := 52) (by decide +kernel)) rfl⟩
def z_K_cuts : Mt := (yX11_cuts, cX11_cuts, 8, (some .int))
theorem mk_K_cuts : MkV z_K_cuts 5 := ⟨⟨⟨w0_in (tb5_in (i := 39) rfl) rfl, w0_in (tb1_in (i := 1) (by decide +kernel)) rfl⟩, ⟨by decide, by decide, by decide +kernel⟩, by decide⟩, w0_in (tb5_in (i := 37) (by decide +kernel)) rfl, w0_in (tb5_in (i := 38) (by decide +kernel)) rfl⟩
def z_M_isQuiet : Mt := (yX12_isQuiet, cX12_isQuiet, 2, (some .boolean))
theorem mk_M_isQuiet : MkV z_M_isQuiet 1 := ⟨⟨⟨w0_in (tb8_in (i := 93) rfl) rfl, w0_in (tb1_in (i := 14) (by decide +kernel)) rfl⟩, ⟨by decide, by decide, by decide +kernel⟩, by decide⟩, w0_in (tb8_in (i := 92) (by decide +kernel)) rfl, w0_in (tp_in (i := 100) (by decide +kernel)) rfl⟩
def z_M_cutsOf : Mt := (yX12_cutsOf, cX12_cutsOf, 7, (some .int))
theorem mk_M_cutsOf : MkV z_M_cutsOf 1 := ⟨⟨⟨w0_in (tb8_in (i := 89) rfl) rfl, w0_in (tb1_in (i := 14) (by decide +kernel)) rfl⟩, ⟨by decide, by decide, by decide +kernel⟩, by decide⟩, w0_in (tb8_in (i := 88) (by decide +kernel)) rfl, w0_in (tp_in (i := 99) (by decide +kernel)) rfl⟩
def z_M_leastGone : Mt := (yX12_leastGone, cX12_leastGone, 6, (some .int))
theorem mk_M_leastGone : MkV z_M_leastGone 1 := ⟨⟨⟨w0_in (tb8_in (i := 97) rfl) rfl, w0_in (tb1_in (i := 14) (by decide +kernel)) rfl⟩, ⟨by decide, by decide, by decide +kernel⟩, by decide⟩, w0_in (tb8_in (i := 96) (by decide +kernel)) rfl, w0_in (tp_in (i := 101) (by decide +kernel)) rfl⟩
def z_M_cuts : Mt := (yX12_cuts, cX12_cuts, 6, (some .int))
theorem mk_M_cuts : MkV z_M_cuts 5 := ⟨⟨⟨w0_in (tb8_in (i := 85) rfl) rfl, w0_in (tb1_in (i := 14) (by decide +kernel)) rfl⟩, ⟨by decide, by decide, by decide +kernel⟩, by decide⟩, w0_in (tb8_in (i := 83) (by decide +kernel)) rfl, w0_in (tb8_in (i := 84) (by decide +kernel)) rfl⟩
def z_K_heard : Mt := (yX11_heard, cX11_heard, 4, (some .int))
theorem mk_K_heard : MkV z_K_heard 2 := ⟨⟨⟨w0_in (tb5_in (i := 63) rfl) rfl, w0_in (tb1_in (i := 1) (by decide +kernel)) rfl⟩, ⟨by decide, by decide, by decide +kernel⟩, by decide⟩, w0_in (tb5_in (i := 61) (by decide +kernel)) rfl, w0_in (tb5_in (i := 62) (by decide +kernel)) rfl⟩
def z_M_hasHearing : Mt := (yX12_hasHearing, cX12_hasHearing, 2, (some .boolean))
theorem mk_M_hasHearing : MkV z_M_hasHearing 1 := ⟨⟨⟨w0_in (tb8_in (i := 105) rfl) rfl, w0_in (tb1_in (i := 14) (by decide +kernel)) rfl⟩, ⟨by decide, by decide, by decide +kernel⟩, by decide⟩, w0_in (tb8_in (i := 104) (by decide +kernel)) rfl, w0_in (tp_in (i := 102) (by decide +kernel)) rfl⟩
def z_M_rowsHeard : Mt := (yX12_rowsHeard, cX12_rowsHeard, 1, (some .int))
theorem mk_M_rowsHeard : MkV z_M_rowsHeard 0 := ⟨⟨⟨w0_in (tb8_in (i := 109) rfl) rfl, w0_in (tb1_in (i := 14) (by decide +kernel)) rfl⟩, ⟨by decide, by decide, by decide +kernel⟩, by decide⟩, w0_in (tb8_in (i := 108) (by decide +kernel)) rfl, w0_in (tp_in (i := 103) (by decide +kernel)) rfl⟩
def z_M_heardIn : Mt := (yX12_heardIn, cX12_heardIn, 2, (some .int))
theorem mk_M_heardIn : MkV z_M_heardIn 1 := ⟨⟨⟨w0_in (tb8_in (i := 113) rfl) rfl, w0_in (tb1_in (i := 14) (by decide +kernel)) rfl⟩, ⟨by decide, by decide, by decide +kernel⟩, by decide⟩, w0_in (tb8_in (i := 112) (by decide +kernel)) rfl, w0_in (tp_in (i := 104) (by decide +kernel)) rfl⟩
def z_M_heard : Mt := (yX12_heard, cX12_heard, 3, (some .int))
theorem mk_M_heard : MkV z_M_heard 2 := ⟨⟨⟨w0_in (tb8_in (i := 101) rfl) rfl, w0_in (tb1_in (i := 14) (by decide +kernel)) rfl⟩, ⟨by decide, by decide, by decide +kernel⟩, by decide⟩, w0_in (tb8_in (i := 99) (by decide +kernel)) rfl, w0_in (tb8_in (i := 100) (by decide +kernel)) rfl⟩
def z_N_listenTo : Mt := (yX5_listenTo, cX5_listenTo, 4, (some .boolean))
theorem mk_N_listenTo : MkV z_N_listenTo 3 := ⟨⟨⟨w0_in (tb5_in (i := 78) rfl) rfl, w0_in (tb1_in (i := 10) (by decide +kernel)) rfl⟩, ⟨by decide, by decide, by decide +kernel⟩, by decide⟩, w0_in (tb5_in (i := 77) (by decide +kernel)) rfl, w0_in (tp_in (i := 29) (by decide +kernel)) rfl⟩
def z_N_listen : Mt := (yX5_listen, cX5_listen, 5, none)
theorem mk_N_listen : MkV z_N_listen 3 := ⟨⟨⟨w0_in (tb5_in (i := 71) rfl) rfl, w0_in (tb1_in (i := 10) (by decide +kernel)) rfl⟩, ⟨by decide, by decide, by decide +kernel⟩, by decide⟩, w0_in (tb5_in (i := 69) (by decide +kernel)) rfl, w0_in (tb5_in (i := 70) (by decide +kernel)) rfl⟩
def z_N_fittingRows : Mt := (yX5_fittingRows, cX5_fittingRows, 5, (some .int))
theorem mk_N_fittingRows : MkV z_N_fittingRows 2 := ⟨⟨⟨w0_in (tb5_in (i := 84) rfl) rfl, w0_in (tb1_in (i := 10) (by decide +kernel)) rfl⟩, ⟨by decide, by decide, by decide +kernel⟩, by decide⟩, w0_in (tb5_in (i := 82) (by decide +kernel)) rfl, w0_in (tb5_in (i := 83) (by decide +kernel)) rfl⟩
def z_N_tellable : Mt := (yX5_tellable, cX5_tellable, 2, (some .int))
theorem mk_N_tellable : MkV z_N_tellable 1 := ⟨⟨⟨w0_in (tb5_in (i := 88) rfl) rfl, w0_in (tb1_in (i := 10) (by decide +kernel)) rfl⟩, ⟨by decide, by decide, by decide +kernel⟩, by decide⟩, w0_in (tb5_in (i := 86) (by decide +kernel)) rfl, w0_in (tb5_in (i := 87) (by decide +kernel)) rfl⟩
def z_N_sureOf : Mt := (yX5_sureOf, cX5_sureOf, 3, (some .int))
theorem mk_N_sureOf : MkV z_N_sureOf 2 := ⟨⟨⟨w0_in (tb5_in (i := 92) rfl) rfl, w0_in (tb1_in (i := 10) (by decide +kernel)) rfl⟩, ⟨by decide, by decide, by decide +kernel⟩, by decide⟩, w0_in (tb5_in (i := 90) (by decide +kernel)) rfl, w0_in (tb5_in (i := 91) (by decide +kernel)) rfl⟩
def z_K_fits : Mt := (yX11_fits, cX11_fits, 7, (some .int))
theorem mk_K_fits : MkV z_K_fits 4 := ⟨⟨⟨w0_in (tb5_in (i := 67) rfl) rfl, w0_in (tb1_in (i := 1) (by decide +kernel)) rfl⟩, ⟨by decide, by decide, by decide +kernel⟩, by decide⟩, w0_in (tb5_in (i := 65) (by decide +kernel)) rfl, w0_in (tb5_in (i := 66) (by decide +kernel)) rfl⟩
def z_M_listen : Mt := (yX12_listen, cX12_listen, 6, none)
theorem mk_M_listen : MkV z_M_listen 1 := ⟨⟨⟨w0_in (tb8_in (i := 121) rfl) rfl, w0_in (tb1_in (i := 14) (by decide +kernel)) rfl⟩, ⟨by decide, by decide, by decide +kernel⟩, by decide⟩, w0_in (tb8_in (i := 120) (by decide +kernel)) rfl, w0_in (tp_in (i := 105) (by decide +kernel)) rfl⟩
def z_M_fits : Mt := (yX12_fits, cX12_fits, 7, (some .int))
theorem mk_M_fits : MkV z_M_fits 4 := ⟨⟨⟨w0_in (tb8_in (i := 117) rfl) rfl, w0_in (tb1_in (i := 14) (by decide +kernel)) rfl⟩, ⟨by decide, by decide, by decide +kernel⟩, by decide⟩, w0_in (tb8_in (i := 115) (by decide +kernel)) rfl, w0_in (tb8_in (i := 116) (by decide +kernel)) rfl⟩
def z_H_hasCouple : Mt := (yX1_hasCouple, cX1_hasCouple, 3, (some .boolean))
theorem mk_H_hasCouple : MkV z_H_hasCouple 2 := ⟨⟨⟨w0_in (tb5_in (i := 100) rfl) rfl, w0_in (tb1_in (i := 4) (by decide +kernel)) rfl⟩, ⟨by decide, by decide, by decide +kernel⟩, by decide⟩, w0_in (tb5_in (i := 98) (by decide +kernel)) rfl, w0_in (tb5_in (i := 99) (by decide +kernel)) rfl⟩
def z_S_gainOf : Mt := (yX7_gainOf, cX7_gainOf, 10, (some .int))
theorem mk_S_gainOf : MkV z_S_gainOf 4 := ⟨⟨⟨w0_in (tb5_in (i := 104) rfl) rfl, w0_in (tb1_in (i := 8) (by decide +kernel)) rfl⟩, ⟨by decide, by decide, by decide +kernel⟩, by decide⟩, w0_in (tb5_in (i := 102) (by decide +kernel)) rfl, w0_in (tb5_in (i := 103) (by decide +kernel)) rfl⟩
def z_K_gain : Mt := (yX11_gain, cX11_gain, 9, (some .int))
theorem mk_K_gain : MkV z_K_gain 7 := ⟨⟨⟨w0_in (tb5_in (i := 96) rfl) rfl, w0_in (tb1_in (i := 1) (by decide +kernel)) rfl⟩, ⟨by decide, by decide, by decide +kernel⟩, by decide⟩, w0_in (tb5_in (i := 94) (by decide +kernel)) rfl, w0_in (tb5_in (i := 95) (by decide +kernel)) rfl⟩
def z_M_loves : Mt := (yX12_loves, cX12_loves, 3, (some .boolean))
theorem mk_M_loves : MkV z_M_loves 2 := ⟨⟨⟨w0_in (tb8_in (i := 133) rfl) rfl, w0_in (tb1_in (i := 14) (by decide +kernel)) rfl⟩, ⟨by decide, by decide, by decide +kernel⟩, by decide⟩, w0_in (tb8_in (i := 132) (by decide +kernel)) rfl, w0_in (tp_in (i := 107) (by decide +kernel)) rfl⟩
def z_M_quarrels : Mt := (yX12_quarrels, cX12_quarrels, 3, (some .boolean))
theorem mk_M_quarrels : MkV z_M_quarrels 2 := ⟨⟨⟨w0_in (tb8_in (i := 137) rfl) rfl, w0_in (tb1_in (i := 14) (by decide +kernel)) rfl⟩, ⟨by decide, by decide, by decide +kernel⟩, by decide⟩, w0_in (tb8_in (i := 136) (by decide +kernel)) rfl, w0_in (tp_in (i := 108) (by decide +kernel)) rfl⟩
def z_M_liking : Mt := (yX12_liking, cX12_liking, 6, (some .int))
theorem mk_M_liking : MkV z_M_liking 2 := ⟨⟨⟨w0_in (tb8_in (i := 141) rfl) rfl, w0_in (tb1_in (i := 14) (by decide +kernel)) rfl⟩, ⟨by decide, by decide, by decide +kernel⟩, by decide⟩, w0_in (tb8_in (i := 140) (by decide +kernel)) rfl, w0_in (tp_in (i := 109) (by decide +kernel)) rfl⟩
def z_M_gainOf : Mt := (yX12_gainOf, cX12_gainOf, 6, (some .int))
theorem mk_M_gainOf : MkV z_M_gainOf 4 := ⟨⟨⟨w0_in (tb8_in (i := 129) rfl) rfl, w0_in (tb1_in (i := 14) (by decide +kernel)) rfl⟩, ⟨by decide, by decide, by decide +kernel⟩, by decide⟩, w0_in (tb8_in (i := 128) (by decide +kernel)) rfl, w0_in (tp_in (i := 106) (by decide +kernel)) rfl⟩
def z_M_gain : Mt := (yX12_gain, cX12_gain, 8, (some .int))
theorem mk_M_gain : MkV z_M_gain 7 := ⟨⟨⟨w0_in (tb8_in (i := 125) rfl) rfl, w0_in (tb1_in (i := 14) (by decide +kernel)) rfl⟩, ⟨by decide, by decide, by decide +kernel⟩, by decide⟩, w0_in (tb8_in (i := 123) (by decide +kernel)) rfl, w0_in (tb8_in (i := 124) (by decide +kernel)) rfl⟩
def z_S_isRest : Mt := (yX7_isRest, cX7_isRest, 6, (some .boolean))
theorem mk_S_isRest : MkV z_S_isRest 4 := ⟨⟨⟨w0_in (tb5_in (i := 114) rfl) rfl, w0_in (tb1_in (i := 8) (by decide +kernel)) rfl⟩, ⟨by decide, by decide, by decide +kernel⟩, by decide⟩, w0_in (tb5_in (i := 112) (by decide +kernel)) rfl, w0_in (tb5_in (i := 113) (by decide +kernel)) rfl⟩
def z_K_rest : Mt := (yX11_rest, cX11_rest, 12, (some .int))
theorem mk_K_rest : MkV z_K_rest 6 := ⟨⟨⟨w0_in (tb5_in (i := 110) rfl) rfl, w0_in (tb1_in (i := 1) (by decide +kernel)) rfl⟩, ⟨by decide, by decide, by decide +kernel⟩, by decide⟩, w0_in (tb5_in (i := 108) (by decide +kernel)) rfl, w0_in (tb5_in (i := 109) (by decide +kernel)) rfl⟩
def z_M_isRest : Mt := (yX12_isRest, cX12_isRest, 6, (some .boolean))
theorem mk_M_isRest : MkV z_M_isRest 4 := ⟨⟨⟨w0_in (tb8_in (i := 149) rfl) rfl, w0_in (tb1_in (i := 14) (by decide +kernel)) rfl⟩, ⟨by decide, by decide, by decide +kernel⟩, by decide⟩, w0_in (tb8_in (i := 148) (by decide +kernel)) rfl, w0_in (tp_in (i := 110) (by decide +kernel)) rfl⟩
def z_M_rest : Mt := (yX12_rest, cX12_rest, 9, (some .int))
theorem mk_M_rest : MkV z_M_rest 6 := ⟨⟨⟨w0_in (tb8_in (i := 145) rfl) rfl, w0_in (tb1_in (i := 14) (by decide +kernel)) rfl⟩, ⟨by decide, by decide, by decide +kernel⟩, by decide⟩, w0_in (tb8_in (i := 143) (by decide +kernel)) rfl, w0_in (tb8_in (i := 144) (by decide +kernel)) rfl⟩
def z_K_whisper : Mt := (yX11_whisper, cX11_whisper, 10, (some .int))
theorem mk_K_whisper : MkV z_K_whisper 5 := ⟨⟨⟨w0_in (tb5_in (i := 119) rfl) rfl, w0_in (tb1_in (i := 1) (by decide +kernel)) rfl⟩, ⟨by decide, by decide, by decide +kernel⟩, by decide⟩, w0_in (tb5_in (i := 117) (by decide +kernel)) rfl, w0_in (tb5_in (i := 118) (by decide +kernel)) rfl⟩
def z_M_whisper : Mt := (yX12_whisper, cX12_whisper, 10, (some .int))
theorem mk_M_whisper : MkV z_M_whisper 5 := ⟨⟨⟨w0_in (tb8_in (i := 153) rfl) rfl, w0_in (tb1_in (i := 14) (by decide +kernel)) rfl⟩, ⟨by decide, by decide, by decide +kernel⟩, by decide⟩, w0_in (tb8_in (i := 151) (by decide +kernel)) rfl, w0_in (tb8_in (i := 152) (by decide +kernel)) rfl⟩
def z_P_fewestTables : Mt := (yX3_fewestTables, cX3_fewestTables, 5, (some .int))
theorem mk_P_fewestTables : MkV z_P_fewestTables 1 := ⟨⟨⟨w0_in (tb5_in (i := 127) rfl) rfl, w0_in (tb1_in (i := 13) (by decide +kernel)) rfl⟩, ⟨by decide, by decide, by decide +kernel⟩, by decide⟩, w0_in (tb5_in (i := 125) (by decide +kernel)) rfl, w0_in (tb5_in (i := 126) (by decide +kernel)) rfl⟩
def z_P_greatestPeace : Mt := (yX3_greatestPeace, cX3_greatestPeace, 4, (some .int))
theorem mk_P_greatestPeace : MkV z_P_greatestPeace 1 := ⟨⟨⟨w0_in (tb5_in (i := 131) rfl) rfl, w0_in (tb1_in (i := 13) (by decide +kernel)) rfl⟩, ⟨by decide, by decide, by decide +kernel⟩, by decide⟩, w0_in (tb5_in (i := 129) (by decide +kernel)) rfl, w0_in (tb5_in (i := 130) (by decide +kernel)) rfl⟩
def z_K_council : Mt := (yX11_council, cX11_council, 4, (some .int))
theorem mk_K_council : MkV z_K_council 2 := ⟨⟨⟨w0_in (tb5_in (i := 123) rfl) rfl, w0_in (tb1_in (i := 1) (by decide +kernel)) rfl⟩, ⟨by decide, by decide, by decide +kernel⟩, by decide⟩, w0_in (tb5_in (i := 121) (by decide +kernel)) rfl, w0_in (tb5_in (i := 122) (by decide +kernel)) rfl⟩
def z_M_fewestTables : Mt := (yX12_fewestTables, cX12_fewestTables, 4, (some .int))
theorem mk_M_fewestTables : MkV z_M_fewestTables 0 := ⟨⟨⟨w0_in (tb8_in (i := 161) rfl) rfl, w0_in (tb1_in (i := 14) (by decide +kernel)) rfl⟩, ⟨by decide, by decide, by decide +kernel⟩, by decide⟩, w0_in (tb8_in (i := 160) (by decide +kernel)) rfl, w0_in (tp_in (i := 111) (by decide +kernel)) rfl⟩
def z_M_council : Mt := (yX12_council, cX12_council, 5, (some .int))
theorem mk_M_council : MkV z_M_council 2 := ⟨⟨⟨w0_in (tb8_in (i := 157) rfl) rfl, w0_in (tb1_in (i := 14) (by decide +kernel)) rfl⟩, ⟨by decide, by decide, by decide +kernel⟩, by decide⟩, w0_in (tb8_in (i := 155) (by decide +kernel)) rfl, w0_in (tb8_in (i := 156) (by decide +kernel)) rfl⟩
def z_S_seatDrawn : Mt := (yX7_seatDrawn, cX7_seatDrawn, 5, (some .int))
theorem mk_S_seatDrawn : MkV z_S_seatDrawn 2 := ⟨⟨⟨w0_in (tb5_in (i := 145) rfl) rfl, w0_in (tb1_in (i := 8) (by decide +kernel)) rfl⟩, ⟨by decide, by decide, by decide +kernel⟩, by decide⟩, w0_in (tb5_in (i := 144) (by decide +kernel)) rfl, w0_in (tp_in (i := 30) (by decide +kernel)) rfl⟩
def z_S_draw : Mt := (yX7_draw, cX7_draw, 9, (some .int))
theorem mk_S_draw : MkV z_S_draw 3 := ⟨⟨⟨w0_in (tb5_in (i := 139) rfl) rfl, w0_in (tb1_in (i := 8) (by decide +kernel)) rfl⟩, ⟨by decide, by decide, by decide +kernel⟩, by decide⟩, w0_in (tb5_in (i := 137) (by decide +kernel)) rfl, w0_in (tb5_in (i := 138) (by decide +kernel)) rfl⟩
def z_K_drawnFact : Mt := (yX11_drawnFact, cX11_drawnFact, 3, (some .int))
theorem mk_K_drawnFact : MkS z_K_drawnFact 2 := ⟨⟨⟨w0_in (tb5_in (i := 148) rfl) rfl, w0_in (tb1_in (i := 1) (by decide +kernel)) rfl⟩, ⟨by decide, by decide, by decide +kernel⟩, by decide⟩, w0_in (tb5_in (i := 147) (by decide +kernel)) rfl⟩
def z_K_drawn : Mt := (yX11_drawn, cX11_drawn, 7, (some .int))
theorem mk_K_drawn : MkV z_K_drawn 4 := ⟨⟨⟨w0_in (tb5_in (i := 135) rfl) rfl, w0_in (tb1_in (i := 1) (by decide +kernel)) rfl⟩, ⟨by decide, by decide, by decide +kernel⟩, by decide⟩, w0_in (tb5_in (i := 133) (by decide +kernel)) rfl, w0_in (tb5_in (i := 134) (by decide +kernel)) rfl⟩
def z_M_draw : Mt := (yX12_draw, cX12_draw, 2, (some .int))
theorem mk_M_draw : MkV z_M_draw 1 := ⟨⟨⟨w0_in (tb8_in (i := 173) rfl) rfl, w0_in (tb1_in (i := 14) (by decide +kernel)) rfl⟩, ⟨by decide, by decide, by decide +kernel⟩, by decide⟩, w0_in (tb8_in (i := 172) (by decide +kernel)) rfl, w0_in (tp_in (i := 113) (by decide +kernel)) rfl⟩
def z_M_drawNight : Mt := (yX12_drawNight, cX12_drawNight, 6, none)
theorem mk_M_drawNight : MkV z_M_drawNight 0 := ⟨⟨⟨w0_in (tb8_in (i := 169) rfl) rfl, w0_in (tb1_in (i := 14) (by decide +kernel)) rfl⟩, ⟨by decide, by decide, by decide +kernel⟩, by decide⟩, w0_in (tb8_in (i := 168) (by decide +kernel)) rfl, w0_in (tp_in (i := 112) (by decide +kernel)) rfl⟩
def z_M_drawn : Mt := (yX12_drawn, cX12_drawn, 6, (some .int))
theorem mk_M_drawn : MkV z_M_drawn 4 := ⟨⟨⟨w0_in (tb8_in (i := 165) rfl) rfl, w0_in (tb1_in (i := 14) (by decide +kernel)) rfl⟩, ⟨by decide, by decide, by decide +kernel⟩, by decide⟩, w0_in (tb8_in (i := 163) (by decide +kernel)) rfl, w0_in (tb8_in (i := 164) (by decide +kernel)) rfl⟩
def z_S_metBy : Mt := (yX7_metBy, cX7_metBy, 2, (some .int))
theorem mk_S_metBy : MkV z_S_metBy 1 := ⟨⟨⟨w0_in (tb5_in (i := 156) rfl) rfl, w0_in (tb1_in (i := 8) (by decide +kernel)) rfl⟩, ⟨by decide, by decide, by decide +kernel⟩, by decide⟩, w0_in (tb5_in (i := 154) (by decide +kernel)) rfl, w0_in (tb5_in (i := 155) (by decide +kernel)) rfl⟩
def z_S_gossip : Mt := (yX7_gossip, cX7_gossip, 7, (some .int))
theorem mk_S_gossip : MkV z_S_gossip 2 := ⟨⟨⟨w0_in (tb5_in (i := 160) rfl) rfl, w0_in (tb1_in (i := 8) (by decide +kernel)) rfl⟩, ⟨by decide, by decide, by decide +kernel⟩, by decide⟩, w0_in (tb5_in (i := 158) (by decide +kernel)) rfl, w0_in (tb5_in (i := 159) (by decide +kernel)) rfl⟩
def z_K_met : Mt := (yX11_met, cX11_met, 7, (some .int))
theorem mk_K_met : MkV z_K_met 5 := ⟨⟨⟨w0_in (tb5_in (i := 152) rfl) rfl, w0_in (tb1_in (i := 1) (by decide +kernel)) rfl⟩, ⟨by decide, by decide, by decide +kernel⟩, by decide⟩, w0_in (tb5_in (i := 150) (by decide +kernel)) rfl, w0_in (tb5_in (i := 151) (by decide +kernel)) rfl⟩
def z_M_gossip : Mt := (yX12_gossip, cX12_gossip, 7, (some .int))
theorem mk_M_gossip : MkV z_M_gossip 2 := ⟨⟨⟨w0_in (tb8_in (i := 182) rfl) rfl, w0_in (tb1_in (i := 14) (by decide +kernel)) rfl⟩, ⟨by decide, by decide, by decide +kernel⟩, by decide⟩, w0_in (tb8_in (i := 181) (by decide +kernel)) rfl, w0_in (tp_in (i := 114) (by decide +kernel)) rfl⟩
def z_M_met : Mt := (yX12_met, cX12_met, 6, (some .int))
theorem mk_M_met : MkV z_M_met 5 := ⟨⟨⟨w0_in (tb8_in (i := 178) rfl) rfl, w0_in (tb1_in (i := 14) (by decide +kernel)) rfl⟩, ⟨by decide, by decide, by decide +kernel⟩, by decide⟩, w0_in (tb8_in (i := 176) (by decide +kernel)) rfl, w0_in (tb8_in (i := 177) (by decide +kernel)) rfl⟩
def z_S_pastsOf : Mt := (yX7_pastsOf, cX7_pastsOf, 5, (some .int))
theorem mk_S_pastsOf : MkV z_S_pastsOf 1 := ⟨⟨⟨w0_in (tb5_in (i := 173) rfl) rfl, w0_in (tb1_in (i := 8) (by decide +kernel)) rfl⟩, ⟨by decide, by decide, by decide +kernel⟩, by decide⟩, w0_in (tb5_in (i := 171) (by decide +kernel)) rfl, w0_in (tb5_in (i := 172) (by decide +kernel)) rfl⟩
def z_S_mostSeen : Mt := (yX7_mostSeen, cX7_mostSeen, 5, (some .int))
theorem mk_S_mostSeen : MkV z_S_mostSeen 0 := ⟨⟨⟨w0_in (tb5_in (i := 169) rfl) rfl, w0_in (tb1_in (i := 8) (by decide +kernel)) rfl⟩, ⟨by decide, by decide, by decide +kernel⟩, by decide⟩, w0_in (tb5_in (i := 167) (by decide +kernel)) rfl, w0_in (tb5_in (i := 168) (by decide +kernel)) rfl⟩
def z_B_allGuests : Mt := (yX0_allGuests, cX0_allGuests, 3, (some .int))
theorem mk_B_allGuests : MkV z_B_allGuests 0 := ⟨⟨⟨w0_in (tb5_in (i := 185) rfl) rfl, w0_in (tb1_in (i := 9) (by decide +kernel)) rfl⟩, ⟨by decide, by decide, by decide +kernel⟩, by decide⟩, w0_in (tb5_in (i := 183) (by decide +kernel)) rfl, w0_in (tb5_in (i := 184) (by decide +kernel)) rfl⟩
def z_S_crowdAt : Mt := (yX7_crowdAt, cX7_crowdAt, 3, (some .int))
theorem mk_S_crowdAt : MkV z_S_crowdAt 1 := ⟨⟨⟨w0_in (tb5_in (i := 181) rfl) rfl, w0_in (tb1_in (i := 8) (by decide +kernel)) rfl⟩, ⟨by decide, by decide, by decide +kernel⟩, by decide⟩, w0_in (tb5_in (i := 179) (by decide +kernel)) rfl, w0_in (tb5_in (i := 180) (by decide +kernel)) rfl⟩
def z_S_mostCrowded : Mt := (yX7_mostCrowded, cX7_mostCrowded, 3, (some .int))
theorem mk_S_mostCrowded : MkV z_S_mostCrowded 0 := ⟨⟨⟨w0_in (tb5_in (i := 177) rfl) rfl, w0_in (tb1_in (i := 8) (by decide +kernel)) rfl⟩, ⟨by decide, by decide, by decide +kernel⟩, by decide⟩, w0_in (tb5_in (i := 175) (by decide +kernel)) rfl, w0_in (tb5_in (i := 176) (by decide +kernel)) rfl⟩
def z_K_ghosts : Mt := (yX11_ghosts, cX11_ghosts, 8, (some .int))
theorem mk_K_ghosts : MkV z_K_ghosts 4 := ⟨⟨⟨w0_in (tb5_in (i := 165) rfl) rfl, w0_in (tb1_in (i := 1) (by decide +kernel)) rfl⟩, ⟨by decide, by decide, by decide +kernel⟩, by decide⟩, w0_in (tb5_in (i := 163) (by decide +kernel)) rfl, w0_in (tb5_in (i := 164) (by decide +kernel)) rfl⟩
def z_M_pastsOf : Mt := (yX12_pastsOf, cX12_pastsOf, 5, (some .int))
theorem mk_M_pastsOf : MkV z_M_pastsOf 1 := ⟨⟨⟨w0_in (tb8_in (i := 190) rfl) rfl, w0_in (tb1_in (i := 14) (by decide +kernel)) rfl⟩, ⟨by decide, by decide, by decide +kernel⟩, by decide⟩, w0_in (tb8_in (i := 189) (by decide +kernel)) rfl, w0_in (tp_in (i := 115) (by decide +kernel)) rfl⟩
def z_M_crowdOf : Mt := (yX12_crowdOf, cX12_crowdOf, 4, (some .int))
theorem mk_M_crowdOf : MkV z_M_crowdOf 1 := ⟨⟨⟨w0_in (tb8_in (i := 194) rfl) rfl, w0_in (tb1_in (i := 14) (by decide +kernel)) rfl⟩, ⟨by decide, by decide, by decide +kernel⟩, by decide⟩, w0_in (tb8_in (i := 193) (by decide +kernel)) rfl, w0_in (tp_in (i := 116) (by decide +kernel)) rfl⟩
def z_M_allPasts : Mt := (yX12_allPasts, cX12_allPasts, 3, (some .int))
theorem mk_M_allPasts : MkV z_M_allPasts 0 := ⟨⟨⟨w0_in (tb8_in (i := 198) rfl) rfl, w0_in (tb1_in (i := 14) (by decide +kernel)) rfl⟩, ⟨by decide, by decide, by decide +kernel⟩, by decide⟩, w0_in (tb8_in (i := 197) (by decide +kernel)) rfl, w0_in (tp_in (i := 117) (by decide +kernel)) rfl⟩
def z_M_ghosts : Mt := (yX12_ghosts, cX12_ghosts, 8, (some .int))
theorem mk_M_ghosts : MkV z_M_ghosts 4 := ⟨⟨⟨w0_in (tb8_in (i := 186) rfl) rfl, w0_in (tb1_in (i := 14) (by decide +kernel)) rfl⟩, ⟨by decide, by decide, by decide +kernel⟩, by decide⟩, w0_in (tb8_in (i := 184) (by decide +kernel)) rfl, w0_in (tb8_in (i := 185) (by decide +kernel)) rfl⟩
def z_N_untilForgotten : Mt := (yX5_untilForgotten, cX5_untilForgotten, 5, (some .int))
theorem mk_N_untilForgotten : MkV z_N_untilForgotten 3 := ⟨⟨⟨w0_in (tb5_in (i := 195) rfl) rfl, w0_in (tb1_in (i := 10) (by decide +kernel)) rfl⟩, ⟨by decide, by decide, by decide +kernel⟩, by decide⟩, w0_in (tb5_in (i := 193) (by decide +kernel)) rfl, w0_in (tb5_in (i := 194) (by decide +kernel)) rfl⟩
def z_K_forgets : Mt := (yX11_forgets, cX11_forgets, 7, (some .int))
theorem mk_K_forgets : MkV z_K_forgets 5 := ⟨⟨⟨w0_in (tb5_in (i := 191) rfl) rfl, w0_in (tb1_in (i := 1) (by decide +kernel)) rfl⟩, ⟨by decide, by decide, by decide +kernel⟩, by decide⟩, w0_in (tb5_in (i := 189) (by decide +kernel)) rfl, w0_in (tb5_in (i := 190) (by decide +kernel)) rfl⟩
def z_M_forgets : Mt := (yX12_forgets, cX12_forgets, 7, (some .int))
theorem mk_M_forgets : MkV z_M_forgets 5 := ⟨⟨⟨w0_in (tb8_in (i := 202) rfl) rfl, w0_in (tb1_in (i := 14) (by decide +kernel)) rfl⟩, ⟨by decide, by decide, by decide +kernel⟩, by decide⟩, w0_in (tb8_in (i := 200) (by decide +kernel)) rfl, w0_in (tb8_in (i := 201) (by decide +kernel)) rfl⟩
def z_N_wordsOn : Mt := (yX5_wordsOn, cX5_wordsOn, 8, (some .int))
theorem mk_N_wordsOn : MkV z_N_wordsOn 3 := ⟨⟨⟨w0_in (tb5_in (i := 208) rfl) rfl, w0_in (tb1_in (i := 10) (by decide +kernel)) rfl⟩, ⟨by decide, by decide, by decide +kernel⟩, by decide⟩, w0_in (tb5_in (i := 207) (by decide +kernel)) rfl, w0_in (tp_in (i := 31) (by decide +kernel)) rfl⟩
def z_N_spyOut : Mt := (yX5_spyOut, cX5_spyOut, 7, (some .int))
theorem mk_N_spyOut : MkV z_N_spyOut 2 := ⟨⟨⟨w0_in (tb5_in (i := 204) rfl) rfl, w0_in (tb1_in (i := 10) (by decide +kernel)) rfl⟩, ⟨by decide, by decide, by decide +kernel⟩, by decide⟩, w0_in (tb5_in (i := 202) (by decide +kernel)) rfl, w0_in (tb5_in (i := 203) (by decide +kernel)) rfl⟩
def z_N_spiedTable : Mt := (yX5_spiedTable, cX5_spiedTable, 2, (some .int))
theorem mk_N_spiedTable : MkV z_N_spiedTable 1 := ⟨⟨⟨w0_in (tb5_in (i := 213) rfl) rfl, w0_in (tb1_in (i := 10) (by decide +kernel)) rfl⟩, ⟨by decide, by decide, by decide +kernel⟩, by decide⟩, w0_in (tb5_in (i := 211) (by decide +kernel)) rfl, w0_in (tb5_in (i := 212) (by decide +kernel)) rfl⟩
def z_K_spy : Mt := (yX11_spy, cX11_spy, 8, (some .int))
theorem mk_K_spy : MkV z_K_spy 5 := ⟨⟨⟨w0_in (tb5_in (i := 200) rfl) rfl, w0_in (tb1_in (i := 1) (by decide +kernel)) rfl⟩, ⟨by decide, by decide, by decide +kernel⟩, by decide⟩, w0_in (tb5_in (i := 198) (by decide +kernel)) rfl, w0_in (tb5_in (i := 199) (by decide +kernel)) rfl⟩
def z_M_spied : Mt := (yX12_spied, cX12_spied, 8, (some .int))
theorem mk_M_spied : MkV z_M_spied 3 := ⟨⟨⟨w0_in (tb8_in (i := 214) rfl) rfl, w0_in (tb1_in (i := 14) (by decide +kernel)) rfl⟩, ⟨by decide, by decide, by decide +kernel⟩, by decide⟩, w0_in (tb8_in (i := 213) (by decide +kernel)) rfl, w0_in (tp_in (i := 119) (by decide +kernel)) rfl⟩
def z_M_findSpy : Mt := (yX12_findSpy, cX12_findSpy, 6, none)
theorem mk_M_findSpy : MkV z_M_findSpy 2 := ⟨⟨⟨w0_in (tb8_in (i := 210) rfl) rfl, w0_in (tb1_in (i := 14) (by decide +kernel)) rfl⟩, ⟨by decide, by decide, by decide +kernel⟩, by decide⟩, w0_in (tb8_in (i := 209) (by decide +kernel)) rfl, w0_in (tp_in (i := 118) (by decide +kernel)) rfl⟩
def z_M_spy : Mt := (yX12_spy, cX12_spy, 8, (some .int))
theorem mk_M_spy : MkV z_M_spy 5 := ⟨⟨⟨w0_in (tb8_in (i := 206) rfl) rfl, w0_in (tb1_in (i := 14) (by decide +kernel)) rfl⟩, ⟨by decide, by decide, by decide +kernel⟩, by decide⟩, w0_in (tb8_in (i := 204) (by decide +kernel)) rfl, w0_in (tb8_in (i := 205) (by decide +kernel)) rfl⟩
def z_V_marryFrom : Mt := (yX10_marryFrom, cX10_marryFrom, 8, none)
theorem mk_V_marryFrom : MkV z_V_marryFrom 3 := ⟨⟨⟨w0_in (tb5_in (i := 229) rfl) rfl, w0_in (tb1_in (i := 12) (by decide +kernel)) rfl⟩, ⟨by decide, by decide, by decide +kernel⟩, by decide⟩, w0_in (tb5_in (i := 228) (by decide +kernel)) rfl, w0_in (tp_in (i := 32) (by decide +kernel)) rfl⟩
def z_V_search : Mt := (yX10_search, cX10_search, 5, none)
theorem mk_V_search : MkV z_V_search 1 := ⟨⟨⟨w0_in (tb5_in (i := 221) rfl) rfl, w0_in (tb1_in (i := 12) (by decide +kernel)) rfl⟩, ⟨by decide, by decide, by decide +kernel⟩, by decide⟩, w0_in (tb5_in (i := 219) (by decide +kernel)) rfl, w0_in (tb5_in (i := 220) (by decide +kernel)) rfl⟩
def z_V_coupleAt : Mt := (yX10_coupleAt, cX10_coupleAt, 2, (some .int))
theorem mk_V_coupleAt : MkV z_V_coupleAt 1 := ⟨⟨⟨w0_in (tb5_in (i := 239) rfl) rfl, w0_in (tb1_in (i := 12) (by decide +kernel)) rfl⟩, ⟨by decide, by decide, by decide +kernel⟩, by decide⟩, w0_in (tb5_in (i := 237) (by decide +kernel)) rfl, w0_in (tb5_in (i := 238) (by decide +kernel)) rfl⟩
def z_K_weddings : Mt := (yX11_weddings, cX11_weddings, 6, (some .int))
theorem mk_K_weddings : MkV z_K_weddings 4 := ⟨⟨⟨w0_in (tb5_in (i := 217) rfl) rfl, w0_in (tb1_in (i := 1) (by decide +kernel)) rfl⟩, ⟨by decide, by decide, by decide +kernel⟩, by decide⟩, w0_in (tb5_in (i := 215) (by decide +kernel)) rfl, w0_in (tb5_in (i := 216) (by decide +kernel)) rfl⟩
def z_M_canWed : Mt := (yX12_canWed, cX12_canWed, 7, (some .boolean))
theorem mk_M_canWed : MkV z_M_canWed 3 := ⟨⟨⟨w0_in (tb8_in (i := 226) rfl) rfl, w0_in (tb1_in (i := 14) (by decide +kernel)) rfl⟩, ⟨by decide, by decide, by decide +kernel⟩, by decide⟩, w0_in (tb8_in (i := 225) (by decide +kernel)) rfl, w0_in (tp_in (i := 121) (by decide +kernel)) rfl⟩
def z_M_taking : Mt := (yX12_taking, cX12_taking, 2, (some .int))
theorem mk_M_taking : MkV z_M_taking 1 := ⟨⟨⟨w0_in (tb8_in (i := 230) rfl) rfl, w0_in (tb1_in (i := 14) (by decide +kernel)) rfl⟩, ⟨by decide, by decide, by decide +kernel⟩, by decide⟩, w0_in (tb8_in (i := 229) (by decide +kernel)) rfl, w0_in (tp_in (i := 122) (by decide +kernel)) rfl⟩
def z_M_findWeds : Mt := (yX12_findWeds, cX12_findWeds, 5, none)
theorem mk_M_findWeds : MkV z_M_findWeds 0 := ⟨⟨⟨w0_in (tb8_in (i := 222) rfl) rfl, w0_in (tb1_in (i := 14) (by decide +kernel)) rfl⟩, ⟨by decide, by decide, by decide +kernel⟩, by decide⟩, w0_in (tb8_in (i := 221) (by decide +kernel)) rfl, w0_in (tp_in (i := 120) (by decide +kernel)) rfl⟩
def z_M_coupleAt : Mt := (yX12_coupleAt, cX12_coupleAt, 6, (some .int))
theorem mk_M_coupleAt : MkV z_M_coupleAt 1 := ⟨⟨⟨w0_in (tb8_in (i := 234) rfl) rfl, w0_in (tb1_in (i := 14) (by decide +kernel)) rfl⟩, ⟨by decide, by decide, by decide +kernel⟩, by decide⟩, w0_in (tb8_in (i := 233) (by decide +kernel)) rfl, w0_in (tp_in (i := 123) (by decide +kernel)) rfl⟩
def z_M_weddings : Mt := (yX12_weddings, cX12_weddings, 5, (some .int))
theorem mk_M_weddings : MkV z_M_weddings 4 := ⟨⟨⟨w0_in (tb8_in (i := 218) rfl) rfl, w0_in (tb1_in (i := 14) (by decide +kernel)) rfl⟩, ⟨by decide, by decide, by decide +kernel⟩, by decide⟩, w0_in (tb8_in (i := 216) (by decide +kernel)) rfl, w0_in (tb8_in (i := 217) (by decide +kernel)) rfl⟩
def z_K_count : Mt := (yX11_count, cX11_count, 2, (some .int))
theorem mk_K_count : MkV z_K_count 1 := ⟨⟨⟨w0_in (tb6_in (i := 3) rfl) rfl, w0_in (tb1_in (i := 1) (by decide +kernel)) rfl⟩, ⟨by decide, by decide, by decide +kernel⟩, by decide⟩, w0_in (tb6_in (i := 1) (by decide +kernel)) rfl, w0_in (tb6_in (i := 2) (by decide +kernel)) rfl⟩
def z_M_count : Mt := (yX12_count, cX12_count, 2, (some .int))
theorem mk_M_count : MkV z_M_count 1 := ⟨⟨⟨w0_in (tb8_in (i := 238) rfl) rfl, w0_in (tb1_in (i := 14) (by decide +kernel)) rfl⟩, ⟨by decide, by decide, by decide +kernel⟩, by decide⟩, w0_in (tb8_in (i := 236) (by decide +kernel)) rfl, w0_in (tb8_in (i := 237) (by decide +kernel)) rfl⟩
def z_T_copyFrom : Mt := (yX8_copyFrom, cX8_copyFrom, 2, none)
theorem mk_T_copyFrom : MkV z_T_copyFrom 1 := ⟨⟨⟨w0_in (tb6_in (i := 16) rfl) rfl, w0_in (tb1_in (i := 3) (by decide +kernel)) rfl⟩, ⟨by decide, by decide, by decide +kernel⟩, by decide⟩, w0_in (tb6_in (i := 14) (by decide +kernel)) rfl, w0_in (tb6_in (i := 15) (by decide +kernel)) rfl⟩
def z_D_copyFrom : Mt := (yX9_copyFrom, cX9_copyFrom, 3, none)
theorem mk_D_copyFrom : MkV z_D_copyFrom 1 := ⟨⟨⟨w0_in (tb6_in (i := 12) rfl) rfl, w0_in (tb1_in (i := 2) (by decide +kernel)) rfl⟩, ⟨by decide, by decide, by decide +kernel⟩, by decide⟩, w0_in (tb6_in (i := 10) (by decide +kernel)) rfl, w0_in (tb6_in (i := 11) (by decide +kernel)) rfl⟩
def z_K_image : Mt := (yX11_image, cX11_image, 2, (some .boolean))
theorem mk_K_image : MkV z_K_image 1 := ⟨⟨⟨w0_in (tb6_in (i := 8) rfl) rfl, w0_in (tb1_in (i := 1) (by decide +kernel)) rfl⟩, ⟨by decide, by decide, by decide +kernel⟩, by decide⟩, w0_in (tb6_in (i := 6) (by decide +kernel)) rfl, w0_in (tb6_in (i := 7) (by decide +kernel)) rfl⟩
def z_M_copyRow : Mt := (yX12_copyRow, cX12_copyRow, 5, none)
theorem mk_M_copyRow : MkS z_M_copyRow 4 := ⟨⟨⟨w0_in (tb9_in (i := 9) rfl) rfl, w0_in (tb1_in (i := 14) (by decide +kernel)) rfl⟩, ⟨by decide, by decide, by decide +kernel⟩, by decide⟩, w0_in (tb9_in (i := 8) (by decide +kernel)) rfl⟩
def z_M_copyAll : Mt := (yX12_copyAll, cX12_copyAll, 4, none)
theorem mk_M_copyAll : MkV z_M_copyAll 2 := ⟨⟨⟨w0_in (tb9_in (i := 6) rfl) rfl, w0_in (tb1_in (i := 14) (by decide +kernel)) rfl⟩, ⟨by decide, by decide, by decide +kernel⟩, by decide⟩, w0_in (tb9_in (i := 5) (by decide +kernel)) rfl, w0_in (tp_in (i := 124) (by decide +kernel)) rfl⟩
def z_M_image : Mt := (yX12_image, cX12_image, 2, (some .boolean))
theorem mk_M_image : MkV z_M_image 1 := ⟨⟨⟨w0_in (tb9_in (i := 2) rfl) rfl, w0_in (tb1_in (i := 14) (by decide +kernel)) rfl⟩, ⟨by decide, by decide, by decide +kernel⟩, by decide⟩, w0_in (tb9_in (i := 0) (by decide +kernel)) rfl, w0_in (tb9_in (i := 1) (by decide +kernel)) rfl⟩
def z_K_again : Mt := (yX11_again, cX11_again, 2, (some .boolean))
theorem mk_K_again : MkV z_K_again 1 := ⟨⟨⟨w0_in (tb6_in (i := 22) rfl) rfl, w0_in (tb1_in (i := 1) (by decide +kernel)) rfl⟩, ⟨by decide, by decide, by decide +kernel⟩, by decide⟩, w0_in (tb6_in (i := 20) (by decide +kernel)) rfl, w0_in (tb6_in (i := 21) (by decide +kernel)) rfl⟩
def z_M_again : Mt := (yX12_again, cX12_again, 2, (some .boolean))
theorem mk_M_again : MkV z_M_again 1 := ⟨⟨⟨w0_in (tb9_in (i := 13) rfl) rfl, w0_in (tb1_in (i := 14) (by decide +kernel)) rfl⟩, ⟨by decide, by decide, by decide +kernel⟩, by decide⟩, w0_in (tb9_in (i := 11) (by decide +kernel)) rfl, w0_in (tb9_in (i := 12) (by decide +kernel)) rfl⟩
def z_W_law : Mt := (⟨"GrainInnLaw", "law", "([I)Z"⟩, code, 4, (some .boolean))
def z_J_length : Mt := (yJ0_length_8abf5, cJ0_length_8abf5, 1, (some .int))
theorem mk_J_length : MkV z_J_length 0 := ⟨⟨⟨w0_in (tb3_in (i := 39) rfl) rfl, w0_in (tb1_in (i := 16) (by decide +kernel)) rfl⟩, ⟨by decide, by decide, by decide +kernel⟩, by decide⟩, w0_in (tb3_in (i := 37) (by decide +kernel)) rfl, w0_in (tb3_in (i := 38) (by decide +kernel)) rfl⟩
def z_J_charAt : Mt := (yJ0_charAt_5068e, cJ0_charAt_5068e, 2, (some .char))
theorem mk_J_charAt : MkV z_J_charAt 1 := ⟨⟨⟨w0_in (tb3_in (i := 49) rfl) rfl, w0_in (tb1_in (i := 16) (by decide +kernel)) rfl⟩, ⟨by decide, by decide, by decide +kernel⟩, by decide⟩, w0_in (tb3_in (i := 47) (by decide +kernel)) rfl, w0_in (tb3_in (i := 48) (by decide +kernel)) rfl⟩
def z_J_coder : Mt := (yJ0_coder_7d493, cJ0_coder_7d493, 1, (some .byte))
theorem mk_J_coder : MkV z_J_coder 0 := ⟨⟨⟨w0_in (tb3_in (i := 43) rfl) rfl, w0_in (tb1_in (i := 16) (by decide +kernel)) rfl⟩, ⟨by decide, by decide, by decide +kernel⟩, by decide⟩, w0_in (tb3_in (i := 41) (by decide +kernel)) rfl, w0_in (tb3_in (i := 42) (by decide +kernel)) rfl⟩
def z_J_isLatin1 : Mt := (yJ0_isLatin1_aae02, cJ0_isLatin1_aae02, 1, (some .boolean))
theorem mk_J_isLatin1 : MkV z_J_isLatin1 0 := ⟨⟨⟨w0_in (tb3_in (i := 53) rfl) rfl, w0_in (tb1_in (i := 16) (by decide +kernel)) rfl⟩, ⟨by decide, by decide, by decide +kernel⟩, by decide⟩, w0_in (tb3_in (i := 51) (by decide +kernel)) rfl, w0_in (tb3_in (i := 52) (by decide +kernel)) rfl⟩
def z_J_checkIndex : Mt := (yJ0_checkIndex_df160, cJ0_checkIndex_df160, 2, none)
theorem mk_J_checkIndex : MkS z_J_checkIndex 2 := ⟨⟨⟨w0_in (tb3_in (i := 59) rfl) rfl, w0_in (tb1_in (i := 16) (by decide +kernel)) rfl⟩, ⟨by decide, by decide, by decide +kernel⟩, by decide⟩, w0_in (tb3_in (i := 58) (by decide +kernel)) rfl⟩
def z_J_charAtL : Mt := (yJ1_charAt_3b067, cJ1_charAt_3b067, 2, (some .char))
theorem mk_J_charAtL : MkS z_J_charAtL 2 := ⟨⟨⟨w0_in (tb3_in (i := 56) rfl) rfl, w0_in (tb1_in (i := 17) (by decide +kernel)) rfl⟩, ⟨by decide, by decide, by decide +kernel⟩, by decide⟩, w0_in (tb3_in (i := 55) (by decide +kernel)) rfl⟩
def z_J_checkIndexP : Mt := (yJ3_checkIndex_8e157, cJ3_checkIndex_8e157, 3, (some .int))
theorem mk_J_checkIndexP : MkS z_J_checkIndexP 3 := ⟨⟨⟨w0_in (tb3_in (i := 64) rfl) rfl, w0_in (tb1_in (i := 18) (by decide +kernel)) rfl⟩, ⟨by decide, by decide, by decide +kernel⟩, by decide⟩, w0_in (tb3_in (i := 63) (by decide +kernel)) rfl⟩
theorem lk_0_34 : Lk 0 34 yX0_clear := Or.inl (w0_in (tb5_in (i := 23) (by decide +kernel)) rfl)
theorem lk_0_37 : Lk 0 37 yX0_guestsOf := Or.inl (w0_in (tb5_in (i := 24) (by decide +kernel)) rfl)
theorem lk_0_41 : Lk 0 41 yX0_wordsOf := Or.inl (w0_in (tb5_in (i := 25) (by decide +kernel)) rfl)
theorem lk_0_44 : Lk 0 44 yX0_nightOf := Or.inl (w0_in (tb5_in (i := 26) (by decide +kernel)) rfl)
theorem lk_0_47 : Lk 0 47 yX0_append := Or.inl (w0_in (tb4_in (i := 103) (by decide +kernel)) rfl)
theorem lk_0_57 : Lk 0 57 yX0_forgetFirst := Or.inl (w0_in (tb4_in (i := 107) (by decide +kernel)) rfl)
theorem lk_0_61 : Lk 0 61 yX0_turnOn := Or.inl (w0_in (tb5_in (i := 35) (by decide +kernel)) rfl)
theorem lk_1_34 : Lk 1 34 yJ7_fill_53178 := Or.inl (w0_in (tb2_in (i := 239) (by decide +kernel)) rfl)
theorem lk_1_46 : Lk 1 46 yX11_isOf := Or.inr ⟨"GrainInn", nw_in (tb3_in (i := 127) (by decide +kernel)) rfl⟩
theorem lk_1_50 : Lk 1 50 yX1_hasGuest := Or.inl (w0_in (tb3_in (i := 221) (by decide +kernel)) rfl)
theorem lk_1_54 : Lk 1 54 yX1_hasTable := Or.inl (w0_in (tb3_in (i := 205) (by decide +kernel)) rfl)
theorem lk_1_57 : Lk 1 57 yX1_couplesOf := Or.inl (w0_in (tb4_in (i := 58) (by decide +kernel)) rfl)
theorem lk_1_61 : Lk 1 61 yJ6_bitCount_0f7a4 := Or.inl (w0_in (tb4_in (i := 61) (by decide +kernel)) rfl)
theorem lk_1_67 : Lk 1 67 yX1_strifeOf := Or.inl (w0_in (tb5_in (i := 49) (by decide +kernel)) rfl)
theorem lk_2_31 : Lk 2 31 yX2_clear := Or.inl (w0_in (tb3_in (i := 165) (by decide +kernel)) rfl)
theorem lk_2_34 : Lk 2 34 yX2_kindOf := Or.inl (w0_in (tb3_in (i := 166) (by decide +kernel)) rfl)
theorem lk_2_38 : Lk 2 38 yX2_firstOf := Or.inl (w0_in (tb3_in (i := 174) (by decide +kernel)) rfl)
theorem lk_2_41 : Lk 2 41 yX2_secondOf := Or.inl (w0_in (tb3_in (i := 178) (by decide +kernel)) rfl)
theorem lk_2_44 : Lk 2 44 yX2_add := Or.inl (w0_in (tb3_in (i := 182) (by decide +kernel)) rfl)
theorem lk_2_48 : Lk 2 48 yX2_has := Or.inl (w0_in (tb3_in (i := 170) (by decide +kernel)) rfl)
theorem lk_3_21 : Lk 3 21 yX0_guestsOf := Or.inl (w0_in (tb5_in (i := 44) (by decide +kernel)) rfl)
theorem lk_3_25 : Lk 3 25 yX1_isPeaceful := Or.inl (w0_in (tb5_in (i := 45) (by decide +kernel)) rfl)
theorem lk_3_37 : Lk 3 37 yX11_isIn := Or.inr ⟨"GrainInn", nw_in (tb5_in (i := 57) (by decide +kernel)) rfl⟩
theorem lk_3_41 : Lk 3 41 yJ6_bitCount_0f7a4 := Or.inl (w0_in (tb5_in (i := 58) (by decide +kernel)) rfl)
theorem lk_4_50 : Lk 4 50 yX1_clear := Or.inl (w0_in (tb2_in (i := 235) (by decide +kernel)) rfl)
theorem lk_4_53 : Lk 4 53 yX2_clear := Or.inl (w0_in (tb3_in (i := 2) (by decide +kernel)) rfl)
theorem lk_4_54 : Lk 4 54 yX4_step := Or.inl (w0_in (tb3_in (i := 6) (by decide +kernel)) rfl)
theorem lk_4_57 : Lk 4 57 yX4_readLine := Or.inl (w0_in (tb3_in (i := 23) (by decide +kernel)) rfl)
theorem lk_4_60 : Lk 4 60 yX1_hasAll := Or.inl (w0_in (tb3_in (i := 140) (by decide +kernel)) rfl)
theorem lk_4_69 : Lk 4 69 yX4_note := Or.inl (w0_in (tb3_in (i := 104) (by decide +kernel)) rfl)
theorem lk_4_73 : Lk 4 73 yX8_byteAt := Or.inl (w0_in (tb3_in (i := 10) (by decide +kernel)) rfl)
theorem lk_4_77 : Lk 4 77 yX4_isBlank := Or.inl (w0_in (tb3_in (i := 14) (by decide +kernel)) rfl)
theorem lk_4_80 : Lk 4 80 yX4_isLetter := Or.inl (w0_in (tb3_in (i := 17) (by decide +kernel)) rfl)
theorem lk_4_83 : Lk 4 83 yX4_isDigit := Or.inl (w0_in (tb3_in (i := 20) (by decide +kernel)) rfl)
theorem lk_4_86 : Lk 4 86 yX4_keyword := Or.inl (w0_in (tb3_in (i := 27) (by decide +kernel)) rfl)
theorem lk_4_89 : Lk 4 89 yX4_breakOff := Or.inl (w0_in (tb3_in (i := 99) (by decide +kernel)) rfl)
theorem lk_4_98 : Lk 4 98 yX11_limitOf := Or.inr ⟨"GrainInn", nw_in (tb3_in (i := 103) (by decide +kernel)) rfl⟩
theorem lk_4_101 : Lk 4 101 yX4_readInnLine := Or.inl (w0_in (tb3_in (i := 108) (by decide +kernel)) rfl)
theorem lk_4_104 : Lk 4 104 yX4_readDeed := Or.inl (w0_in (tb3_in (i := 128) (by decide +kernel)) rfl)
theorem lk_4_107 : Lk 4 107 yX4_readWish := Or.inl (w0_in (tb3_in (i := 136) (by decide +kernel)) rfl)
theorem lk_4_110 : Lk 4 110 yX4_number := Or.inl (w0_in (tb3_in (i := 112) (by decide +kernel)) rfl)
theorem lk_4_114 : Lk 4 114 yX2_add := Or.inl (w0_in (tb3_in (i := 132) (by decide +kernel)) rfl)
theorem lk_4_120 : Lk 4 120 yX4_spells := Or.inl (w0_in (tb3_in (i := 32) (by decide +kernel)) rfl)
theorem lk_4_154 : Lk 4 154 yJ0_length_8abf5 := Or.inl (w0_in (tb3_in (i := 36) (by decide +kernel)) rfl)
theorem lk_4_159 : Lk 4 159 yJ0_charAt_5068e := Or.inl (w0_in (tb3_in (i := 46) (by decide +kernel)) rfl)
theorem lk_4_163 : Lk 4 163 yX1_addTable := Or.inl (w0_in (tb3_in (i := 119) (by decide +kernel)) rfl)
theorem lk_4_168 : Lk 4 168 yX1_addCouple := Or.inl (w0_in (tb3_in (i := 123) (by decide +kernel)) rfl)
theorem lk_4_171 : Lk 4 171 yX11_isIn := Or.inr ⟨"GrainInn", nw_in (tb3_in (i := 116) (by decide +kernel)) rfl⟩
theorem lk_5_48 : Lk 5 48 yX7_benchAt := Or.inl (w0_in (tb5_in (i := 17) (by decide +kernel)) rfl)
theorem lk_5_54 : Lk 5 54 yX0_clear := Or.inl (w0_in (tb5_in (i := 18) (by decide +kernel)) rfl)
theorem lk_5_57 : Lk 5 57 yX0_copyFrom := Or.inl (w0_in (tb5_in (i := 19) (by decide +kernel)) rfl)
theorem lk_5_68 : Lk 5 68 yX1_keepsOf := Or.inl (w0_in (tb5_in (i := 27) (by decide +kernel)) rfl)
theorem lk_5_74 : Lk 5 74 yX0_endNight := Or.inl (w0_in (tb5_in (i := 28) (by decide +kernel)) rfl)
theorem lk_5_78 : Lk 5 78 yX5_tryFrom := Or.inl (w0_in (tb5_in (i := 13) (by decide +kernel)) rfl)
theorem lk_5_85 : Lk 5 85 yX0_wordsOf := Or.inl (w0_in (tb5_in (i := 29) (by decide +kernel)) rfl)
theorem lk_5_88 : Lk 5 88 yX11_isIn := Or.inr ⟨"GrainInn", nw_in (tb5_in (i := 30) (by decide +kernel)) rfl⟩
theorem lk_5_92 : Lk 5 92 yX0_sitQuietly := Or.inl (w0_in (tb5_in (i := 31) (by decide +kernel)) rfl)
theorem lk_5_95 : Lk 5 95 yX0_allGuests := Or.inl (w0_in (tb5_in (i := 196) (by decide +kernel)) rfl)
theorem lk_5_102 : Lk 5 102 yX5_wordsOn := Or.inl (w0_in (tb5_in (i := 205) (by decide +kernel)) rfl)
theorem lk_5_112 : Lk 5 112 yJ7_fill_53178 := Or.inl (w0_in (tb5_in (i := 72) (by decide +kernel)) rfl)
theorem lk_5_118 : Lk 5 118 yX11_isOf := Or.inr ⟨"GrainInn", nw_in (tb5_in (i := 80) (by decide +kernel)) rfl⟩
theorem lk_5_127 : Lk 5 127 yX2_firstOf := Or.inl (w0_in (tb5_in (i := 73) (by decide +kernel)) rfl)
theorem lk_5_130 : Lk 5 130 yX0_nightOf := Or.inl (w0_in (tb5_in (i := 74) (by decide +kernel)) rfl)
theorem lk_5_133 : Lk 5 133 yX5_listenTo := Or.inl (w0_in (tb5_in (i := 75) (by decide +kernel)) rfl)
theorem lk_5_137 : Lk 5 137 yX1_hasGuest := Or.inl (w0_in (tb5_in (i := 79) (by decide +kernel)) rfl)
theorem lk_6_53 : Lk 6 53 yJ7_fill_53178 := Or.inl (w0_in (tb4_in (i := 202) (by decide +kernel)) rfl)
theorem lk_6_59 : Lk 6 59 yX7_benchAt := Or.inl (w0_in (tb4_in (i := 203) (by decide +kernel)) rfl)
theorem lk_6_68 : Lk 6 68 yX0_guestsOf := Or.inl (w0_in (tb4_in (i := 204) (by decide +kernel)) rfl)
theorem lk_6_77 : Lk 6 77 yX2_kindOf := Or.inl (w0_in (tb4_in (i := 205) (by decide +kernel)) rfl)
theorem lk_6_80 : Lk 6 80 yX2_firstOf := Or.inl (w0_in (tb4_in (i := 206) (by decide +kernel)) rfl)
theorem lk_6_83 : Lk 6 83 yX2_secondOf := Or.inl (w0_in (tb4_in (i := 207) (by decide +kernel)) rfl)
theorem lk_6_86 : Lk 6 86 yX6_takeWish := Or.inl (w0_in (tb4_in (i := 208) (by decide +kernel)) rfl)
theorem lk_6_90 : Lk 6 90 yX6_seatFrom := Or.inl (w0_in (tb4_in (i := 222) (by decide +kernel)) rfl)
theorem lk_6_94 : Lk 6 94 yX6_isHere := Or.inl (w0_in (tb4_in (i := 212) (by decide +kernel)) rfl)
theorem lk_6_98 : Lk 6 98 yX6_tablesWith := Or.inl (w0_in (tb4_in (i := 217) (by decide +kernel)) rfl)
theorem lk_6_102 : Lk 6 102 yX1_hasGuest := Or.inl (w0_in (tb4_in (i := 216) (by decide +kernel)) rfl)
theorem lk_6_105 : Lk 6 105 yX0_wordsOf := Or.inl (w0_in (tb4_in (i := 220) (by decide +kernel)) rfl)
theorem lk_6_108 : Lk 6 108 yX11_isIn := Or.inr ⟨"GrainInn", nw_in (tb4_in (i := 221) (by decide +kernel)) rfl⟩
theorem lk_6_115 : Lk 6 115 yX6_weigh := Or.inl (w0_in (tb4_in (i := 226) (by decide +kernel)) rfl)
theorem lk_6_122 : Lk 6 122 yX6_maySit := Or.inl (w0_in (tb4_in (i := 231) (by decide +kernel)) rfl)
theorem lk_6_125 : Lk 6 125 yX1_quarrelsOf := Or.inl (w0_in (tb4_in (i := 238) (by decide +kernel)) rfl)
theorem lk_6_128 : Lk 6 128 yJ6_bitCount_0f7a4 := Or.inl (w0_in (tb4_in (i := 236) (by decide +kernel)) rfl)
theorem lk_6_133 : Lk 6 133 yX1_priceOf := Or.inl (w0_in (tb4_in (i := 239) (by decide +kernel)) rfl)
theorem lk_6_136 : Lk 6 136 yX11_isOf := Or.inr ⟨"GrainInn", nw_in (tb4_in (i := 235) (by decide +kernel)) rfl⟩
theorem lk_6_140 : Lk 6 140 yX1_seatsOf := Or.inl (w0_in (tb4_in (i := 237) (by decide +kernel)) rfl)
theorem lk_7_57 : Lk 7 57 yJ7_fill_53178 := Or.inl (w0_in (tb4_in (i := 13) (by decide +kernel)) rfl)
theorem lk_7_63 : Lk 7 63 yX0_clear := Or.inl (w0_in (tb4_in (i := 14) (by decide +kernel)) rfl)
theorem lk_7_66 : Lk 7 66 yX1_hasTable := Or.inl (w0_in (tb4_in (i := 33) (by decide +kernel)) rfl)
theorem lk_7_73 : Lk 7 73 yX11_isIn := Or.inr ⟨"GrainInn", nw_in (tb4_in (i := 71) (by decide +kernel)) rfl⟩
theorem lk_7_77 : Lk 7 77 yX2_firstOf := Or.inl (w0_in (tb4_in (i := 22) (by decide +kernel)) rfl)
theorem lk_7_83 : Lk 7 83 yX2_secondOf := Or.inl (w0_in (tb4_in (i := 23) (by decide +kernel)) rfl)
theorem lk_7_86 : Lk 7 86 yX2_kindOf := Or.inl (w0_in (tb4_in (i := 24) (by decide +kernel)) rfl)
theorem lk_7_89 : Lk 7 89 yX7_sitDown := Or.inl (w0_in (tb4_in (i := 25) (by decide +kernel)) rfl)
theorem lk_7_92 : Lk 7 92 yX7_speak := Or.inl (w0_in (tb4_in (i := 84) (by decide +kernel)) rfl)
theorem lk_7_95 : Lk 7 95 yX7_endNight := Or.inl (w0_in (tb4_in (i := 94) (by decide +kernel)) rfl)
theorem lk_7_98 : Lk 7 98 yX7_scrubAt := Or.inl (w0_in (tb4_in (i := 112) (by decide +kernel)) rfl)
theorem lk_7_101 : Lk 7 101 yX7_joinTo := Or.inl (w0_in (tb4_in (i := 120) (by decide +kernel)) rfl)
theorem lk_7_104 : Lk 7 104 yX7_splitTo := Or.inl (w0_in (tb4_in (i := 130) (by decide +kernel)) rfl)
theorem lk_7_107 : Lk 7 107 yX7_benchAt := Or.inl (w0_in (tb4_in (i := 29) (by decide +kernel)) rfl)
theorem lk_7_111 : Lk 7 111 yX1_hasAll := Or.inl (w0_in (tb4_in (i := 34) (by decide +kernel)) rfl)
theorem lk_7_114 : Lk 7 114 yX7_seated := Or.inl (w0_in (tb4_in (i := 35) (by decide +kernel)) rfl)
theorem lk_7_118 : Lk 7 118 yJ6_bitCount_0f7a4 := Or.inl (w0_in (tb4_in (i := 39) (by decide +kernel)) rfl)
theorem lk_7_123 : Lk 7 123 yX1_seatsOf := Or.inl (w0_in (tb4_in (i := 45) (by decide +kernel)) rfl)
theorem lk_7_129 : Lk 7 129 yX0_guestsOf := Or.inl (w0_in (tb4_in (i := 46) (by decide +kernel)) rfl)
theorem lk_7_132 : Lk 7 132 yX0_wordsOf := Or.inl (w0_in (tb4_in (i := 50) (by decide +kernel)) rfl)
theorem lk_7_135 : Lk 7 135 yX1_strifeOf := Or.inl (w0_in (tb4_in (i := 54) (by decide +kernel)) rfl)
theorem lk_7_139 : Lk 7 139 yX1_joyOf := Or.inl (w0_in (tb4_in (i := 62) (by decide +kernel)) rfl)
theorem lk_7_142 : Lk 7 142 yX1_priceOf := Or.inl (w0_in (tb4_in (i := 66) (by decide +kernel)) rfl)
theorem lk_7_145 : Lk 7 145 yX7_payAll := Or.inl (w0_in (tb4_in (i := 67) (by decide +kernel)) rfl)
theorem lk_7_149 : Lk 7 149 yX7_hearAll := Or.inl (w0_in (tb4_in (i := 72) (by decide +kernel)) rfl)
theorem lk_7_153 : Lk 7 153 yX7_meetAll := Or.inl (w0_in (tb4_in (i := 76) (by decide +kernel)) rfl)
theorem lk_7_156 : Lk 7 156 yX0_turnOn := Or.inl (w0_in (tb4_in (i := 80) (by decide +kernel)) rfl)
theorem lk_7_159 : Lk 7 159 yX1_hasGuest := Or.inl (w0_in (tb4_in (i := 88) (by decide +kernel)) rfl)
theorem lk_7_162 : Lk 7 162 yX7_tableOf := Or.inl (w0_in (tb4_in (i := 89) (by decide +kernel)) rfl)
theorem lk_7_165 : Lk 7 165 yX11_isOf := Or.inr ⟨"GrainInn", nw_in (tb4_in (i := 93) (by decide +kernel)) rfl⟩
theorem lk_7_172 : Lk 7 172 yX1_keepsOf := Or.inl (w0_in (tb4_in (i := 98) (by decide +kernel)) rfl)
theorem lk_7_175 : Lk 7 175 yX0_endNight := Or.inl (w0_in (tb4_in (i := 99) (by decide +kernel)) rfl)
theorem lk_7_180 : Lk 7 180 yX0_forgetLastButOne := Or.inl (w0_in (tb4_in (i := 116) (by decide +kernel)) rfl)
theorem lk_7_183 : Lk 7 183 yX0_nightOf := Or.inl (w0_in (tb4_in (i := 124) (by decide +kernel)) rfl)
theorem lk_7_186 : Lk 7 186 yX0_append := Or.inl (w0_in (tb4_in (i := 128) (by decide +kernel)) rfl)
theorem lk_7_189 : Lk 7 189 yX0_forgetFirst := Or.inl (w0_in (tb4_in (i := 129) (by decide +kernel)) rfl)
theorem lk_7_193 : Lk 7 193 yX7_begin := Or.inl (w0_in (tb5_in (i := 140) (by decide +kernel)) rfl)
theorem lk_7_204 : Lk 7 204 yX7_seatDrawn := Or.inl (w0_in (tb5_in (i := 142) (by decide +kernel)) rfl)
theorem lk_7_207 : Lk 7 207 yX7_debtOf := Or.inl (w0_in (tb4_in (i := 170) (by decide +kernel)) rfl)
theorem lk_7_210 : Lk 7 210 yX7_creditorOf := Or.inl (w0_in (tb4_in (i := 178) (by decide +kernel)) rfl)
theorem lk_7_213 : Lk 7 213 yX7_metBy := Or.inl (w0_in (tb5_in (i := 161) (by decide +kernel)) rfl)
theorem lk_7_216 : Lk 7 216 yX7_pastsOf := Or.inl (w0_in (tb5_in (i := 170) (by decide +kernel)) rfl)
theorem lk_7_219 : Lk 7 219 yX0_allGuests := Or.inl (w0_in (tb5_in (i := 182) (by decide +kernel)) rfl)
theorem lk_7_222 : Lk 7 222 yX7_crowdAt := Or.inl (w0_in (tb5_in (i := 178) (by decide +kernel)) rfl)
theorem lk_7_225 : Lk 7 225 yX1_lovesOf := Or.inl (w0_in (tb5_in (i := 105) (by decide +kernel)) rfl)
theorem lk_7_228 : Lk 7 228 yX1_quarrelsOf := Or.inl (w0_in (tb5_in (i := 106) (by decide +kernel)) rfl)
theorem lk_7_231 : Lk 7 231 yX7_gainOf := Or.inl (w0_in (tb5_in (i := 115) (by decide +kernel)) rfl)
theorem lk_8_19 : Lk 8 19 yX8_takeOne := Or.inl (w0_in (tb2_in (i := 200) (by decide +kernel)) rfl)
theorem lk_9_49 : Lk 9 49 yX8_copyFrom := Or.inl (w0_in (tb6_in (i := 13) (by decide +kernel)) rfl)
theorem lk_9_59 : Lk 9 59 yX1_copyFrom := Or.inl (w0_in (tb3_in (i := 183) (by decide +kernel)) rfl)
theorem lk_9_62 : Lk 9 62 yX2_copyFrom := Or.inl (w0_in (tb3_in (i := 161) (by decide +kernel)) rfl)
theorem lk_9_65 : Lk 9 65 yX11_isOf := Or.inr ⟨"GrainInn", nw_in (tb2_in (i := 220) (by decide +kernel)) rfl⟩
theorem lk_9_69 : Lk 9 69 yX9_countOf := Or.inl (w0_in (tb2_in (i := 223) (by decide +kernel)) rfl)
theorem lk_9_72 : Lk 9 72 yX9_has := Or.inl (w0_in (tb2_in (i := 227) (by decide +kernel)) rfl)
theorem lk_9_76 : Lk 9 76 yX9_hasPlace := Or.inl (w0_in (tb3_in (i := 152) (by decide +kernel)) rfl)
theorem lk_9_79 : Lk 9 79 yX9_innAt := Or.inl (w0_in (tb3_in (i := 153) (by decide +kernel)) rfl)
theorem lk_9_83 : Lk 9 83 yX9_linesAt := Or.inl (w0_in (tb3_in (i := 157) (by decide +kernel)) rfl)
theorem lk_10_35 : Lk 10 35 yX7_benchAt := Or.inl (w0_in (tb5_in (i := 222) (by decide +kernel)) rfl)
theorem lk_10_42 : Lk 10 42 yX1_seatsOf := Or.inl (w0_in (tb5_in (i := 223) (by decide +kernel)) rfl)
theorem lk_10_46 : Lk 10 46 yX1_quarrelsOf := Or.inl (w0_in (tb5_in (i := 224) (by decide +kernel)) rfl)
theorem lk_10_49 : Lk 10 49 yX0_allGuests := Or.inl (w0_in (tb5_in (i := 225) (by decide +kernel)) rfl)
theorem lk_10_55 : Lk 10 55 yX10_marryFrom := Or.inl (w0_in (tb5_in (i := 226) (by decide +kernel)) rfl)
theorem lk_10_62 : Lk 10 62 yJ6_bitCount_0f7a4 := Or.inl (w0_in (tb5_in (i := 230) (by decide +kernel)) rfl)
theorem lk_10_73 : Lk 10 73 yX11_isOf := Or.inr ⟨"GrainInn", nw_in (tb5_in (i := 232) (by decide +kernel)) rfl⟩
theorem lk_10_83 : Lk 10 83 yX1_lovesOf := Or.inl (w0_in (tb5_in (i := 234) (by decide +kernel)) rfl)
theorem lk_10_86 : Lk 10 86 yX11_isIn := Or.inr ⟨"GrainInn", nw_in (tb5_in (i := 235) (by decide +kernel)) rfl⟩
theorem lk_11_72 : Lk 11 72 yX8_takeFive := Or.inl (w0_in (tb2_in (i := 196) (by decide +kernel)) rfl)
theorem lk_11_78 : Lk 11 78 yX8_cutTo := Or.inl (w0_in (tb2_in (i := 208) (by decide +kernel)) rfl)
theorem lk_11_82 : Lk 11 82 yX9_hasPlace := Or.inl (w0_in (tb2_in (i := 216) (by decide +kernel)) rfl)
theorem lk_11_86 : Lk 11 86 yX4_read := Or.inl (w0_in (tb2_in (i := 231) (by decide +kernel)) rfl)
theorem lk_11_97 : Lk 11 97 yX9_setFault := Or.inl (w0_in (tb3_in (i := 144) (by decide +kernel)) rfl)
theorem lk_11_101 : Lk 11 101 yX9_keep := Or.inl (w0_in (tb3_in (i := 148) (by decide +kernel)) rfl)
theorem lk_11_107 : Lk 11 107 yX9_innAt := Or.inl (w0_in (tb3_in (i := 199) (by decide +kernel)) rfl)
theorem lk_11_119 : Lk 11 119 yX11_isOf := Or.inl (w0_in (tb3_in (i := 200) (by decide +kernel)) rfl)
theorem lk_11_123 : Lk 11 123 yX1_seatsOf := Or.inl (w0_in (tb3_in (i := 201) (by decide +kernel)) rfl)
theorem lk_11_126 : Lk 11 126 yX1_keepsOf := Or.inl (w0_in (tb3_in (i := 209) (by decide +kernel)) rfl)
theorem lk_11_129 : Lk 11 129 yX1_priceOf := Or.inl (w0_in (tb3_in (i := 213) (by decide +kernel)) rfl)
theorem lk_11_132 : Lk 11 132 yX1_quarrelsOf := Or.inl (w0_in (tb3_in (i := 217) (by decide +kernel)) rfl)
theorem lk_11_135 : Lk 11 135 yX1_lovesOf := Or.inl (w0_in (tb3_in (i := 225) (by decide +kernel)) rfl)
theorem lk_11_138 : Lk 11 138 yX9_linesAt := Or.inl (w0_in (tb3_in (i := 233) (by decide +kernel)) rfl)
theorem lk_11_142 : Lk 11 142 yX11_lineOf := Or.inl (w0_in (tb3_in (i := 234) (by decide +kernel)) rfl)
theorem lk_11_151 : Lk 11 151 yX11_follow := Or.inl (w0_in (tb4_in (i := 5) (by decide +kernel)) rfl)
theorem lk_11_155 : Lk 11 155 yX11_reach := Or.inl (w0_in (tb4_in (i := 138) (by decide +kernel)) rfl)
theorem lk_11_168 : Lk 11 168 yX7_paidByAll := Or.inl (w0_in (tb4_in (i := 142) (by decide +kernel)) rfl)
theorem lk_11_172 : Lk 11 172 yX7_seated := Or.inl (w0_in (tb4_in (i := 146) (by decide +kernel)) rfl)
theorem lk_11_175 : Lk 11 175 yX11_benchFact := Or.inl (w0_in (tb4_in (i := 147) (by decide +kernel)) rfl)
theorem lk_11_183 : Lk 11 183 yX1_hasGuest := Or.inl (w0_in (tb4_in (i := 155) (by decide +kernel)) rfl)
theorem lk_11_188 : Lk 11 188 yX7_heardBy := Or.inl (w0_in (tb4_in (i := 157) (by decide +kernel)) rfl)
theorem lk_11_191 : Lk 11 191 yX7_paidBy := Or.inl (w0_in (tb4_in (i := 161) (by decide +kernel)) rfl)
theorem lk_11_194 : Lk 11 194 yX7_tableOf := Or.inl (w0_in (tb4_in (i := 165) (by decide +kernel)) rfl)
theorem lk_11_197 : Lk 11 197 yX7_netOf := Or.inl (w0_in (tb4_in (i := 166) (by decide +kernel)) rfl)
theorem lk_11_200 : Lk 11 200 yX7_followDebts := Or.inl (w0_in (tb4_in (i := 174) (by decide +kernel)) rfl)
theorem lk_11_209 : Lk 11 209 yX7_debtOf := Or.inl (w0_in (tb4_in (i := 182) (by decide +kernel)) rfl)
theorem lk_11_213 : Lk 11 213 yX7_benchAt := Or.inl (w0_in (tb4_in (i := 150) (by decide +kernel)) rfl)
theorem lk_11_220 : Lk 11 220 yX0_guestsOf := Or.inl (w0_in (tb4_in (i := 187) (by decide +kernel)) rfl)
theorem lk_11_223 : Lk 11 223 yX0_wordsOf := Or.inl (w0_in (tb4_in (i := 188) (by decide +kernel)) rfl)
theorem lk_11_226 : Lk 11 226 yX0_nightOf := Or.inl (w0_in (tb4_in (i := 189) (by decide +kernel)) rfl)
theorem lk_11_229 : Lk 11 229 yX6_search := Or.inl (w0_in (tb4_in (i := 198) (by decide +kernel)) rfl)
theorem lk_11_242 : Lk 11 242 yX6_bestTableOf := Or.inl (w0_in (tb5_in (i := 0) (by decide +kernel)) rfl)
theorem lk_11_245 : Lk 11 245 yX1_hasTable := Or.inl (w0_in (tb5_in (i := 8) (by decide +kernel)) rfl)
theorem lk_11_248 : Lk 11 248 yX5_awaitWord := Or.inl (w0_in (tb5_in (i := 9) (by decide +kernel)) rfl)
theorem lk_11_261 : Lk 11 261 yX3_fewestCuts := Or.inl (w0_in (tb5_in (i := 40) (by decide +kernel)) rfl)
theorem lk_11_265 : Lk 11 265 yX3_leastForgotten := Or.inl (w0_in (tb5_in (i := 50) (by decide +kernel)) rfl)
theorem lk_11_268 : Lk 11 268 yJ6_bitCount_0f7a4 := Or.inl (w0_in (tb5_in (i := 59) (by decide +kernel)) rfl)
theorem lk_11_273 : Lk 11 273 yX2_has := Or.inl (w0_in (tb3_in (i := 237) (by decide +kernel)) rfl)
theorem lk_11_276 : Lk 11 276 yX2_firstOf := Or.inl (w0_in (tb3_in (i := 239) (by decide +kernel)) rfl)
theorem lk_11_279 : Lk 11 279 yX5_listen := Or.inl (w0_in (tb5_in (i := 68) (by decide +kernel)) rfl)
theorem lk_11_283 : Lk 11 283 yX5_fittingRows := Or.inl (w0_in (tb5_in (i := 81) (by decide +kernel)) rfl)
theorem lk_11_286 : Lk 11 286 yX5_tellable := Or.inl (w0_in (tb5_in (i := 85) (by decide +kernel)) rfl)
theorem lk_11_289 : Lk 11 289 yX5_sureOf := Or.inl (w0_in (tb5_in (i := 89) (by decide +kernel)) rfl)
theorem lk_11_292 : Lk 11 292 yX1_hasCouple := Or.inl (w0_in (tb5_in (i := 97) (by decide +kernel)) rfl)
theorem lk_11_295 : Lk 11 295 yX7_gainOf := Or.inl (w0_in (tb5_in (i := 101) (by decide +kernel)) rfl)
theorem lk_11_299 : Lk 11 299 yX7_isRest := Or.inl (w0_in (tb5_in (i := 111) (by decide +kernel)) rfl)
theorem lk_11_303 : Lk 11 303 yX3_fewestTables := Or.inl (w0_in (tb5_in (i := 124) (by decide +kernel)) rfl)
theorem lk_11_307 : Lk 11 307 yX3_greatestPeace := Or.inl (w0_in (tb5_in (i := 128) (by decide +kernel)) rfl)
theorem lk_11_310 : Lk 11 310 yX7_draw := Or.inl (w0_in (tb5_in (i := 136) (by decide +kernel)) rfl)
theorem lk_11_314 : Lk 11 314 yX11_drawnFact := Or.inl (w0_in (tb5_in (i := 146) (by decide +kernel)) rfl)
theorem lk_11_317 : Lk 11 317 yX7_metBy := Or.inl (w0_in (tb5_in (i := 153) (by decide +kernel)) rfl)
theorem lk_11_320 : Lk 11 320 yX7_gossip := Or.inl (w0_in (tb5_in (i := 157) (by decide +kernel)) rfl)
theorem lk_11_323 : Lk 11 323 yX7_mostSeen := Or.inl (w0_in (tb5_in (i := 166) (by decide +kernel)) rfl)
theorem lk_11_326 : Lk 11 326 yX7_mostCrowded := Or.inl (w0_in (tb5_in (i := 174) (by decide +kernel)) rfl)
theorem lk_11_329 : Lk 11 329 yX7_pastsOf := Or.inl (w0_in (tb5_in (i := 186) (by decide +kernel)) rfl)
theorem lk_11_332 : Lk 11 332 yX7_crowdAt := Or.inl (w0_in (tb5_in (i := 187) (by decide +kernel)) rfl)
theorem lk_11_335 : Lk 11 335 yX5_untilForgotten := Or.inl (w0_in (tb5_in (i := 192) (by decide +kernel)) rfl)
theorem lk_11_339 : Lk 11 339 yX5_spyOut := Or.inl (w0_in (tb5_in (i := 201) (by decide +kernel)) rfl)
theorem lk_11_342 : Lk 11 342 yX5_spiedTable := Or.inl (w0_in (tb5_in (i := 210) (by decide +kernel)) rfl)
theorem lk_11_345 : Lk 11 345 yX10_search := Or.inl (w0_in (tb5_in (i := 218) (by decide +kernel)) rfl)
theorem lk_11_351 : Lk 11 351 yX10_coupleAt := Or.inl (w0_in (tb5_in (i := 236) (by decide +kernel)) rfl)
theorem lk_11_354 : Lk 11 354 yX9_countOf := Or.inl (w0_in (tb6_in (i := 4) (by decide +kernel)) rfl)
theorem lk_11_357 : Lk 11 357 yX9_copyFrom := Or.inl (w0_in (tb6_in (i := 9) (by decide +kernel)) rfl)
theorem lk_11_361 : Lk 11 361 yX2_kindOf := Or.inl (w0_in (tb3_in (i := 238) (by decide +kernel)) rfl)
theorem lk_11_364 : Lk 11 364 yX2_secondOf := Or.inl (w0_in (tb4_in (i := 0) (by decide +kernel)) rfl)
theorem lk_11_373 : Lk 11 373 yX7_begin := Or.inl (w0_in (tb4_in (i := 9) (by decide +kernel)) rfl)
theorem lk_11_377 : Lk 11 377 yX7_follows := Or.inl (w0_in (tb4_in (i := 18) (by decide +kernel)) rfl)
theorem lk_12_103 : Lk 12 103 yX12_has := Or.inl (w0_in (tb7_in (i := 76) (by decide +kernel)) rfl)
theorem lk_12_107 : Lk 12 107 yX12_copyRow := Or.inl (w0_in (tb9_in (i := 7) (by decide +kernel)) rfl)
theorem lk_12_111 : Lk 12 111 yX12_in := Or.inl (w0_in (tb6_in (i := 225) (by decide +kernel)) rfl)
theorem lk_12_115 : Lk 12 115 yX12_four := Or.inl (w0_in (tb6_in (i := 217) (by decide +kernel)) rfl)
theorem lk_12_125 : Lk 12 125 yX12_see := Or.inl (w0_in (tb7_in (i := 4) (by decide +kernel)) rfl)
theorem lk_12_151 : Lk 12 151 yX12_fails := Or.inl (w0_in (tb7_in (i := 24) (by decide +kernel)) rfl)
theorem lk_12_155 : Lk 12 155 yX12_later := Or.inl (w0_in (tb7_in (i := 32) (by decide +kernel)) rfl)
theorem lk_12_163 : Lk 12 163 yX12_token := Or.inl (w0_in (tb7_in (i := 0) (by decide +kernel)) rfl)
theorem lk_12_166 : Lk 12 166 yX12_takeBut := Or.inl (w0_in (tb7_in (i := 44) (by decide +kernel)) rfl)
theorem lk_12_170 : Lk 12 170 yX12_take := Or.inl (w0_in (tb7_in (i := 40) (by decide +kernel)) rfl)
theorem lk_12_176 : Lk 12 176 yX12_greater := Or.inl (w0_in (tb7_in (i := 48) (by decide +kernel)) rfl)
theorem lk_12_188 : Lk 12 188 yX12_full := Or.inl (w0_in (tb7_in (i := 28) (by decide +kernel)) rfl)
theorem lk_12_192 : Lk 12 192 yX12_coupleLine := Or.inl (w0_in (tb7_in (i := 36) (by decide +kernel)) rfl)
theorem lk_12_196 : Lk 12 196 yX12_keep := Or.inl (w0_in (tb7_in (i := 51) (by decide +kernel)) rfl)
theorem lk_12_212 : Lk 12 212 yX12_sitters := Or.inl (w0_in (tb7_in (i := 72) (by decide +kernel)) rfl)
theorem lk_12_215 : Lk 12 215 yX12_deedBy := Or.inl (w0_in (tb7_in (i := 59) (by decide +kernel)) rfl)
theorem lk_12_219 : Lk 12 219 yX12_deedNumbers := Or.inl (w0_in (tb7_in (i := 68) (by decide +kernel)) rfl)
theorem lk_12_234 : Lk 12 234 yX12_innLine := Or.inl (w0_in (tb7_in (i := 16) (by decide +kernel)) rfl)
theorem lk_12_238 : Lk 12 238 yX12_eveningLine := Or.inl (w0_in (tb7_in (i := 55) (by decide +kernel)) rfl)
theorem lk_12_241 : Lk 12 241 yX12_wishLine := Or.inl (w0_in (tb7_in (i := 79) (by decide +kernel)) rfl)
theorem lk_12_244 : Lk 12 244 yX12_hearingLine := Or.inl (w0_in (tb7_in (i := 87) (by decide +kernel)) rfl)
theorem lk_12_247 : Lk 12 247 yX12_lineOf := Or.inl (w0_in (tb7_in (i := 12) (by decide +kernel)) rfl)
theorem lk_12_251 : Lk 12 251 yX12_lines := Or.inl (w0_in (tb7_in (i := 8) (by decide +kernel)) rfl)
theorem lk_12_254 : Lk 12 254 yX12_store := Or.inl (w0_in (tb7_in (i := 97) (by decide +kernel)) rfl)
theorem lk_12_258 : Lk 12 258 yX12_is := Or.inl (w0_in (tb6_in (i := 232) (by decide +kernel)) rfl)
theorem lk_12_261 : Lk 12 261 yX12_readText := Or.inl (w0_in (tb6_in (i := 236) (by decide +kernel)) rfl)
theorem lk_12_264 : Lk 12 264 yX12_storeAll := Or.inl (w0_in (tb7_in (i := 93) (by decide +kernel)) rfl)
theorem lk_12_270 : Lk 12 270 yX12_of := Or.inl (w0_in (tb7_in (i := 113) (by decide +kernel)) rfl)
theorem lk_12_280 : Lk 12 280 yX12_hand := Or.inl (w0_in (tb7_in (i := 109) (by decide +kernel)) rfl)
theorem lk_12_283 : Lk 12 283 yX12_ofTable := Or.inl (w0_in (tb7_in (i := 117) (by decide +kernel)) rfl)
theorem lk_12_289 : Lk 12 289 yX12_hasEvenings := Or.inl (w0_in (tb7_in (i := 125) (by decide +kernel)) rfl)
theorem lk_12_292 : Lk 12 292 yX12_deeds := Or.inl (w0_in (tb7_in (i := 129) (by decide +kernel)) rfl)
theorem lk_12_295 : Lk 12 295 yX12_deedOf := Or.inl (w0_in (tb7_in (i := 133) (by decide +kernel)) rfl)
theorem lk_12_307 : Lk 12 307 yX12_hears := Or.inl (w0_in (tb7_in (i := 180) (by decide +kernel)) rfl)
theorem lk_12_310 : Lk 12 310 yX12_meet := Or.inl (w0_in (tb7_in (i := 172) (by decide +kernel)) rfl)
theorem lk_12_313 : Lk 12 313 yX12_couples := Or.inl (w0_in (tb7_in (i := 184) (by decide +kernel)) rfl)
theorem lk_12_317 : Lk 12 317 yX12_leastOf := Or.inl (w0_in (tb7_in (i := 188) (by decide +kernel)) rfl)
theorem lk_12_320 : Lk 12 320 yX12_repeats := Or.inl (w0_in (tb7_in (i := 176) (by decide +kernel)) rfl)
theorem lk_12_323 : Lk 12 323 yX12_movePast := Or.inl (w0_in (tb7_in (i := 216) (by decide +kernel)) rfl)
theorem lk_12_326 : Lk 12 326 yX12_lessens := Or.inl (w0_in (tb7_in (i := 212) (by decide +kernel)) rfl)
theorem lk_12_329 : Lk 12 329 yX12_becomesPast := Or.inl (w0_in (tb7_in (i := 208) (by decide +kernel)) rfl)
theorem lk_12_332 : Lk 12 332 yX12_isGuest := Or.inl (w0_in (tb7_in (i := 196) (by decide +kernel)) rfl)
theorem lk_12_335 : Lk 12 335 yX12_tableOf := Or.inl (w0_in (tb7_in (i := 200) (by decide +kernel)) rfl)
theorem lk_12_338 : Lk 12 338 yX12_isTable := Or.inl (w0_in (tb7_in (i := 157) (by decide +kernel)) rfl)
theorem lk_12_341 : Lk 12 341 yX12_areFree := Or.inl (w0_in (tb7_in (i := 228) (by decide +kernel)) rfl)
theorem lk_12_344 : Lk 12 344 yX12_allSeated := Or.inl (w0_in (tb7_in (i := 161) (by decide +kernel)) rfl)
theorem lk_12_347 : Lk 12 347 yX12_ones := Or.inl (w0_in (tb7_in (i := 165) (by decide +kernel)) rfl)
theorem lk_12_350 : Lk 12 350 yX12_sitsDown := Or.inl (w0_in (tb7_in (i := 168) (by decide +kernel)) rfl)
theorem lk_12_353 : Lk 12 353 yX12_sits := Or.inl (w0_in (tb7_in (i := 153) (by decide +kernel)) rfl)
theorem lk_12_356 : Lk 12 356 yX12_says := Or.inl (w0_in (tb7_in (i := 192) (by decide +kernel)) rfl)
theorem lk_12_359 : Lk 12 359 yX12_night := Or.inl (w0_in (tb7_in (i := 204) (by decide +kernel)) rfl)
theorem lk_12_362 : Lk 12 362 yX12_scrubs := Or.inl (w0_in (tb7_in (i := 220) (by decide +kernel)) rfl)
theorem lk_12_365 : Lk 12 365 yX12_joins := Or.inl (w0_in (tb7_in (i := 224) (by decide +kernel)) rfl)
theorem lk_12_368 : Lk 12 368 yX12_splits := Or.inl (w0_in (tb7_in (i := 232) (by decide +kernel)) rfl)
theorem lk_12_371 : Lk 12 371 yX12_begin := Or.inl (w0_in (tb7_in (i := 145) (by decide +kernel)) rfl)
theorem lk_12_374 : Lk 12 374 yX12_does := Or.inl (w0_in (tb7_in (i := 149) (by decide +kernel)) rfl)
theorem lk_12_377 : Lk 12 377 yX12_play := Or.inl (w0_in (tb7_in (i := 141) (by decide +kernel)) rfl)
theorem lk_12_380 : Lk 12 380 yX12_layState := Or.inl (w0_in (tb8_in (i := 0) (by decide +kernel)) rfl)
theorem lk_12_383 : Lk 12 383 yX12_allPaid := Or.inl (w0_in (tb8_in (i := 4) (by decide +kernel)) rfl)
theorem lk_12_392 : Lk 12 392 yX12_owesMost := Or.inl (w0_in (tb8_in (i := 17) (by decide +kernel)) rfl)
theorem lk_12_396 : Lk 12 396 yX12_chain := Or.inl (w0_in (tb8_in (i := 13) (by decide +kernel)) rfl)
theorem lk_12_399 : Lk 12 399 yX12_net := Or.inl (w0_in (tb8_in (i := 21) (by decide +kernel)) rfl)
theorem lk_12_405 : Lk 12 405 yX12_hasWishes := Or.inl (w0_in (tb8_in (i := 33) (by decide +kernel)) rfl)
theorem lk_12_408 : Lk 12 408 yX12_wishMany := Or.inl (w0_in (tb8_in (i := 37) (by decide +kernel)) rfl)
theorem lk_12_411 : Lk 12 411 yX12_wishOf := Or.inl (w0_in (tb8_in (i := 41) (by decide +kernel)) rfl)
theorem lk_12_414 : Lk 12 414 yX12_isFulfilled := Or.inl (w0_in (tb8_in (i := 58) (by decide +kernel)) rfl)
theorem lk_12_417 : Lk 12 417 yX12_ghostsAt := Or.inl (w0_in (tb8_in (i := 66) (by decide +kernel)) rfl)
theorem lk_12_421 : Lk 12 421 yX12_laySeats := Or.inl (w0_in (tb8_in (i := 50) (by decide +kernel)) rfl)
theorem lk_12_424 : Lk 12 424 yX12_areFulfilled := Or.inl (w0_in (tb8_in (i := 54) (by decide +kernel)) rfl)
theorem lk_12_427 : Lk 12 427 yX12_harm := Or.inl (w0_in (tb8_in (i := 62) (by decide +kernel)) rfl)
theorem lk_12_430 : Lk 12 430 yX12_pays := Or.inl (w0_in (tb8_in (i := 70) (by decide +kernel)) rfl)
theorem lk_12_442 : Lk 12 442 yX12_findComes := Or.inl (w0_in (tb8_in (i := 78) (by decide +kernel)) rfl)
theorem lk_12_445 : Lk 12 445 yX12_isQuiet := Or.inl (w0_in (tb8_in (i := 90) (by decide +kernel)) rfl)
theorem lk_12_448 : Lk 12 448 yX12_cutsOf := Or.inl (w0_in (tb8_in (i := 86) (by decide +kernel)) rfl)
theorem lk_12_451 : Lk 12 451 yX12_leastGone := Or.inl (w0_in (tb8_in (i := 94) (by decide +kernel)) rfl)
theorem lk_12_457 : Lk 12 457 yX12_hasHearing := Or.inl (w0_in (tb8_in (i := 102) (by decide +kernel)) rfl)
theorem lk_12_460 : Lk 12 460 yX12_rowsHeard := Or.inl (w0_in (tb8_in (i := 106) (by decide +kernel)) rfl)
theorem lk_12_463 : Lk 12 463 yX12_heardIn := Or.inl (w0_in (tb8_in (i := 110) (by decide +kernel)) rfl)
theorem lk_12_472 : Lk 12 472 yX12_listen := Or.inl (w0_in (tb8_in (i := 118) (by decide +kernel)) rfl)
theorem lk_12_475 : Lk 12 475 yX12_loves := Or.inl (w0_in (tb8_in (i := 130) (by decide +kernel)) rfl)
theorem lk_12_478 : Lk 12 478 yX12_quarrels := Or.inl (w0_in (tb8_in (i := 134) (by decide +kernel)) rfl)
theorem lk_12_481 : Lk 12 481 yX12_liking := Or.inl (w0_in (tb8_in (i := 138) (by decide +kernel)) rfl)
theorem lk_12_484 : Lk 12 484 yX12_gainOf := Or.inl (w0_in (tb8_in (i := 126) (by decide +kernel)) rfl)
theorem lk_12_488 : Lk 12 488 yX12_isRest := Or.inl (w0_in (tb8_in (i := 146) (by decide +kernel)) rfl)
theorem lk_12_491 : Lk 12 491 yX12_fewestTables := Or.inl (w0_in (tb8_in (i := 158) (by decide +kernel)) rfl)
theorem lk_12_498 : Lk 12 498 yX12_draw := Or.inl (w0_in (tb8_in (i := 170) (by decide +kernel)) rfl)
theorem lk_12_504 : Lk 12 504 yX12_drawNight := Or.inl (w0_in (tb8_in (i := 166) (by decide +kernel)) rfl)
theorem lk_12_507 : Lk 12 507 yX12_gossip := Or.inl (w0_in (tb8_in (i := 179) (by decide +kernel)) rfl)
theorem lk_12_510 : Lk 12 510 yX12_pastsOf := Or.inl (w0_in (tb8_in (i := 187) (by decide +kernel)) rfl)
theorem lk_12_513 : Lk 12 513 yX12_crowdOf := Or.inl (w0_in (tb8_in (i := 191) (by decide +kernel)) rfl)
theorem lk_12_516 : Lk 12 516 yX12_allPasts := Or.inl (w0_in (tb8_in (i := 195) (by decide +kernel)) rfl)
theorem lk_12_522 : Lk 12 522 yX12_spied := Or.inl (w0_in (tb8_in (i := 211) (by decide +kernel)) rfl)
theorem lk_12_528 : Lk 12 528 yX12_findSpy := Or.inl (w0_in (tb8_in (i := 207) (by decide +kernel)) rfl)
theorem lk_12_531 : Lk 12 531 yX12_canWed := Or.inl (w0_in (tb8_in (i := 223) (by decide +kernel)) rfl)
theorem lk_12_534 : Lk 12 534 yX12_taking := Or.inl (w0_in (tb8_in (i := 227) (by decide +kernel)) rfl)
theorem lk_12_537 : Lk 12 537 yX12_findWeds := Or.inl (w0_in (tb8_in (i := 219) (by decide +kernel)) rfl)
theorem lk_12_540 : Lk 12 540 yX12_coupleAt := Or.inl (w0_in (tb8_in (i := 231) (by decide +kernel)) rfl)
theorem lk_12_543 : Lk 12 543 yX12_copyAll := Or.inl (w0_in (tb9_in (i := 3) (by decide +kernel)) rfl)
theorem lk_13_13 : Lk 13 13 yX11_feed := Or.inl (w0_in (tb2_in (i := 192) (by decide +kernel)) rfl)
theorem lk_13_17 : Lk 13 17 yX12_feed := Or.inl (w0_in (tb6_in (i := 213) (by decide +kernel)) rfl)
theorem lk_13_18 : Lk 13 18 yX11_end := Or.inl (w0_in (tb2_in (i := 204) (by decide +kernel)) rfl)
theorem lk_13_22 : Lk 13 22 yX12_end := Or.inl (w0_in (tb6_in (i := 221) (by decide +kernel)) rfl)
theorem lk_13_23 : Lk 13 23 yX11_text := Or.inl (w0_in (tb2_in (i := 212) (by decide +kernel)) rfl)
theorem lk_13_27 : Lk 13 27 yX12_text := Or.inl (w0_in (tb6_in (i := 228) (by decide +kernel)) rfl)
theorem lk_13_28 : Lk 13 28 yX11_fault := Or.inl (w0_in (tb3_in (i := 191) (by decide +kernel)) rfl)
theorem lk_13_31 : Lk 13 31 yX12_fault := Or.inl (w0_in (tb7_in (i := 101) (by decide +kernel)) rfl)
theorem lk_13_32 : Lk 13 32 yX11_inn := Or.inl (w0_in (tb3_in (i := 195) (by decide +kernel)) rfl)
theorem lk_13_35 : Lk 13 35 yX12_inn := Or.inl (w0_in (tb7_in (i := 105) (by decide +kernel)) rfl)
theorem lk_13_36 : Lk 13 36 yX11_deed := Or.inl (w0_in (tb3_in (i := 229) (by decide +kernel)) rfl)
theorem lk_13_40 : Lk 13 40 yX12_deed := Or.inl (w0_in (tb7_in (i := 121) (by decide +kernel)) rfl)
theorem lk_13_41 : Lk 13 41 yX11_stop := Or.inl (w0_in (tb4_in (i := 1) (by decide +kernel)) rfl)
theorem lk_13_44 : Lk 13 44 yX12_stop := Or.inl (w0_in (tb7_in (i := 137) (by decide +kernel)) rfl)
theorem lk_13_45 : Lk 13 45 yX11_state := Or.inl (w0_in (tb4_in (i := 134) (by decide +kernel)) rfl)
theorem lk_13_49 : Lk 13 49 yX12_state := Or.inl (w0_in (tb7_in (i := 236) (by decide +kernel)) rfl)
theorem lk_13_50 : Lk 13 50 yX11_guest := Or.inl (w0_in (tb4_in (i := 151) (by decide +kernel)) rfl)
theorem lk_13_53 : Lk 13 53 yX12_guest := Or.inl (w0_in (tb8_in (i := 8) (by decide +kernel)) rfl)
theorem lk_13_54 : Lk 13 54 yX11_past := Or.inl (w0_in (tb4_in (i := 183) (by decide +kernel)) rfl)
theorem lk_13_58 : Lk 13 58 yX12_past := Or.inl (w0_in (tb8_in (i := 25) (by decide +kernel)) rfl)
theorem lk_13_59 : Lk 13 59 yX11_wish := Or.inl (w0_in (tb4_in (i := 190) (by decide +kernel)) rfl)
theorem lk_13_62 : Lk 13 62 yX12_wish := Or.inl (w0_in (tb8_in (i := 29) (by decide +kernel)) rfl)
theorem lk_13_63 : Lk 13 63 yX11_seats := Or.inl (w0_in (tb4_in (i := 194) (by decide +kernel)) rfl)
theorem lk_13_66 : Lk 13 66 yX12_seats := Or.inl (w0_in (tb8_in (i := 45) (by decide +kernel)) rfl)
theorem lk_13_67 : Lk 13 67 yX11_comes := Or.inl (w0_in (tb5_in (i := 4) (by decide +kernel)) rfl)
theorem lk_13_70 : Lk 13 70 yX12_comes := Or.inl (w0_in (tb8_in (i := 74) (by decide +kernel)) rfl)
theorem lk_13_71 : Lk 13 71 yX11_cuts := Or.inl (w0_in (tb5_in (i := 36) (by decide +kernel)) rfl)
theorem lk_13_74 : Lk 13 74 yX12_cuts := Or.inl (w0_in (tb8_in (i := 82) (by decide +kernel)) rfl)
theorem lk_13_75 : Lk 13 75 yX11_heard := Or.inl (w0_in (tb5_in (i := 60) (by decide +kernel)) rfl)
theorem lk_13_78 : Lk 13 78 yX12_heard := Or.inl (w0_in (tb8_in (i := 98) (by decide +kernel)) rfl)
theorem lk_13_79 : Lk 13 79 yX11_fits := Or.inl (w0_in (tb5_in (i := 64) (by decide +kernel)) rfl)
theorem lk_13_82 : Lk 13 82 yX12_fits := Or.inl (w0_in (tb8_in (i := 114) (by decide +kernel)) rfl)
theorem lk_13_83 : Lk 13 83 yX11_gain := Or.inl (w0_in (tb5_in (i := 93) (by decide +kernel)) rfl)
theorem lk_13_87 : Lk 13 87 yX12_gain := Or.inl (w0_in (tb8_in (i := 122) (by decide +kernel)) rfl)
theorem lk_13_88 : Lk 13 88 yX11_rest := Or.inl (w0_in (tb5_in (i := 107) (by decide +kernel)) rfl)
theorem lk_13_91 : Lk 13 91 yX12_rest := Or.inl (w0_in (tb8_in (i := 142) (by decide +kernel)) rfl)
theorem lk_13_92 : Lk 13 92 yX11_whisper := Or.inl (w0_in (tb5_in (i := 116) (by decide +kernel)) rfl)
theorem lk_13_96 : Lk 13 96 yX12_whisper := Or.inl (w0_in (tb8_in (i := 150) (by decide +kernel)) rfl)
theorem lk_13_97 : Lk 13 97 yX11_council := Or.inl (w0_in (tb5_in (i := 120) (by decide +kernel)) rfl)
theorem lk_13_101 : Lk 13 101 yX12_council := Or.inl (w0_in (tb8_in (i := 154) (by decide +kernel)) rfl)
theorem lk_13_102 : Lk 13 102 yX11_drawn := Or.inl (w0_in (tb5_in (i := 132) (by decide +kernel)) rfl)
theorem lk_13_105 : Lk 13 105 yX12_drawn := Or.inl (w0_in (tb8_in (i := 162) (by decide +kernel)) rfl)
theorem lk_13_106 : Lk 13 106 yX11_met := Or.inl (w0_in (tb5_in (i := 149) (by decide +kernel)) rfl)
theorem lk_13_109 : Lk 13 109 yX12_met := Or.inl (w0_in (tb8_in (i := 175) (by decide +kernel)) rfl)
theorem lk_13_110 : Lk 13 110 yX11_ghosts := Or.inl (w0_in (tb5_in (i := 162) (by decide +kernel)) rfl)
theorem lk_13_113 : Lk 13 113 yX12_ghosts := Or.inl (w0_in (tb8_in (i := 183) (by decide +kernel)) rfl)
theorem lk_13_114 : Lk 13 114 yX11_forgets := Or.inl (w0_in (tb5_in (i := 188) (by decide +kernel)) rfl)
theorem lk_13_117 : Lk 13 117 yX12_forgets := Or.inl (w0_in (tb8_in (i := 199) (by decide +kernel)) rfl)
theorem lk_13_118 : Lk 13 118 yX11_spy := Or.inl (w0_in (tb5_in (i := 197) (by decide +kernel)) rfl)
theorem lk_13_121 : Lk 13 121 yX12_spy := Or.inl (w0_in (tb8_in (i := 203) (by decide +kernel)) rfl)
theorem lk_13_122 : Lk 13 122 yX11_weddings := Or.inl (w0_in (tb5_in (i := 214) (by decide +kernel)) rfl)
theorem lk_13_125 : Lk 13 125 yX12_weddings := Or.inl (w0_in (tb8_in (i := 215) (by decide +kernel)) rfl)
theorem lk_13_126 : Lk 13 126 yX11_count := Or.inl (w0_in (tb6_in (i := 0) (by decide +kernel)) rfl)
theorem lk_13_129 : Lk 13 129 yX12_count := Or.inl (w0_in (tb8_in (i := 235) (by decide +kernel)) rfl)
theorem lk_13_130 : Lk 13 130 yX11_image := Or.inl (w0_in (tb6_in (i := 5) (by decide +kernel)) rfl)
theorem lk_13_134 : Lk 13 134 yX12_image := Or.inl (w0_in (tb8_in (i := 239) (by decide +kernel)) rfl)
theorem lk_13_135 : Lk 13 135 yX11_again := Or.inl (w0_in (tb6_in (i := 19) (by decide +kernel)) rfl)
theorem lk_13_138 : Lk 13 138 yX12_again := Or.inl (w0_in (tb9_in (i := 10) (by decide +kernel)) rfl)
def str_len (k : Nat) : Option Int32 := if 400 ≤ k ∧ k < 416 then some (Int32.ofNat (SLEN.getD (k - 400) 0)) else none
def str_at (k : Nat) (i : Int32) : Option Int32 := if (400 ≤ k ∧ k < 416) ∧ inb i (SLEN.getD (k - 400) 0) then some ((SBYT.getD (k - 400) []).getD i.toNatClampNeg 0) else none

theorem lkw_J_coder : Cond.methodLink RJ0 335 yJ0_coder_7d493 ∈ W0 := w0_in (tb3_in (i := 40) (by decide +kernel)) rfl
theorem lkw_J_isLatin1 : Cond.methodLink RJ0 492 yJ0_isLatin1_aae02 ∈ W0 := w0_in (tb3_in (i := 50) (by decide +kernel)) rfl
theorem lkw_J_charAtL : Cond.methodLink RJ0 495 yJ1_charAt_3b067 ∈ W0 := w0_in (tb3_in (i := 54) (by decide +kernel)) rfl
theorem lkw_J_checkIndex : Cond.methodLink RJ1 9 yJ0_checkIndex_df160 ∈ W0 := w0_in (tb3_in (i := 57) (by decide +kernel)) rfl
theorem lkw_J_checkIndexP : Cond.methodLink RJ0 1059 yJ3_checkIndex_8e157 ∈ W0 := w0_in (tb3_in (i := 62) (by decide +kernel)) rfl
theorem flw_compact : Cond.fieldLink RJ0 38 "java/lang/String" "COMPACT_STRINGS" "Z" ∈ W0 := w0_in (tb3_in (i := 44) (by decide +kernel)) rfl
theorem flw_sioobe : Cond.fieldLink RJ0 1053 "jdk/internal/util/Preconditions" "SIOOBE_FORMATTER" "Ljava/util/function/BiFunction;" ∈ W0 := w0_in (tb3_in (i := 60) (by decide +kernel)) rfl
theorem flw_value : Cond.fieldLink RJ0 9 "java/lang/String" "value" "[B" ∈ W0 := w0_in (tb9_in (i := 14) (by decide +kernel)) rfl
theorem flw_coder : Cond.fieldLink RJ0 15 "java/lang/String" "coder" "B" ∈ W0 := w0_in (tb9_in (i := 15) (by decide +kernel)) rfl
