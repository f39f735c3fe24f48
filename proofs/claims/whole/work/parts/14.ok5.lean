/-! WHAT THE TABLES SAY, SHOWN BY THE KERNEL (made by wip/whole/gen13.py) -/
def mj_yok (y : Nat) : Bool := Nat.ble (mj_ml y) 13 && (plainFor (mj_nm y) && decide (mj_ow y = (mj_nm y).cls))
theorem mj_q_0 : mj_yok 0 = true := by decide +kernel
theorem mj_q_1 : mj_yok 1 = true := by decide +kernel
theorem mj_q_2 : mj_yok 2 = true := by decide +kernel
theorem mj_q_3 : mj_yok 3 = true := by decide +kernel
theorem mj_q_4 : mj_yok 4 = true := by decide +kernel
theorem mj_q_5 : mj_yok 5 = true := by decide +kernel
theorem mj_q_6 : mj_yok 6 = true := by decide +kernel
theorem mj_q_7 : mj_yok 7 = true := by decide +kernel
theorem mj_q_8 : mj_yok 8 = true := by decide +kernel
theorem mj_q_9 : mj_yok 9 = true := by decide +kernel
theorem mj_q_10 : mj_yok 10 = true := by decide +kernel
theorem mj_q_11 : mj_yok 11 = true := by decide +kernel
theorem mj_q_12 : mj_yok 12 = true := by decide +kernel
theorem mj_q_13 : mj_yok 13 = true := by decide +kernel
theorem mj_q_14 : mj_yok 14 = true := by decide +kernel
theorem mj_q_15 : mj_yok 15 = true := by decide +kernel
theorem mj_q_16 : mj_yok 16 = true := by decide +kernel
theorem mj_q_17 : mj_yok 17 = true := by decide +kernel
theorem mj_q_18 : mj_yok 18 = true := by decide +kernel
theorem mj_q_19 : mj_yok 19 = true := by decide +kernel
theorem mj_q_20 : mj_yok 20 = true := by decide +kernel
theorem mj_q_21 : mj_yok 21 = true := by decide +kernel
theorem mj_q_22 : mj_yok 22 = true := by decide +kernel
theorem mj_q_23 : mj_yok 23 = true := by decide +kernel
theorem mj_q_24 : mj_yok 24 = true := by decide +kernel
theorem mj_q_25 : mj_yok 25 = true := by decide +kernel
theorem mj_q_26 : mj_yok 26 = true := by decide +kernel
theorem mj_q_27 : mj_yok 27 = true := by decide +kernel
theorem mj_q_28 : mj_yok 28 = true := by decide +kernel
theorem mj_q_29 : mj_yok 29 = true := by decide +kernel
theorem mj_q_30 : mj_yok 30 = true := by decide +kernel
theorem mj_q_31 : mj_yok 31 = true := by decide +kernel
theorem mj_q_32 : mj_yok 32 = true := by decide +kernel
theorem mj_q_33 : mj_yok 33 = true := by decide +kernel
theorem mj_q_34 : mj_yok 34 = true := by decide +kernel
theorem mj_q_35 : mj_yok 35 = true := by decide +kernel
theorem mj_q_36 : mj_yok 36 = true := by decide +kernel
theorem mj_q_37 : mj_yok 37 = true := by decide +kernel
theorem mj_q_38 : mj_yok 38 = true := by decide +kernel
theorem mj_q_39 : mj_yok 39 = true := by decide +kernel
theorem mj_q_40 : mj_yok 40 = true := by decide +kernel
theorem mj_q_41 : mj_yok 41 = true := by decide +kernel
theorem mj_q_42 : mj_yok 42 = true := by decide +kernel
theorem mj_q_43 : mj_yok 43 = true := by decide +kernel
theorem mj_q_44 : mj_yok 44 = true := by decide +kernel
theorem mj_q_45 : mj_yok 45 = true := by decide +kernel
theorem mj_q_46 : mj_yok 46 = true := by decide +kernel
theorem mj_q_47 : mj_yok 47 = true := by decide +kernel
theorem mj_q_48 : mj_yok 48 = true := by decide +kernel
theorem mj_q_49 : mj_yok 49 = true := by decide +kernel
theorem mj_q_50 : mj_yok 50 = true := by decide +kernel
theorem mj_q_51 : mj_yok 51 = true := by decide +kernel
theorem mj_q_52 : mj_yok 52 = true := by decide +kernel
theorem mj_q_53 : mj_yok 53 = true := by decide +kernel
theorem mj_q_54 : mj_yok 54 = true := by decide +kernel
theorem mj_q_55 : mj_yok 55 = true := by decide +kernel
theorem mj_q_56 : mj_yok 56 = true := by decide +kernel
theorem mj_q_57 : mj_yok 57 = true := by decide +kernel
theorem mj_q_58 : mj_yok 58 = true := by decide +kernel
theorem mj_q_59 : mj_yok 59 = true := by decide +kernel
theorem mj_q_60 : mj_yok 60 = true := by decide +kernel
theorem mj_q_61 : mj_yok 61 = true := by decide +kernel
theorem mj_q_62 : mj_yok 62 = true := by decide +kernel
theorem mj_q_63 : mj_yok 63 = true := by decide +kernel
theorem mj_q_64 : mj_yok 64 = true := by decide +kernel
theorem mj_q_65 : mj_yok 65 = true := by decide +kernel
theorem mj_q_66 : mj_yok 66 = true := by decide +kernel
theorem mj_q_67 : mj_yok 67 = true := by decide +kernel
theorem mj_q_68 : mj_yok 68 = true := by decide +kernel
theorem mj_q_69 : mj_yok 69 = true := by decide +kernel
theorem mj_q_70 : mj_yok 70 = true := by decide +kernel
theorem mj_q_71 : mj_yok 71 = true := by decide +kernel
theorem mj_q_72 : mj_yok 72 = true := by decide +kernel
theorem mj_q_73 : mj_yok 73 = true := by decide +kernel
theorem mj_q_74 : mj_yok 74 = true := by decide +kernel
theorem mj_q_75 : mj_yok 75 = true := by decide +kernel
theorem mj_q_76 : mj_yok 76 = true := by decide +kernel
theorem mj_q_77 : mj_yok 77 = true := by decide +kernel
theorem mj_q_78 : mj_yok 78 = true := by decide +kernel
theorem mj_q_79 : mj_yok 79 = true := by decide +kernel
theorem mj_q_80 : mj_yok 80 = true := by decide +kernel
theorem mj_q_81 : mj_yok 81 = true := by decide +kernel
theorem mj_q_82 : mj_yok 82 = true := by decide +kernel
theorem mj_q_83 : mj_yok 83 = true := by decide +kernel
theorem mj_q_84 : mj_yok 84 = true := by decide +kernel
theorem mj_q_85 : mj_yok 85 = true := by decide +kernel
theorem mj_q_86 : mj_yok 86 = true := by decide +kernel
theorem mj_q_87 : mj_yok 87 = true := by decide +kernel
theorem mj_q_88 : mj_yok 88 = true := by decide +kernel
theorem mj_q_89 : mj_yok 89 = true := by decide +kernel
theorem mj_q_90 : mj_yok 90 = true := by decide +kernel
theorem mj_q_91 : mj_yok 91 = true := by decide +kernel
theorem mj_q_92 : mj_yok 92 = true := by decide +kernel
theorem mj_q_93 : mj_yok 93 = true := by decide +kernel
theorem mj_q_94 : mj_yok 94 = true := by decide +kernel
theorem mj_q_95 : mj_yok 95 = true := by decide +kernel
theorem mj_q_96 : mj_yok 96 = true := by decide +kernel
theorem mj_q_97 : mj_yok 97 = true := by decide +kernel
theorem mj_q_98 : mj_yok 98 = true := by decide +kernel
theorem mj_q_99 : mj_yok 99 = true := by decide +kernel
theorem mj_q_100 : mj_yok 100 = true := by decide +kernel
theorem mj_q_101 : mj_yok 101 = true := by decide +kernel
theorem mj_q_102 : mj_yok 102 = true := by decide +kernel
theorem mj_q_103 : mj_yok 103 = true := by decide +kernel
theorem mj_q_104 : mj_yok 104 = true := by decide +kernel
theorem mj_q_105 : mj_yok 105 = true := by decide +kernel
theorem mj_q_106 : mj_yok 106 = true := by decide +kernel
theorem mj_q_107 : mj_yok 107 = true := by decide +kernel
theorem mj_q_108 : mj_yok 108 = true := by decide +kernel
theorem mj_q_109 : mj_yok 109 = true := by decide +kernel
theorem mj_q_110 : mj_yok 110 = true := by decide +kernel
theorem mj_q_111 : mj_yok 111 = true := by decide +kernel
theorem mj_q_112 : mj_yok 112 = true := by decide +kernel
theorem mj_q_113 : mj_yok 113 = true := by decide +kernel
theorem mj_q_114 : mj_yok 114 = true := by decide +kernel
theorem mj_q_115 : mj_yok 115 = true := by decide +kernel
theorem mj_q_116 : mj_yok 116 = true := by decide +kernel
theorem mj_q_117 : mj_yok 117 = true := by decide +kernel
theorem mj_q_118 : mj_yok 118 = true := by decide +kernel
theorem mj_q_119 : mj_yok 119 = true := by decide +kernel
theorem mj_q_120 : mj_yok 120 = true := by decide +kernel
theorem mj_q_121 : mj_yok 121 = true := by decide +kernel
theorem mj_q_122 : mj_yok 122 = true := by decide +kernel
theorem mj_q_123 : mj_yok 123 = true := by decide +kernel
theorem mj_q_124 : mj_yok 124 = true := by decide +kernel
theorem mj_q_125 : mj_yok 125 = true := by decide +kernel
theorem mj_q_126 : mj_yok 126 = true := by decide +kernel
theorem mj_q_127 : mj_yok 127 = true := by decide +kernel
theorem mj_q_128 : mj_yok 128 = true := by decide +kernel
theorem mj_q_129 : mj_yok 129 = true := by decide +kernel
theorem mj_q_130 : mj_yok 130 = true := by decide +kernel
theorem mj_q_131 : mj_yok 131 = true := by decide +kernel
theorem mj_q_132 : mj_yok 132 = true := by decide +kernel
theorem mj_q_133 : mj_yok 133 = true := by decide +kernel
theorem mj_q_134 : mj_yok 134 = true := by decide +kernel
theorem mj_q_135 : mj_yok 135 = true := by decide +kernel
theorem mj_q_136 : mj_yok 136 = true := by decide +kernel
theorem mj_q_137 : mj_yok 137 = true := by decide +kernel
theorem mj_q_138 : mj_yok 138 = true := by decide +kernel
theorem mj_q_139 : mj_yok 139 = true := by decide +kernel
theorem mj_q_140 : mj_yok 140 = true := by decide +kernel
theorem mj_q_141 : mj_yok 141 = true := by decide +kernel
theorem mj_q_142 : mj_yok 142 = true := by decide +kernel
theorem mj_q_143 : mj_yok 143 = true := by decide +kernel
theorem mj_q_144 : mj_yok 144 = true := by decide +kernel
theorem mj_q_145 : mj_yok 145 = true := by decide +kernel
theorem mj_q_146 : mj_yok 146 = true := by decide +kernel
theorem mj_q_147 : mj_yok 147 = true := by decide +kernel
theorem mj_q_148 : mj_yok 148 = true := by decide +kernel
theorem mj_q_149 : mj_yok 149 = true := by decide +kernel
theorem mj_q_150 : mj_yok 150 = true := by decide +kernel
theorem mj_q_151 : mj_yok 151 = true := by decide +kernel
theorem mj_q_152 : mj_yok 152 = true := by decide +kernel
theorem mj_q_153 : mj_yok 153 = true := by decide +kernel
theorem mj_q_154 : mj_yok 154 = true := by decide +kernel
theorem mj_q_155 : mj_yok 155 = true := by decide +kernel
theorem mj_q_156 : mj_yok 156 = true := by decide +kernel
theorem mj_q_157 : mj_yok 157 = true := by decide +kernel
theorem mj_q_158 : mj_yok 158 = true := by decide +kernel
theorem mj_q_159 : mj_yok 159 = true := by decide +kernel
theorem mj_q_160 : mj_yok 160 = true := by decide +kernel
theorem mj_q_161 : mj_yok 161 = true := by decide +kernel
theorem mj_q_162 : mj_yok 162 = true := by decide +kernel
theorem mj_q_163 : mj_yok 163 = true := by decide +kernel
theorem mj_q_164 : mj_yok 164 = true := by decide +kernel
theorem mj_q_165 : mj_yok 165 = true := by decide +kernel
theorem mj_q_166 : mj_yok 166 = true := by decide +kernel
theorem mj_q_167 : mj_yok 167 = true := by decide +kernel
theorem mj_q_168 : mj_yok 168 = true := by decide +kernel
theorem mj_q_169 : mj_yok 169 = true := by decide +kernel
theorem mj_q_170 : mj_yok 170 = true := by decide +kernel
theorem mj_q_171 : mj_yok 171 = true := by decide +kernel
theorem mj_q_172 : mj_yok 172 = true := by decide +kernel
theorem mj_q_173 : mj_yok 173 = true := by decide +kernel
theorem mj_q_174 : mj_yok 174 = true := by decide +kernel
theorem mj_q_175 : mj_yok 175 = true := by decide +kernel
theorem mj_q_176 : mj_yok 176 = true := by decide +kernel
theorem mj_q_177 : mj_yok 177 = true := by decide +kernel
theorem mj_q_178 : mj_yok 178 = true := by decide +kernel
theorem mj_q_179 : mj_yok 179 = true := by decide +kernel
theorem mj_q_180 : mj_yok 180 = true := by decide +kernel
theorem mj_q_181 : mj_yok 181 = true := by decide +kernel
theorem mj_q_182 : mj_yok 182 = true := by decide +kernel
theorem mj_q_183 : mj_yok 183 = true := by decide +kernel
theorem mj_q_184 : mj_yok 184 = true := by decide +kernel
theorem mj_q_185 : mj_yok 185 = true := by decide +kernel
theorem mj_q_186 : mj_yok 186 = true := by decide +kernel
theorem mj_q_187 : mj_yok 187 = true := by decide +kernel
theorem mj_q_188 : mj_yok 188 = true := by decide +kernel
theorem mj_q_189 : mj_yok 189 = true := by decide +kernel
theorem mj_q_190 : mj_yok 190 = true := by decide +kernel
theorem mj_q_191 : mj_yok 191 = true := by decide +kernel
theorem mj_q_192 : mj_yok 192 = true := by decide +kernel
theorem mj_q_193 : mj_yok 193 = true := by decide +kernel
theorem mj_q_194 : mj_yok 194 = true := by decide +kernel
theorem mj_q_195 : mj_yok 195 = true := by decide +kernel
theorem mj_q_196 : mj_yok 196 = true := by decide +kernel
theorem mj_q_197 : mj_yok 197 = true := by decide +kernel
theorem mj_q_198 : mj_yok 198 = true := by decide +kernel
theorem mj_q_199 : mj_yok 199 = true := by decide +kernel
theorem mj_q_200 : mj_yok 200 = true := by decide +kernel
theorem mj_q_201 : mj_yok 201 = true := by decide +kernel
theorem mj_q_202 : mj_yok 202 = true := by decide +kernel
theorem mj_q_203 : mj_yok 203 = true := by decide +kernel
theorem mj_q_204 : mj_yok 204 = true := by decide +kernel
theorem mj_q_205 : mj_yok 205 = true := by decide +kernel
theorem mj_q_206 : mj_yok 206 = true := by decide +kernel
theorem mj_q_207 : mj_yok 207 = true := by decide +kernel
theorem mj_q_208 : mj_yok 208 = true := by decide +kernel
theorem mj_q_209 : mj_yok 209 = true := by decide +kernel
theorem mj_q_210 : mj_yok 210 = true := by decide +kernel
theorem mj_q_211 : mj_yok 211 = true := by decide +kernel
theorem mj_q_212 : mj_yok 212 = true := by decide +kernel
theorem mj_q_213 : mj_yok 213 = true := by decide +kernel
theorem mj_q_214 : mj_yok 214 = true := by decide +kernel
theorem mj_q_215 : mj_yok 215 = true := by decide +kernel
theorem mj_q_216 : mj_yok 216 = true := by decide +kernel
theorem mj_q_217 : mj_yok 217 = true := by decide +kernel
theorem mj_q_218 : mj_yok 218 = true := by decide +kernel
theorem mj_q_219 : mj_yok 219 = true := by decide +kernel
theorem mj_q_220 : mj_yok 220 = true := by decide +kernel
theorem mj_q_221 : mj_yok 221 = true := by decide +kernel
theorem mj_q_222 : mj_yok 222 = true := by decide +kernel
theorem mj_q_223 : mj_yok 223 = true := by decide +kernel
theorem mj_q_224 : mj_yok 224 = true := by decide +kernel
theorem mj_q_225 : mj_yok 225 = true := by decide +kernel
theorem mj_q_226 : mj_yok 226 = true := by decide +kernel
theorem mj_q_227 : mj_yok 227 = true := by decide +kernel
theorem mj_q_228 : mj_yok 228 = true := by decide +kernel
theorem mj_q_229 : mj_yok 229 = true := by decide +kernel
theorem mj_q_230 : mj_yok 230 = true := by decide +kernel
theorem mj_q_231 : mj_yok 231 = true := by decide +kernel
theorem mj_q_232 : mj_yok 232 = true := by decide +kernel
theorem mj_q_233 : mj_yok 233 = true := by decide +kernel
theorem mj_q_234 : mj_yok 234 = true := by decide +kernel
theorem mj_q_235 : mj_yok 235 = true := by decide +kernel
theorem mj_q_236 : mj_yok 236 = true := by decide +kernel
theorem mj_q_237 : mj_yok 237 = true := by decide +kernel
theorem mj_q_238 : mj_yok 238 = true := by decide +kernel
theorem mj_q_239 : mj_yok 239 = true := by decide +kernel
theorem mj_q_240 : mj_yok 240 = true := by decide +kernel
theorem mj_q_241 : mj_yok 241 = true := by decide +kernel
theorem mj_q_242 : mj_yok 242 = true := by decide +kernel
theorem mj_q_243 : mj_yok 243 = true := by decide +kernel
theorem mj_q_244 : mj_yok 244 = true := by decide +kernel
theorem mj_q_245 : mj_yok 245 = true := by decide +kernel
theorem mj_q_246 : mj_yok 246 = true := by decide +kernel
theorem mj_q_247 : mj_yok 247 = true := by decide +kernel
theorem mj_q_248 : mj_yok 248 = true := by decide +kernel
theorem mj_q_249 : mj_yok 249 = true := by decide +kernel
theorem mj_q_250 : mj_yok 250 = true := by decide +kernel
theorem mj_q_251 : mj_yok 251 = true := by decide +kernel
theorem mj_q_252 : mj_yok 252 = true := by decide +kernel
theorem mj_q_253 : mj_yok 253 = true := by decide +kernel
theorem mj_q_254 : mj_yok 254 = true := by decide +kernel
theorem mj_q_255 : mj_yok 255 = true := by decide +kernel
theorem mj_q_256 : mj_yok 256 = true := by decide +kernel
theorem mj_q_257 : mj_yok 257 = true := by decide +kernel
theorem mj_q_258 : mj_yok 258 = true := by decide +kernel
theorem mj_q_259 : mj_yok 259 = true := by decide +kernel
theorem mj_q_260 : mj_yok 260 = true := by decide +kernel
theorem mj_q_261 : mj_yok 261 = true := by decide +kernel
theorem mj_q_262 : mj_yok 262 = true := by decide +kernel
theorem mj_q_263 : mj_yok 263 = true := by decide +kernel
theorem mj_q_264 : mj_yok 264 = true := by decide +kernel
theorem mj_q_265 : mj_yok 265 = true := by decide +kernel
theorem mj_q_266 : mj_yok 266 = true := by decide +kernel
theorem mj_q_267 : mj_yok 267 = true := by decide +kernel
theorem mj_q_268 : mj_yok 268 = true := by decide +kernel
theorem mj_q_269 : mj_yok 269 = true := by decide +kernel
theorem mj_q_270 : mj_yok 270 = true := by decide +kernel
theorem mj_q_271 : mj_yok 271 = true := by decide +kernel
theorem mj_q_272 : mj_yok 272 = true := by decide +kernel
theorem mj_q_273 : mj_yok 273 = true := by decide +kernel
theorem mj_q_274 : mj_yok 274 = true := by decide +kernel
theorem mj_q_275 : mj_yok 275 = true := by decide +kernel
theorem mj_q_276 : mj_yok 276 = true := by decide +kernel
theorem mj_q_277 : mj_yok 277 = true := by decide +kernel
theorem mj_q_278 : mj_yok 278 = true := by decide +kernel
theorem mj_q_279 : mj_yok 279 = true := by decide +kernel
theorem mj_q_280 : mj_yok 280 = true := by decide +kernel
theorem mj_q_281 : mj_yok 281 = true := by decide +kernel
theorem mj_q_282 : mj_yok 282 = true := by decide +kernel
theorem mj_q_283 : mj_yok 283 = true := by decide +kernel
theorem mj_q_284 : mj_yok 284 = true := by decide +kernel
set_option maxRecDepth 100000 in
theorem mj_r_0 : Cond.code (mj_nm 0) (mj_by 0) (mj_ml 0) (mj_rt 0) ∈ mj_tb := List.mem_filter.mpr ⟨mj_cks_in (i := 8) (j := 26) (by rfl), rfl⟩
set_option maxRecDepth 100000 in
theorem mj_r_1 : Cond.code (mj_nm 1) (mj_by 1) (mj_ml 1) (mj_rt 1) ∈ mj_tb := List.mem_filter.mpr ⟨mj_cks_in (i := 10) (j := 7) (by rfl), rfl⟩
set_option maxRecDepth 100000 in
theorem mj_r_2 : Cond.code (mj_nm 2) (mj_by 2) (mj_ml 2) (mj_rt 2) ∈ mj_tb := List.mem_filter.mpr ⟨mj_cks_in (i := 10) (j := 11) (by rfl), rfl⟩
set_option maxRecDepth 100000 in
theorem mj_r_3 : Cond.code (mj_nm 3) (mj_by 3) (mj_ml 3) (mj_rt 3) ∈ mj_tb := List.mem_filter.mpr ⟨mj_cks_in (i := 10) (j := 16) (by rfl), rfl⟩
set_option maxRecDepth 100000 in
theorem mj_r_4 : Cond.code (mj_nm 4) (mj_by 4) (mj_ml 4) (mj_rt 4) ∈ mj_tb := List.mem_filter.mpr ⟨mj_cks_in (i := 10) (j := 214) (by rfl), rfl⟩
set_option maxRecDepth 100000 in
theorem mj_r_5 : Cond.code (mj_nm 5) (mj_by 5) (mj_ml 5) (mj_rt 5) ∈ mj_tb := List.mem_filter.mpr ⟨mj_cks_in (i := 10) (j := 218) (by rfl), rfl⟩
set_option maxRecDepth 100000 in
theorem mj_r_6 : Cond.code (mj_nm 6) (mj_by 6) (mj_ml 6) (mj_rt 6) ∈ mj_tb := List.mem_filter.mpr ⟨mj_cks_in (i := 12) (j := 149) (by rfl), rfl⟩
set_option maxRecDepth 100000 in
theorem mj_r_7 : Cond.code (mj_nm 7) (mj_by 7) (mj_ml 7) (mj_rt 7) ∈ mj_tb := List.mem_filter.mpr ⟨mj_cks_in (i := 12) (j := 219) (by rfl), rfl⟩
set_option maxRecDepth 100000 in
theorem mj_r_8 : Cond.code (mj_nm 8) (mj_by 8) (mj_ml 8) (mj_rt 8) ∈ mj_tb := List.mem_filter.mpr ⟨mj_cks_in (i := 10) (j := 223) (by rfl), rfl⟩
set_option maxRecDepth 100000 in
theorem mj_r_9 : Cond.code (mj_nm 9) (mj_by 9) (mj_ml 9) (mj_rt 9) ∈ mj_tb := List.mem_filter.mpr ⟨mj_cks_in (i := 10) (j := 231) (by rfl), rfl⟩
set_option maxRecDepth 100000 in
theorem mj_r_10 : Cond.code (mj_nm 10) (mj_by 10) (mj_ml 10) (mj_rt 10) ∈ mj_tb := List.mem_filter.mpr ⟨mj_cks_in (i := 11) (j := 0) (by rfl), rfl⟩
set_option maxRecDepth 100000 in
theorem mj_r_11 : Cond.code (mj_nm 11) (mj_by 11) (mj_ml 11) (mj_rt 11) ∈ mj_tb := List.mem_filter.mpr ⟨mj_cks_in (i := 11) (j := 17) (by rfl), rfl⟩
set_option maxRecDepth 100000 in
theorem mj_r_12 : Cond.code (mj_nm 12) (mj_by 12) (mj_ml 12) (mj_rt 12) ∈ mj_tb := List.mem_filter.mpr ⟨mj_cks_in (i := 11) (j := 60) (by rfl), rfl⟩
set_option maxRecDepth 100000 in
theorem mj_r_13 : Cond.code (mj_nm 13) (mj_by 13) (mj_ml 13) (mj_rt 13) ∈ mj_tb := List.mem_filter.mpr ⟨mj_cks_in (i := 11) (j := 74) (by rfl), rfl⟩
set_option maxRecDepth 100000 in
theorem mj_r_14 : Cond.code (mj_nm 14) (mj_by 14) (mj_ml 14) (mj_rt 14) ∈ mj_tb := List.mem_filter.mpr ⟨mj_cks_in (i := 11) (j := 78) (by rfl), rfl⟩
set_option maxRecDepth 100000 in
theorem mj_r_15 : Cond.code (mj_nm 15) (mj_by 15) (mj_ml 15) (mj_rt 15) ∈ mj_tb := List.mem_filter.mpr ⟨mj_cks_in (i := 11) (j := 87) (by rfl), rfl⟩
set_option maxRecDepth 100000 in
theorem mj_r_16 : Cond.code (mj_nm 16) (mj_by 16) (mj_ml 16) (mj_rt 16) ∈ mj_tb := List.mem_filter.mpr ⟨mj_cks_in (i := 11) (j := 95) (by rfl), rfl⟩
set_option maxRecDepth 100000 in
theorem mj_r_17 : Cond.code (mj_nm 17) (mj_by 17) (mj_ml 17) (mj_rt 17) ∈ mj_tb := List.mem_filter.mpr ⟨mj_cks_in (i := 11) (j := 155) (by rfl), rfl⟩
set_option maxRecDepth 100000 in
theorem mj_r_18 : Cond.code (mj_nm 18) (mj_by 18) (mj_ml 18) (mj_rt 18) ∈ mj_tb := List.mem_filter.mpr ⟨mj_cks_in (i := 11) (j := 164) (by rfl), rfl⟩
set_option maxRecDepth 100000 in
theorem mj_r_19 : Cond.code (mj_nm 19) (mj_by 19) (mj_ml 19) (mj_rt 19) ∈ mj_tb := List.mem_filter.mpr ⟨mj_cks_in (i := 11) (j := 178) (by rfl), rfl⟩
set_option maxRecDepth 100000 in
theorem mj_r_20 : Cond.code (mj_nm 20) (mj_by 20) (mj_ml 20) (mj_rt 20) ∈ mj_tb := List.mem_filter.mpr ⟨mj_cks_in (i := 11) (j := 183) (by rfl), rfl⟩
set_option maxRecDepth 100000 in
theorem mj_r_21 : Cond.code (mj_nm 21) (mj_by 21) (mj_ml 21) (mj_rt 21) ∈ mj_tb := List.mem_filter.mpr ⟨mj_cks_in (i := 11) (j := 187) (by rfl), rfl⟩
set_option maxRecDepth 100000 in
theorem mj_r_22 : Cond.code (mj_nm 22) (mj_by 22) (mj_ml 22) (mj_rt 22) ∈ mj_tb := List.mem_filter.mpr ⟨mj_cks_in (i := 11) (j := 191) (by rfl), rfl⟩
set_option maxRecDepth 100000 in
theorem mj_r_23 : Cond.code (mj_nm 23) (mj_by 23) (mj_ml 23) (mj_rt 23) ∈ mj_tb := List.mem_filter.mpr ⟨mj_cks_in (i := 11) (j := 199) (by rfl), rfl⟩
set_option maxRecDepth 100000 in
theorem mj_r_24 : Cond.code (mj_nm 24) (mj_by 24) (mj_ml 24) (mj_rt 24) ∈ mj_tb := List.mem_filter.mpr ⟨mj_cks_in (i := 11) (j := 206) (by rfl), rfl⟩
set_option maxRecDepth 100000 in
theorem mj_r_25 : Cond.code (mj_nm 25) (mj_by 25) (mj_ml 25) (mj_rt 25) ∈ mj_tb := List.mem_filter.mpr ⟨mj_cks_in (i := 11) (j := 210) (by rfl), rfl⟩
set_option maxRecDepth 100000 in
theorem mj_r_26 : Cond.code (mj_nm 26) (mj_by 26) (mj_ml 26) (mj_rt 26) ∈ mj_tb := List.mem_filter.mpr ⟨mj_cks_in (i := 11) (j := 219) (by rfl), rfl⟩
set_option maxRecDepth 100000 in
theorem mj_r_27 : Cond.code (mj_nm 27) (mj_by 27) (mj_ml 27) (mj_rt 27) ∈ mj_tb := List.mem_filter.mpr ⟨mj_cks_in (i := 11) (j := 224) (by rfl), rfl⟩
set_option maxRecDepth 100000 in
theorem mj_r_28 : Cond.code (mj_nm 28) (mj_by 28) (mj_ml 28) (mj_rt 28) ∈ mj_tb := List.mem_filter.mpr ⟨mj_cks_in (i := 11) (j := 232) (by rfl), rfl⟩
set_option maxRecDepth 100000 in
theorem mj_r_29 : Cond.code (mj_nm 29) (mj_by 29) (mj_ml 29) (mj_rt 29) ∈ mj_tb := List.mem_filter.mpr ⟨mj_cks_in (i := 12) (j := 6) (by rfl), rfl⟩
set_option maxRecDepth 100000 in
theorem mj_r_30 : Cond.code (mj_nm 30) (mj_by 30) (mj_ml 30) (mj_rt 30) ∈ mj_tb := List.mem_filter.mpr ⟨mj_cks_in (i := 11) (j := 235) (by rfl), rfl⟩
set_option maxRecDepth 100000 in
theorem mj_r_31 : Cond.code (mj_nm 31) (mj_by 31) (mj_ml 31) (mj_rt 31) ∈ mj_tb := List.mem_filter.mpr ⟨mj_cks_in (i := 11) (j := 238) (by rfl), rfl⟩
set_option maxRecDepth 100000 in
theorem mj_r_32 : Cond.code (mj_nm 32) (mj_by 32) (mj_ml 32) (mj_rt 32) ∈ mj_tb := List.mem_filter.mpr ⟨mj_cks_in (i := 12) (j := 10) (by rfl), rfl⟩
set_option maxRecDepth 100000 in
theorem mj_r_33 : Cond.code (mj_nm 33) (mj_by 33) (mj_ml 33) (mj_rt 33) ∈ mj_tb := List.mem_filter.mpr ⟨mj_cks_in (i := 12) (j := 14) (by rfl), rfl⟩
set_option maxRecDepth 100000 in
theorem mj_r_34 : Cond.code (mj_nm 34) (mj_by 34) (mj_ml 34) (mj_rt 34) ∈ mj_tb := List.mem_filter.mpr ⟨mj_cks_in (i := 12) (j := 18) (by rfl), rfl⟩
set_option maxRecDepth 100000 in
theorem mj_r_35 : Cond.code (mj_nm 35) (mj_by 35) (mj_ml 35) (mj_rt 35) ∈ mj_tb := List.mem_filter.mpr ⟨mj_cks_in (i := 12) (j := 22) (by rfl), rfl⟩
set_option maxRecDepth 100000 in
theorem mj_r_36 : Cond.code (mj_nm 36) (mj_by 36) (mj_ml 36) (mj_rt 36) ∈ mj_tb := List.mem_filter.mpr ⟨mj_cks_in (i := 12) (j := 28) (by rfl), rfl⟩
set_option maxRecDepth 100000 in
theorem mj_r_37 : Cond.code (mj_nm 37) (mj_by 37) (mj_ml 37) (mj_rt 37) ∈ mj_tb := List.mem_filter.mpr ⟨mj_cks_in (i := 12) (j := 32) (by rfl), rfl⟩
set_option maxRecDepth 100000 in
theorem mj_r_38 : Cond.code (mj_nm 38) (mj_by 38) (mj_ml 38) (mj_rt 38) ∈ mj_tb := List.mem_filter.mpr ⟨mj_cks_in (i := 12) (j := 36) (by rfl), rfl⟩
set_option maxRecDepth 100000 in
theorem mj_r_39 : Cond.code (mj_nm 39) (mj_by 39) (mj_ml 39) (mj_rt 39) ∈ mj_tb := List.mem_filter.mpr ⟨mj_cks_in (i := 12) (j := 44) (by rfl), rfl⟩
set_option maxRecDepth 100000 in
theorem mj_r_40 : Cond.code (mj_nm 40) (mj_by 40) (mj_ml 40) (mj_rt 40) ∈ mj_tb := List.mem_filter.mpr ⟨mj_cks_in (i := 12) (j := 49) (by rfl), rfl⟩
set_option maxRecDepth 100000 in
theorem mj_r_41 : Cond.code (mj_nm 41) (mj_by 41) (mj_ml 41) (mj_rt 41) ∈ mj_tb := List.mem_filter.mpr ⟨mj_cks_in (i := 12) (j := 55) (by rfl), rfl⟩
set_option maxRecDepth 100000 in
theorem mj_r_42 : Cond.code (mj_nm 42) (mj_by 42) (mj_ml 42) (mj_rt 42) ∈ mj_tb := List.mem_filter.mpr ⟨mj_cks_in (i := 12) (j := 59) (by rfl), rfl⟩
set_option maxRecDepth 100000 in
theorem mj_r_43 : Cond.code (mj_nm 43) (mj_by 43) (mj_ml 43) (mj_rt 43) ∈ mj_tb := List.mem_filter.mpr ⟨mj_cks_in (i := 12) (j := 69) (by rfl), rfl⟩
set_option maxRecDepth 100000 in
theorem mj_r_44 : Cond.code (mj_nm 44) (mj_by 44) (mj_ml 44) (mj_rt 44) ∈ mj_tb := List.mem_filter.mpr ⟨mj_cks_in (i := 12) (j := 77) (by rfl), rfl⟩
set_option maxRecDepth 100000 in
theorem mj_r_45 : Cond.code (mj_nm 45) (mj_by 45) (mj_ml 45) (mj_rt 45) ∈ mj_tb := List.mem_filter.mpr ⟨mj_cks_in (i := 12) (j := 81) (by rfl), rfl⟩
set_option maxRecDepth 100000 in
theorem mj_r_46 : Cond.code (mj_nm 46) (mj_by 46) (mj_ml 46) (mj_rt 46) ∈ mj_tb := List.mem_filter.mpr ⟨mj_cks_in (i := 12) (j := 100) (by rfl), rfl⟩
set_option maxRecDepth 100000 in
theorem mj_r_47 : Cond.code (mj_nm 47) (mj_by 47) (mj_ml 47) (mj_rt 47) ∈ mj_tb := List.mem_filter.mpr ⟨mj_cks_in (i := 12) (j := 108) (by rfl), rfl⟩
set_option maxRecDepth 100000 in
theorem mj_r_48 : Cond.code (mj_nm 48) (mj_by 48) (mj_ml 48) (mj_rt 48) ∈ mj_tb := List.mem_filter.mpr ⟨mj_cks_in (i := 12) (j := 112) (by rfl), rfl⟩
set_option maxRecDepth 100000 in
theorem mj_r_49 : Cond.code (mj_nm 49) (mj_by 49) (mj_ml 49) (mj_rt 49) ∈ mj_tb := List.mem_filter.mpr ⟨mj_cks_in (i := 12) (j := 117) (by rfl), rfl⟩
set_option maxRecDepth 100000 in
theorem mj_r_50 : Cond.code (mj_nm 50) (mj_by 50) (mj_ml 50) (mj_rt 50) ∈ mj_tb := List.mem_filter.mpr ⟨mj_cks_in (i := 12) (j := 126) (by rfl), rfl⟩
set_option maxRecDepth 100000 in
theorem mj_r_51 : Cond.code (mj_nm 51) (mj_by 51) (mj_ml 51) (mj_rt 51) ∈ mj_tb := List.mem_filter.mpr ⟨mj_cks_in (i := 12) (j := 130) (by rfl), rfl⟩
set_option maxRecDepth 100000 in
theorem mj_r_52 : Cond.code (mj_nm 52) (mj_by 52) (mj_ml 52) (mj_rt 52) ∈ mj_tb := List.mem_filter.mpr ⟨mj_cks_in (i := 12) (j := 134) (by rfl), rfl⟩
set_option maxRecDepth 100000 in
theorem mj_r_53 : Cond.code (mj_nm 53) (mj_by 53) (mj_ml 53) (mj_rt 53) ∈ mj_tb := List.mem_filter.mpr ⟨mj_cks_in (i := 11) (j := 82) (by rfl), rfl⟩
set_option maxRecDepth 100000 in
theorem mj_r_54 : Cond.code (mj_nm 54) (mj_by 54) (mj_ml 54) (mj_rt 54) ∈ mj_tb := List.mem_filter.mpr ⟨mj_cks_in (i := 10) (j := 100) (by rfl), rfl⟩
set_option maxRecDepth 100000 in
theorem mj_r_55 : Cond.code (mj_nm 55) (mj_by 55) (mj_ml 55) (mj_rt 55) ∈ mj_tb := List.mem_filter.mpr ⟨mj_cks_in (i := 10) (j := 127) (by rfl), rfl⟩
set_option maxRecDepth 100000 in
theorem mj_r_56 : Cond.code (mj_nm 56) (mj_by 56) (mj_ml 56) (mj_rt 56) ∈ mj_tb := List.mem_filter.mpr ⟨mj_cks_in (i := 11) (j := 202) (by rfl), rfl⟩
set_option maxRecDepth 100000 in
theorem mj_r_57 : Cond.code (mj_nm 57) (mj_by 57) (mj_ml 57) (mj_rt 57) ∈ mj_tb := List.mem_filter.mpr ⟨mj_cks_in (i := 9) (j := 199) (by rfl), rfl⟩
set_option maxRecDepth 100000 in
theorem mj_r_58 : Cond.code (mj_nm 58) (mj_by 58) (mj_ml 58) (mj_rt 58) ∈ mj_tb := List.mem_filter.mpr ⟨mj_cks_in (i := 8) (j := 216) (by rfl), rfl⟩
set_option maxRecDepth 100000 in
theorem mj_r_59 : Cond.code (mj_nm 59) (mj_by 59) (mj_ml 59) (mj_rt 59) ∈ mj_tb := List.mem_filter.mpr ⟨mj_cks_in (i := 8) (j := 42) (by rfl), rfl⟩
set_option maxRecDepth 100000 in
theorem mj_r_60 : Cond.code (mj_nm 60) (mj_by 60) (mj_ml 60) (mj_rt 60) ∈ mj_tb := List.mem_filter.mpr ⟨mj_cks_in (i := 11) (j := 151) (by rfl), rfl⟩
set_option maxRecDepth 100000 in
theorem mj_r_61 : Cond.code (mj_nm 61) (mj_by 61) (mj_ml 61) (mj_rt 61) ∈ mj_tb := List.mem_filter.mpr ⟨mj_cks_in (i := 10) (j := 36) (by rfl), rfl⟩
set_option maxRecDepth 100000 in
theorem mj_r_62 : Cond.code (mj_nm 62) (mj_by 62) (mj_ml 62) (mj_rt 62) ∈ mj_tb := List.mem_filter.mpr ⟨mj_cks_in (i := 8) (j := 34) (by rfl), rfl⟩
set_option maxRecDepth 100000 in
theorem mj_r_63 : Cond.code (mj_nm 63) (mj_by 63) (mj_ml 63) (mj_rt 63) ∈ mj_tb := List.mem_filter.mpr ⟨mj_cks_in (i := 8) (j := 39) (by rfl), rfl⟩
set_option maxRecDepth 100000 in
theorem mj_r_64 : Cond.code (mj_nm 64) (mj_by 64) (mj_ml 64) (mj_rt 64) ∈ mj_tb := List.mem_filter.mpr ⟨mj_cks_in (i := 10) (j := 235) (by rfl), rfl⟩
set_option maxRecDepth 100000 in
theorem mj_r_65 : Cond.code (mj_nm 65) (mj_by 65) (mj_ml 65) (mj_rt 65) ∈ mj_tb := List.mem_filter.mpr ⟨mj_cks_in (i := 10) (j := 227) (by rfl), rfl⟩
set_option maxRecDepth 100000 in
theorem mj_r_66 : Cond.code (mj_nm 66) (mj_by 66) (mj_ml 66) (mj_rt 66) ∈ mj_tb := List.mem_filter.mpr ⟨mj_cks_in (i := 10) (j := 123) (by rfl), rfl⟩
set_option maxRecDepth 100000 in
theorem mj_r_67 : Cond.code (mj_nm 67) (mj_by 67) (mj_ml 67) (mj_rt 67) ∈ mj_tb := List.mem_filter.mpr ⟨mj_cks_in (i := 10) (j := 131) (by rfl), rfl⟩
set_option maxRecDepth 100000 in
theorem mj_r_68 : Cond.code (mj_nm 68) (mj_by 68) (mj_ml 68) (mj_rt 68) ∈ mj_tb := List.mem_filter.mpr ⟨mj_cks_in (i := 10) (j := 109) (by rfl), rfl⟩
set_option maxRecDepth 100000 in
theorem mj_r_69 : Cond.code (mj_nm 69) (mj_by 69) (mj_ml 69) (mj_rt 69) ∈ mj_tb := List.mem_filter.mpr ⟨mj_cks_in (i := 10) (j := 198) (by rfl), rfl⟩
set_option maxRecDepth 100000 in
theorem mj_r_70 : Cond.code (mj_nm 70) (mj_by 70) (mj_ml 70) (mj_rt 70) ∈ mj_tb := List.mem_filter.mpr ⟨mj_cks_in (i := 11) (j := 228) (by rfl), rfl⟩
set_option maxRecDepth 100000 in
theorem mj_r_71 : Cond.code (mj_nm 71) (mj_by 71) (mj_ml 71) (mj_rt 71) ∈ mj_tb := List.mem_filter.mpr ⟨mj_cks_in (i := 11) (j := 215) (by rfl), rfl⟩
set_option maxRecDepth 100000 in
theorem mj_r_72 : Cond.code (mj_nm 72) (mj_by 72) (mj_ml 72) (mj_rt 72) ∈ mj_tb := List.mem_filter.mpr ⟨mj_cks_in (i := 8) (j := 157) (by rfl), rfl⟩
set_option maxRecDepth 100000 in
theorem mj_r_73 : Cond.code (mj_nm 73) (mj_by 73) (mj_ml 73) (mj_rt 73) ∈ mj_tb := List.mem_filter.mpr ⟨mj_cks_in (i := 10) (j := 20) (by rfl), rfl⟩
set_option maxRecDepth 100000 in
theorem mj_r_74 : Cond.code (mj_nm 74) (mj_by 74) (mj_ml 74) (mj_rt 74) ∈ mj_tb := List.mem_filter.mpr ⟨mj_cks_in (i := 10) (j := 79) (by rfl), rfl⟩
set_option maxRecDepth 100000 in
theorem mj_r_75 : Cond.code (mj_nm 75) (mj_by 75) (mj_ml 75) (mj_rt 75) ∈ mj_tb := List.mem_filter.mpr ⟨mj_cks_in (i := 10) (j := 88) (by rfl), rfl⟩
set_option maxRecDepth 100000 in
theorem mj_r_76 : Cond.code (mj_nm 76) (mj_by 76) (mj_ml 76) (mj_rt 76) ∈ mj_tb := List.mem_filter.mpr ⟨mj_cks_in (i := 10) (j := 93) (by rfl), rfl⟩
set_option maxRecDepth 100000 in
theorem mj_r_77 : Cond.code (mj_nm 77) (mj_by 77) (mj_ml 77) (mj_rt 77) ∈ mj_tb := List.mem_filter.mpr ⟨mj_cks_in (i := 10) (j := 67) (by rfl), rfl⟩
set_option maxRecDepth 100000 in
theorem mj_r_78 : Cond.code (mj_nm 78) (mj_by 78) (mj_ml 78) (mj_rt 78) ∈ mj_tb := List.mem_filter.mpr ⟨mj_cks_in (i := 10) (j := 75) (by rfl), rfl⟩
set_option maxRecDepth 100000 in
theorem mj_r_79 : Cond.code (mj_nm 79) (mj_by 79) (mj_ml 79) (mj_rt 79) ∈ mj_tb := List.mem_filter.mpr ⟨mj_cks_in (i := 10) (j := 71) (by rfl), rfl⟩
set_option maxRecDepth 100000 in
theorem mj_r_80 : Cond.code (mj_nm 80) (mj_by 80) (mj_ml 80) (mj_rt 80) ∈ mj_tb := List.mem_filter.mpr ⟨mj_cks_in (i := 10) (j := 105) (by rfl), rfl⟩
set_option maxRecDepth 100000 in
theorem mj_r_81 : Cond.code (mj_nm 81) (mj_by 81) (mj_ml 81) (mj_rt 81) ∈ mj_tb := List.mem_filter.mpr ⟨mj_cks_in (i := 10) (j := 136) (by rfl), rfl⟩
set_option maxRecDepth 100000 in
theorem mj_r_82 : Cond.code (mj_nm 82) (mj_by 82) (mj_ml 82) (mj_rt 82) ∈ mj_tb := List.mem_filter.mpr ⟨mj_cks_in (i := 10) (j := 140) (by rfl), rfl⟩
set_option maxRecDepth 100000 in
theorem mj_r_83 : Cond.code (mj_nm 83) (mj_by 83) (mj_ml 83) (mj_rt 83) ∈ mj_tb := List.mem_filter.mpr ⟨mj_cks_in (i := 10) (j := 144) (by rfl), rfl⟩
set_option maxRecDepth 100000 in
theorem mj_r_84 : Cond.code (mj_nm 84) (mj_by 84) (mj_ml 84) (mj_rt 84) ∈ mj_tb := List.mem_filter.mpr ⟨mj_cks_in (i := 10) (j := 148) (by rfl), rfl⟩
set_option maxRecDepth 100000 in
theorem mj_r_85 : Cond.code (mj_nm 85) (mj_by 85) (mj_ml 85) (mj_rt 85) ∈ mj_tb := List.mem_filter.mpr ⟨mj_cks_in (i := 10) (j := 154) (by rfl), rfl⟩
set_option maxRecDepth 100000 in
theorem mj_r_86 : Cond.code (mj_nm 86) (mj_by 86) (mj_ml 86) (mj_rt 86) ∈ mj_tb := List.mem_filter.mpr ⟨mj_cks_in (i := 10) (j := 97) (by rfl), rfl⟩
set_option maxRecDepth 100000 in
theorem mj_r_87 : Cond.code (mj_nm 87) (mj_by 87) (mj_ml 87) (mj_rt 87) ∈ mj_tb := List.mem_filter.mpr ⟨mj_cks_in (i := 10) (j := 84) (by rfl), rfl⟩
set_option maxRecDepth 100000 in
theorem mj_r_88 : Cond.code (mj_nm 88) (mj_by 88) (mj_ml 88) (mj_rt 88) ∈ mj_tb := List.mem_filter.mpr ⟨mj_cks_in (i := 10) (j := 119) (by rfl), rfl⟩
set_option maxRecDepth 100000 in
theorem mj_r_89 : Cond.code (mj_nm 89) (mj_by 89) (mj_ml 89) (mj_rt 89) ∈ mj_tb := List.mem_filter.mpr ⟨mj_cks_in (i := 10) (j := 170) (by rfl), rfl⟩
set_option maxRecDepth 100000 in
theorem mj_r_90 : Cond.code (mj_nm 90) (mj_by 90) (mj_ml 90) (mj_rt 90) ∈ mj_tb := List.mem_filter.mpr ⟨mj_cks_in (i := 10) (j := 194) (by rfl), rfl⟩
set_option maxRecDepth 100000 in
theorem mj_r_91 : Cond.code (mj_nm 91) (mj_by 91) (mj_ml 91) (mj_rt 91) ∈ mj_tb := List.mem_filter.mpr ⟨mj_cks_in (i := 10) (j := 158) (by rfl), rfl⟩
set_option maxRecDepth 100000 in
theorem mj_r_92 : Cond.code (mj_nm 92) (mj_by 92) (mj_ml 92) (mj_rt 92) ∈ mj_tb := List.mem_filter.mpr ⟨mj_cks_in (i := 10) (j := 162) (by rfl), rfl⟩
set_option maxRecDepth 100000 in
theorem mj_r_93 : Cond.code (mj_nm 93) (mj_by 93) (mj_ml 93) (mj_rt 93) ∈ mj_tb := List.mem_filter.mpr ⟨mj_cks_in (i := 10) (j := 166) (by rfl), rfl⟩
set_option maxRecDepth 100000 in
theorem mj_r_94 : Cond.code (mj_nm 94) (mj_by 94) (mj_ml 94) (mj_rt 94) ∈ mj_tb := List.mem_filter.mpr ⟨mj_cks_in (i := 10) (j := 174) (by rfl), rfl⟩
set_option maxRecDepth 100000 in
theorem mj_r_95 : Cond.code (mj_nm 95) (mj_by 95) (mj_ml 95) (mj_rt 95) ∈ mj_tb := List.mem_filter.mpr ⟨mj_cks_in (i := 10) (j := 178) (by rfl), rfl⟩
set_option maxRecDepth 100000 in
theorem mj_r_96 : Cond.code (mj_nm 96) (mj_by 96) (mj_ml 96) (mj_rt 96) ∈ mj_tb := List.mem_filter.mpr ⟨mj_cks_in (i := 10) (j := 182) (by rfl), rfl⟩
set_option maxRecDepth 100000 in
theorem mj_r_97 : Cond.code (mj_nm 97) (mj_by 97) (mj_ml 97) (mj_rt 97) ∈ mj_tb := List.mem_filter.mpr ⟨mj_cks_in (i := 10) (j := 186) (by rfl), rfl⟩
set_option maxRecDepth 100000 in
theorem mj_r_98 : Cond.code (mj_nm 98) (mj_by 98) (mj_ml 98) (mj_rt 98) ∈ mj_tb := List.mem_filter.mpr ⟨mj_cks_in (i := 10) (j := 190) (by rfl), rfl⟩
set_option maxRecDepth 100000 in
theorem mj_r_99 : Cond.code (mj_nm 99) (mj_by 99) (mj_ml 99) (mj_rt 99) ∈ mj_tb := List.mem_filter.mpr ⟨mj_cks_in (i := 8) (j := 163) (by rfl), rfl⟩
set_option maxRecDepth 100000 in
theorem mj_r_100 : Cond.code (mj_nm 100) (mj_by 100) (mj_ml 100) (mj_rt 100) ∈ mj_tb := List.mem_filter.mpr ⟨mj_cks_in (i := 8) (j := 219) (by rfl), rfl⟩
set_option maxRecDepth 100000 in
theorem mj_r_101 : Cond.code (mj_nm 101) (mj_by 101) (mj_ml 101) (mj_rt 101) ∈ mj_tb := List.mem_filter.mpr ⟨mj_cks_in (i := 10) (j := 25) (by rfl), rfl⟩
set_option maxRecDepth 100000 in
theorem mj_r_102 : Cond.code (mj_nm 102) (mj_by 102) (mj_ml 102) (mj_rt 102) ∈ mj_tb := List.mem_filter.mpr ⟨mj_cks_in (i := 10) (j := 63) (by rfl), rfl⟩
set_option maxRecDepth 100000 in
theorem mj_r_103 : Cond.code (mj_nm 103) (mj_by 103) (mj_ml 103) (mj_rt 103) ∈ mj_tb := List.mem_filter.mpr ⟨mj_cks_in (i := 10) (j := 41) (by rfl), rfl⟩
set_option maxRecDepth 100000 in
theorem mj_r_104 : Cond.code (mj_nm 104) (mj_by 104) (mj_ml 104) (mj_rt 104) ∈ mj_tb := List.mem_filter.mpr ⟨mj_cks_in (i := 10) (j := 29) (by rfl), rfl⟩
set_option maxRecDepth 100000 in
theorem mj_r_105 : Cond.code (mj_nm 105) (mj_by 105) (mj_ml 105) (mj_rt 105) ∈ mj_tb := List.mem_filter.mpr ⟨mj_cks_in (i := 10) (j := 44) (by rfl), rfl⟩
set_option maxRecDepth 100000 in
theorem mj_r_106 : Cond.code (mj_nm 106) (mj_by 106) (mj_ml 106) (mj_rt 106) ∈ mj_tb := List.mem_filter.mpr ⟨mj_cks_in (i := 10) (j := 33) (by rfl), rfl⟩
set_option maxRecDepth 100000 in
theorem mj_r_107 : Cond.code (mj_nm 107) (mj_by 107) (mj_ml 107) (mj_rt 107) ∈ mj_tb := List.mem_filter.mpr ⟨mj_cks_in (i := 10) (j := 48) (by rfl), rfl⟩
set_option maxRecDepth 100000 in
theorem mj_r_108 : Cond.code (mj_nm 108) (mj_by 108) (mj_ml 108) (mj_rt 108) ∈ mj_tb := List.mem_filter.mpr ⟨mj_cks_in (i := 10) (j := 56) (by rfl), rfl⟩
set_option maxRecDepth 100000 in
theorem mj_r_109 : Cond.code (mj_nm 109) (mj_by 109) (mj_ml 109) (mj_rt 109) ∈ mj_tb := List.mem_filter.mpr ⟨mj_cks_in (i := 10) (j := 59) (by rfl), rfl⟩
set_option maxRecDepth 100000 in
theorem mj_r_110 : Cond.code (mj_nm 110) (mj_by 110) (mj_ml 110) (mj_rt 110) ∈ mj_tb := List.mem_filter.mpr ⟨mj_cks_in (i := 9) (j := 37) (by rfl), rfl⟩
set_option maxRecDepth 100000 in
theorem mj_r_111 : Cond.code (mj_nm 111) (mj_by 111) (mj_ml 111) (mj_rt 111) ∈ mj_tb := List.mem_filter.mpr ⟨mj_cks_in (i := 10) (j := 202) (by rfl), rfl⟩
set_option maxRecDepth 100000 in
theorem mj_r_112 : Cond.code (mj_nm 112) (mj_by 112) (mj_ml 112) (mj_rt 112) ∈ mj_tb := List.mem_filter.mpr ⟨mj_cks_in (i := 11) (j := 8) (by rfl), rfl⟩
set_option maxRecDepth 100000 in
theorem mj_r_113 : Cond.code (mj_nm 113) (mj_by 113) (mj_ml 113) (mj_rt 113) ∈ mj_tb := List.mem_filter.mpr ⟨mj_cks_in (i := 11) (j := 4) (by rfl), rfl⟩
set_option maxRecDepth 100000 in
theorem mj_r_114 : Cond.code (mj_nm 114) (mj_by 114) (mj_ml 114) (mj_rt 114) ∈ mj_tb := List.mem_filter.mpr ⟨mj_cks_in (i := 11) (j := 103) (by rfl), rfl⟩
set_option maxRecDepth 100000 in
theorem mj_r_115 : Cond.code (mj_nm 115) (mj_by 115) (mj_ml 115) (mj_rt 115) ∈ mj_tb := List.mem_filter.mpr ⟨mj_cks_in (i := 11) (j := 108) (by rfl), rfl⟩
set_option maxRecDepth 100000 in
theorem mj_r_116 : Cond.code (mj_nm 116) (mj_by 116) (mj_ml 116) (mj_rt 116) ∈ mj_tb := List.mem_filter.mpr ⟨mj_cks_in (i := 11) (j := 99) (by rfl), rfl⟩
set_option maxRecDepth 100000 in
theorem mj_r_117 : Cond.code (mj_nm 117) (mj_by 117) (mj_ml 117) (mj_rt 117) ∈ mj_tb := List.mem_filter.mpr ⟨mj_cks_in (i := 11) (j := 116) (by rfl), rfl⟩
set_option maxRecDepth 100000 in
theorem mj_r_118 : Cond.code (mj_nm 118) (mj_by 118) (mj_ml 118) (mj_rt 118) ∈ mj_tb := List.mem_filter.mpr ⟨mj_cks_in (i := 11) (j := 130) (by rfl), rfl⟩
set_option maxRecDepth 100000 in
theorem mj_r_119 : Cond.code (mj_nm 119) (mj_by 119) (mj_ml 119) (mj_rt 119) ∈ mj_tb := List.mem_filter.mpr ⟨mj_cks_in (i := 11) (j := 148) (by rfl), rfl⟩
set_option maxRecDepth 100000 in
theorem mj_r_120 : Cond.code (mj_nm 120) (mj_by 120) (mj_ml 120) (mj_rt 120) ∈ mj_tb := List.mem_filter.mpr ⟨mj_cks_in (i := 11) (j := 22) (by rfl), rfl⟩
set_option maxRecDepth 100000 in
theorem mj_r_121 : Cond.code (mj_nm 121) (mj_by 121) (mj_ml 121) (mj_rt 121) ∈ mj_tb := List.mem_filter.mpr ⟨mj_cks_in (i := 11) (j := 135) (by rfl), rfl⟩
set_option maxRecDepth 100000 in
theorem mj_r_122 : Cond.code (mj_nm 122) (mj_by 122) (mj_ml 122) (mj_rt 122) ∈ mj_tb := List.mem_filter.mpr ⟨mj_cks_in (i := 9) (j := 43) (by rfl), rfl⟩
set_option maxRecDepth 100000 in
theorem mj_r_123 : Cond.code (mj_nm 123) (mj_by 123) (mj_ml 123) (mj_rt 123) ∈ mj_tb := List.mem_filter.mpr ⟨mj_cks_in (i := 11) (j := 26) (by rfl), rfl⟩
set_option maxRecDepth 100000 in
theorem mj_r_124 : Cond.code (mj_nm 124) (mj_by 124) (mj_ml 124) (mj_rt 124) ∈ mj_tb := List.mem_filter.mpr ⟨mj_cks_in (i := 11) (j := 30) (by rfl), rfl⟩
set_option maxRecDepth 100000 in
theorem mj_r_125 : Cond.code (mj_nm 125) (mj_by 125) (mj_ml 125) (mj_rt 125) ∈ mj_tb := List.mem_filter.mpr ⟨mj_cks_in (i := 11) (j := 35) (by rfl), rfl⟩
set_option maxRecDepth 100000 in
theorem mj_r_126 : Cond.code (mj_nm 126) (mj_by 126) (mj_ml 126) (mj_rt 126) ∈ mj_tb := List.mem_filter.mpr ⟨mj_cks_in (i := 11) (j := 41) (by rfl), rfl⟩
set_option maxRecDepth 100000 in
theorem mj_r_127 : Cond.code (mj_nm 127) (mj_by 127) (mj_ml 127) (mj_rt 127) ∈ mj_tb := List.mem_filter.mpr ⟨mj_cks_in (i := 11) (j := 49) (by rfl), rfl⟩
set_option maxRecDepth 100000 in
theorem mj_r_128 : Cond.code (mj_nm 128) (mj_by 128) (mj_ml 128) (mj_rt 128) ∈ mj_tb := List.mem_filter.mpr ⟨mj_cks_in (i := 11) (j := 45) (by rfl), rfl⟩
set_option maxRecDepth 100000 in
theorem mj_r_129 : Cond.code (mj_nm 129) (mj_by 129) (mj_ml 129) (mj_rt 129) ∈ mj_tb := List.mem_filter.mpr ⟨mj_cks_in (i := 11) (j := 55) (by rfl), rfl⟩
set_option maxRecDepth 100000 in
theorem mj_r_130 : Cond.code (mj_nm 130) (mj_by 130) (mj_ml 130) (mj_rt 130) ∈ mj_tb := List.mem_filter.mpr ⟨mj_cks_in (i := 9) (j := 78) (by rfl), rfl⟩
set_option maxRecDepth 100000 in
theorem mj_r_131 : Cond.code (mj_nm 131) (mj_by 131) (mj_ml 131) (mj_rt 131) ∈ mj_tb := List.mem_filter.mpr ⟨mj_cks_in (i := 9) (j := 195) (by rfl), rfl⟩
set_option maxRecDepth 100000 in
theorem mj_r_132 : Cond.code (mj_nm 132) (mj_by 132) (mj_ml 132) (mj_rt 132) ∈ mj_tb := List.mem_filter.mpr ⟨mj_cks_in (i := 11) (j := 159) (by rfl), rfl⟩
set_option maxRecDepth 100000 in
theorem mj_r_133 : Cond.code (mj_nm 133) (mj_by 133) (mj_ml 133) (mj_rt 133) ∈ mj_tb := List.mem_filter.mpr ⟨mj_cks_in (i := 11) (j := 120) (by rfl), rfl⟩
set_option maxRecDepth 100000 in
theorem mj_r_134 : Cond.code (mj_nm 134) (mj_by 134) (mj_ml 134) (mj_rt 134) ∈ mj_tb := List.mem_filter.mpr ⟨mj_cks_in (i := 11) (j := 124) (by rfl), rfl⟩
set_option maxRecDepth 100000 in
theorem mj_r_135 : Cond.code (mj_nm 135) (mj_by 135) (mj_ml 135) (mj_rt 135) ∈ mj_tb := List.mem_filter.mpr ⟨mj_cks_in (i := 11) (j := 91) (by rfl), rfl⟩
set_option maxRecDepth 100000 in
theorem mj_r_136 : Cond.code (mj_nm 136) (mj_by 136) (mj_ml 136) (mj_rt 136) ∈ mj_tb := List.mem_filter.mpr ⟨mj_cks_in (i := 11) (j := 172) (by rfl), rfl⟩
set_option maxRecDepth 100000 in
theorem mj_r_137 : Cond.code (mj_nm 137) (mj_by 137) (mj_ml 137) (mj_rt 137) ∈ mj_tb := List.mem_filter.mpr ⟨mj_cks_in (i := 11) (j := 168) (by rfl), rfl⟩
set_option maxRecDepth 100000 in
theorem mj_r_138 : Cond.code (mj_nm 138) (mj_by 138) (mj_ml 138) (mj_rt 138) ∈ mj_tb := List.mem_filter.mpr ⟨mj_cks_in (i := 11) (j := 195) (by rfl), rfl⟩
set_option maxRecDepth 100000 in
theorem mj_r_139 : Cond.code (mj_nm 139) (mj_by 139) (mj_ml 139) (mj_rt 139) ∈ mj_tb := List.mem_filter.mpr ⟨mj_cks_in (i := 12) (j := 139) (by rfl), rfl⟩
set_option maxRecDepth 100000 in
theorem mj_r_140 : Cond.code (mj_nm 140) (mj_by 140) (mj_ml 140) (mj_rt 140) ∈ mj_tb := List.mem_filter.mpr ⟨mj_cks_in (i := 9) (j := 146) (by rfl), rfl⟩
set_option maxRecDepth 100000 in
theorem mj_r_141 : Cond.code (mj_nm 141) (mj_by 141) (mj_ml 141) (mj_rt 141) ∈ mj_tb := List.mem_filter.mpr ⟨mj_cks_in (i := 10) (j := 206) (by rfl), rfl⟩
set_option maxRecDepth 100000 in
theorem mj_r_142 : Cond.code (mj_nm 142) (mj_by 142) (mj_ml 142) (mj_rt 142) ∈ mj_tb := List.mem_filter.mpr ⟨mj_cks_in (i := 11) (j := 64) (by rfl), rfl⟩
set_option maxRecDepth 100000 in
theorem mj_r_143 : Cond.code (mj_nm 143) (mj_by 143) (mj_ml 143) (mj_rt 143) ∈ mj_tb := List.mem_filter.mpr ⟨mj_cks_in (i := 11) (j := 68) (by rfl), rfl⟩
set_option maxRecDepth 100000 in
theorem mj_r_144 : Cond.code (mj_nm 144) (mj_by 144) (mj_ml 144) (mj_rt 144) ∈ mj_tb := List.mem_filter.mpr ⟨mj_cks_in (i := 12) (j := 121) (by rfl), rfl⟩
set_option maxRecDepth 100000 in
theorem mj_r_145 : Cond.code (mj_nm 145) (mj_by 145) (mj_ml 145) (mj_rt 145) ∈ mj_tb := List.mem_filter.mpr ⟨mj_cks_in (i := 9) (j := 166) (by rfl), rfl⟩
set_option maxRecDepth 100000 in
theorem mj_r_146 : Cond.code (mj_nm 146) (mj_by 146) (mj_ml 146) (mj_rt 146) ∈ mj_tb := List.mem_filter.mpr ⟨mj_cks_in (i := 10) (j := 210) (by rfl), rfl⟩
set_option maxRecDepth 100000 in
theorem mj_r_147 : Cond.code (mj_nm 147) (mj_by 147) (mj_ml 147) (mj_rt 147) ∈ mj_tb := List.mem_filter.mpr ⟨mj_cks_in (i := 12) (j := 89) (by rfl), rfl⟩
set_option maxRecDepth 100000 in
theorem mj_r_148 : Cond.code (mj_nm 148) (mj_by 148) (mj_ml 148) (mj_rt 148) ∈ mj_tb := List.mem_filter.mpr ⟨mj_cks_in (i := 12) (j := 64) (by rfl), rfl⟩
set_option maxRecDepth 100000 in
theorem mj_r_149 : Cond.code (mj_nm 149) (mj_by 149) (mj_ml 149) (mj_rt 149) ∈ mj_tb := List.mem_filter.mpr ⟨mj_cks_in (i := 12) (j := 73) (by rfl), rfl⟩
set_option maxRecDepth 100000 in
theorem mj_r_150 : Cond.code (mj_nm 150) (mj_by 150) (mj_ml 150) (mj_rt 150) ∈ mj_tb := List.mem_filter.mpr ⟨mj_cks_in (i := 12) (j := 85) (by rfl), rfl⟩
set_option maxRecDepth 100000 in
theorem mj_r_151 : Cond.code (mj_nm 151) (mj_by 151) (mj_ml 151) (mj_rt 151) ∈ mj_tb := List.mem_filter.mpr ⟨mj_cks_in (i := 12) (j := 95) (by rfl), rfl⟩
set_option maxRecDepth 100000 in
theorem mj_r_152 : Cond.code (mj_nm 152) (mj_by 152) (mj_ml 152) (mj_rt 152) ∈ mj_tb := List.mem_filter.mpr ⟨mj_cks_in (i := 12) (j := 104) (by rfl), rfl⟩
set_option maxRecDepth 100000 in
theorem mj_r_153 : Cond.code (mj_nm 153) (mj_by 153) (mj_ml 153) (mj_rt 153) ∈ mj_tb := List.mem_filter.mpr ⟨mj_cks_in (i := 13) (j := 0) (by rfl), rfl⟩
set_option maxRecDepth 100000 in
theorem mj_r_154 : Cond.code (mj_nm 154) (mj_by 154) (mj_ml 154) (mj_rt 154) ∈ mj_tb := List.mem_filter.mpr ⟨mj_cks_in (i := 14) (j := 33) (by rfl), rfl⟩
set_option maxRecDepth 100000 in
theorem mj_r_155 : Cond.code (mj_nm 155) (mj_by 155) (mj_ml 155) (mj_rt 155) ∈ mj_tb := List.mem_filter.mpr ⟨mj_cks_in (i := 14) (j := 37) (by rfl), rfl⟩
set_option maxRecDepth 100000 in
theorem mj_r_156 : Cond.code (mj_nm 156) (mj_by 156) (mj_ml 156) (mj_rt 156) ∈ mj_tb := List.mem_filter.mpr ⟨mj_cks_in (i := 14) (j := 92) (by rfl), rfl⟩
set_option maxRecDepth 100000 in
theorem mj_r_157 : Cond.code (mj_nm 157) (mj_by 157) (mj_ml 157) (mj_rt 157) ∈ mj_tb := List.mem_filter.mpr ⟨mj_cks_in (i := 14) (j := 103) (by rfl), rfl⟩
set_option maxRecDepth 100000 in
theorem mj_r_158 : Cond.code (mj_nm 158) (mj_by 158) (mj_ml 158) (mj_rt 158) ∈ mj_tb := List.mem_filter.mpr ⟨mj_cks_in (i := 14) (j := 74) (by rfl), rfl⟩
set_option maxRecDepth 100000 in
theorem mj_r_159 : Cond.code (mj_nm 159) (mj_by 159) (mj_ml 159) (mj_rt 159) ∈ mj_tb := List.mem_filter.mpr ⟨mj_cks_in (i := 14) (j := 53) (by rfl), rfl⟩
set_option maxRecDepth 100000 in
theorem mj_r_160 : Cond.code (mj_nm 160) (mj_by 160) (mj_ml 160) (mj_rt 160) ∈ mj_tb := List.mem_filter.mpr ⟨mj_cks_in (i := 14) (j := 49) (by rfl), rfl⟩
set_option maxRecDepth 100000 in
theorem mj_r_161 : Cond.code (mj_nm 161) (mj_by 161) (mj_ml 161) (mj_rt 161) ∈ mj_tb := List.mem_filter.mpr ⟨mj_cks_in (i := 14) (j := 61) (by rfl), rfl⟩
set_option maxRecDepth 100000 in
theorem mj_r_162 : Cond.code (mj_nm 162) (mj_by 162) (mj_ml 162) (mj_rt 162) ∈ mj_tb := List.mem_filter.mpr ⟨mj_cks_in (i := 14) (j := 45) (by rfl), rfl⟩
set_option maxRecDepth 100000 in
theorem mj_r_163 : Cond.code (mj_nm 163) (mj_by 163) (mj_ml 163) (mj_rt 163) ∈ mj_tb := List.mem_filter.mpr ⟨mj_cks_in (i := 14) (j := 66) (by rfl), rfl⟩
set_option maxRecDepth 100000 in
theorem mj_r_164 : Cond.code (mj_nm 164) (mj_by 164) (mj_ml 164) (mj_rt 164) ∈ mj_tb := List.mem_filter.mpr ⟨mj_cks_in (i := 14) (j := 57) (by rfl), rfl⟩
set_option maxRecDepth 100000 in
theorem mj_r_165 : Cond.code (mj_nm 165) (mj_by 165) (mj_ml 165) (mj_rt 165) ∈ mj_tb := List.mem_filter.mpr ⟨mj_cks_in (i := 14) (j := 135) (by rfl), rfl⟩
set_option maxRecDepth 100000 in
theorem mj_r_166 : Cond.code (mj_nm 166) (mj_by 166) (mj_ml 166) (mj_rt 166) ∈ mj_tb := List.mem_filter.mpr ⟨mj_cks_in (i := 14) (j := 123) (by rfl), rfl⟩
set_option maxRecDepth 100000 in
theorem mj_r_167 : Cond.code (mj_nm 167) (mj_by 167) (mj_ml 167) (mj_rt 167) ∈ mj_tb := List.mem_filter.mpr ⟨mj_cks_in (i := 14) (j := 89) (by rfl), rfl⟩
set_option maxRecDepth 100000 in
theorem mj_r_168 : Cond.code (mj_nm 168) (mj_by 168) (mj_ml 168) (mj_rt 168) ∈ mj_tb := List.mem_filter.mpr ⟨mj_cks_in (i := 13) (j := 5) (by rfl), rfl⟩
set_option maxRecDepth 100000 in
theorem mj_r_169 : Cond.code (mj_nm 169) (mj_by 169) (mj_ml 169) (mj_rt 169) ∈ mj_tb := List.mem_filter.mpr ⟨mj_cks_in (i := 13) (j := 12) (by rfl), rfl⟩
set_option maxRecDepth 100000 in
theorem mj_r_170 : Cond.code (mj_nm 170) (mj_by 170) (mj_ml 170) (mj_rt 170) ∈ mj_tb := List.mem_filter.mpr ⟨mj_cks_in (i := 13) (j := 9) (by rfl), rfl⟩
set_option maxRecDepth 100000 in
theorem mj_r_171 : Cond.code (mj_nm 171) (mj_by 171) (mj_ml 171) (mj_rt 171) ∈ mj_tb := List.mem_filter.mpr ⟨mj_cks_in (i := 14) (j := 85) (by rfl), rfl⟩
set_option maxRecDepth 100000 in
theorem mj_r_172 : Cond.code (mj_nm 172) (mj_by 172) (mj_ml 172) (mj_rt 172) ∈ mj_tb := List.mem_filter.mpr ⟨mj_cks_in (i := 14) (j := 82) (by rfl), rfl⟩
set_option maxRecDepth 100000 in
theorem mj_r_173 : Cond.code (mj_nm 173) (mj_by 173) (mj_ml 173) (mj_rt 173) ∈ mj_tb := List.mem_filter.mpr ⟨mj_cks_in (i := 14) (j := 100) (by rfl), rfl⟩
set_option maxRecDepth 100000 in
theorem mj_r_174 : Cond.code (mj_nm 174) (mj_by 174) (mj_ml 174) (mj_rt 174) ∈ mj_tb := List.mem_filter.mpr ⟨mj_cks_in (i := 14) (j := 78) (by rfl), rfl⟩
set_option maxRecDepth 100000 in
theorem mj_r_175 : Cond.code (mj_nm 175) (mj_by 175) (mj_ml 175) (mj_rt 175) ∈ mj_tb := List.mem_filter.mpr ⟨mj_cks_in (i := 14) (j := 96) (by rfl), rfl⟩
set_option maxRecDepth 100000 in
theorem mj_r_176 : Cond.code (mj_nm 176) (mj_by 176) (mj_ml 176) (mj_rt 176) ∈ mj_tb := List.mem_filter.mpr ⟨mj_cks_in (i := 14) (j := 107) (by rfl), rfl⟩
set_option maxRecDepth 100000 in
theorem mj_r_177 : Cond.code (mj_nm 177) (mj_by 177) (mj_ml 177) (mj_rt 177) ∈ mj_tb := List.mem_filter.mpr ⟨mj_cks_in (i := 14) (j := 111) (by rfl), rfl⟩
set_option maxRecDepth 100000 in
theorem mj_r_178 : Cond.code (mj_nm 178) (mj_by 178) (mj_ml 178) (mj_rt 178) ∈ mj_tb := List.mem_filter.mpr ⟨mj_cks_in (i := 14) (j := 115) (by rfl), rfl⟩
set_option maxRecDepth 100000 in
theorem mj_r_179 : Cond.code (mj_nm 179) (mj_by 179) (mj_ml 179) (mj_rt 179) ∈ mj_tb := List.mem_filter.mpr ⟨mj_cks_in (i := 14) (j := 70) (by rfl), rfl⟩
set_option maxRecDepth 100000 in
theorem mj_r_180 : Cond.code (mj_nm 180) (mj_by 180) (mj_ml 180) (mj_rt 180) ∈ mj_tb := List.mem_filter.mpr ⟨mj_cks_in (i := 14) (j := 41) (by rfl), rfl⟩
set_option maxRecDepth 100000 in
theorem mj_r_181 : Cond.code (mj_nm 181) (mj_by 181) (mj_ml 181) (mj_rt 181) ∈ mj_tb := List.mem_filter.mpr ⟨mj_cks_in (i := 14) (j := 166) (by rfl), rfl⟩
set_option maxRecDepth 100000 in
theorem mj_r_182 : Cond.code (mj_nm 182) (mj_by 182) (mj_ml 182) (mj_rt 182) ∈ mj_tb := List.mem_filter.mpr ⟨mj_cks_in (i := 14) (j := 170) (by rfl), rfl⟩
set_option maxRecDepth 100000 in
theorem mj_r_183 : Cond.code (mj_nm 183) (mj_by 183) (mj_ml 183) (mj_rt 183) ∈ mj_tb := List.mem_filter.mpr ⟨mj_cks_in (i := 14) (j := 158) (by rfl), rfl⟩
set_option maxRecDepth 100000 in
theorem mj_r_184 : Cond.code (mj_nm 184) (mj_by 184) (mj_ml 184) (mj_rt 184) ∈ mj_tb := List.mem_filter.mpr ⟨mj_cks_in (i := 14) (j := 147) (by rfl), rfl⟩
set_option maxRecDepth 100000 in
theorem mj_r_185 : Cond.code (mj_nm 185) (mj_by 185) (mj_ml 185) (mj_rt 185) ∈ mj_tb := List.mem_filter.mpr ⟨mj_cks_in (i := 14) (j := 162) (by rfl), rfl⟩
set_option maxRecDepth 100000 in
theorem mj_r_186 : Cond.code (mj_nm 186) (mj_by 186) (mj_ml 186) (mj_rt 186) ∈ mj_tb := List.mem_filter.mpr ⟨mj_cks_in (i := 14) (j := 155) (by rfl), rfl⟩
set_option maxRecDepth 100000 in
theorem mj_r_187 : Cond.code (mj_nm 187) (mj_by 187) (mj_ml 187) (mj_rt 187) ∈ mj_tb := List.mem_filter.mpr ⟨mj_cks_in (i := 14) (j := 139) (by rfl), rfl⟩
set_option maxRecDepth 100000 in
theorem mj_r_188 : Cond.code (mj_nm 188) (mj_by 188) (mj_ml 188) (mj_rt 188) ∈ mj_tb := List.mem_filter.mpr ⟨mj_cks_in (i := 14) (j := 131) (by rfl), rfl⟩
set_option maxRecDepth 100000 in
theorem mj_r_189 : Cond.code (mj_nm 189) (mj_by 189) (mj_ml 189) (mj_rt 189) ∈ mj_tb := List.mem_filter.mpr ⟨mj_cks_in (i := 14) (j := 143) (by rfl), rfl⟩
set_option maxRecDepth 100000 in
theorem mj_r_190 : Cond.code (mj_nm 190) (mj_by 190) (mj_ml 190) (mj_rt 190) ∈ mj_tb := List.mem_filter.mpr ⟨mj_cks_in (i := 14) (j := 127) (by rfl), rfl⟩
set_option maxRecDepth 100000 in
theorem mj_r_191 : Cond.code (mj_nm 191) (mj_by 191) (mj_ml 191) (mj_rt 191) ∈ mj_tb := List.mem_filter.mpr ⟨mj_cks_in (i := 14) (j := 151) (by rfl), rfl⟩
set_option maxRecDepth 100000 in
theorem mj_r_192 : Cond.code (mj_nm 192) (mj_by 192) (mj_ml 192) (mj_rt 192) ∈ mj_tb := List.mem_filter.mpr ⟨mj_cks_in (i := 14) (j := 119) (by rfl), rfl⟩
set_option maxRecDepth 100000 in
theorem mj_r_193 : Cond.code (mj_nm 193) (mj_by 193) (mj_ml 193) (mj_rt 193) ∈ mj_tb := List.mem_filter.mpr ⟨mj_cks_in (i := 14) (j := 234) (by rfl), rfl⟩
set_option maxRecDepth 100000 in
theorem mj_r_194 : Cond.code (mj_nm 194) (mj_by 194) (mj_ml 194) (mj_rt 194) ∈ mj_tb := List.mem_filter.mpr ⟨mj_cks_in (i := 15) (j := 3) (by rfl), rfl⟩
set_option maxRecDepth 100000 in
theorem mj_r_195 : Cond.code (mj_nm 195) (mj_by 195) (mj_ml 195) (mj_rt 195) ∈ mj_tb := List.mem_filter.mpr ⟨mj_cks_in (i := 15) (j := 0) (by rfl), rfl⟩
set_option maxRecDepth 100000 in
theorem mj_r_196 : Cond.code (mj_nm 196) (mj_by 196) (mj_ml 196) (mj_rt 196) ∈ mj_tb := List.mem_filter.mpr ⟨mj_cks_in (i := 14) (j := 230) (by rfl), rfl⟩
set_option maxRecDepth 100000 in
theorem mj_r_197 : Cond.code (mj_nm 197) (mj_by 197) (mj_ml 197) (mj_rt 197) ∈ mj_tb := List.mem_filter.mpr ⟨mj_cks_in (i := 13) (j := 16) (by rfl), rfl⟩
set_option maxRecDepth 100000 in
theorem mj_r_198 : Cond.code (mj_nm 198) (mj_by 198) (mj_ml 198) (mj_rt 198) ∈ mj_tb := List.mem_filter.mpr ⟨mj_cks_in (i := 13) (j := 20) (by rfl), rfl⟩
set_option maxRecDepth 100000 in
theorem mj_r_199 : Cond.code (mj_nm 199) (mj_by 199) (mj_ml 199) (mj_rt 199) ∈ mj_tb := List.mem_filter.mpr ⟨mj_cks_in (i := 13) (j := 24) (by rfl), rfl⟩
set_option maxRecDepth 100000 in
theorem mj_r_200 : Cond.code (mj_nm 200) (mj_by 200) (mj_ml 200) (mj_rt 200) ∈ mj_tb := List.mem_filter.mpr ⟨mj_cks_in (i := 15) (j := 83) (by rfl), rfl⟩
set_option maxRecDepth 100000 in
theorem mj_r_201 : Cond.code (mj_nm 201) (mj_by 201) (mj_ml 201) (mj_rt 201) ∈ mj_tb := List.mem_filter.mpr ⟨mj_cks_in (i := 14) (j := 178) (by rfl), rfl⟩
set_option maxRecDepth 100000 in
theorem mj_r_202 : Cond.code (mj_nm 202) (mj_by 202) (mj_ml 202) (mj_rt 202) ∈ mj_tb := List.mem_filter.mpr ⟨mj_cks_in (i := 14) (j := 194) (by rfl), rfl⟩
set_option maxRecDepth 100000 in
theorem mj_r_203 : Cond.code (mj_nm 203) (mj_by 203) (mj_ml 203) (mj_rt 203) ∈ mj_tb := List.mem_filter.mpr ⟨mj_cks_in (i := 14) (j := 213) (by rfl), rfl⟩
set_option maxRecDepth 100000 in
theorem mj_r_204 : Cond.code (mj_nm 204) (mj_by 204) (mj_ml 204) (mj_rt 204) ∈ mj_tb := List.mem_filter.mpr ⟨mj_cks_in (i := 14) (j := 210) (by rfl), rfl⟩
set_option maxRecDepth 100000 in
theorem mj_r_205 : Cond.code (mj_nm 205) (mj_by 205) (mj_ml 205) (mj_rt 205) ∈ mj_tb := List.mem_filter.mpr ⟨mj_cks_in (i := 14) (j := 206) (by rfl), rfl⟩
set_option maxRecDepth 100000 in
theorem mj_r_206 : Cond.code (mj_nm 206) (mj_by 206) (mj_ml 206) (mj_rt 206) ∈ mj_tb := List.mem_filter.mpr ⟨mj_cks_in (i := 14) (j := 222) (by rfl), rfl⟩
set_option maxRecDepth 100000 in
theorem mj_r_207 : Cond.code (mj_nm 207) (mj_by 207) (mj_ml 207) (mj_rt 207) ∈ mj_tb := List.mem_filter.mpr ⟨mj_cks_in (i := 14) (j := 226) (by rfl), rfl⟩
set_option maxRecDepth 100000 in
theorem mj_r_208 : Cond.code (mj_nm 208) (mj_by 208) (mj_ml 208) (mj_rt 208) ∈ mj_tb := List.mem_filter.mpr ⟨mj_cks_in (i := 15) (j := 63) (by rfl), rfl⟩
set_option maxRecDepth 100000 in
theorem mj_r_209 : Cond.code (mj_nm 209) (mj_by 209) (mj_ml 209) (mj_rt 209) ∈ mj_tb := List.mem_filter.mpr ⟨mj_cks_in (i := 15) (j := 59) (by rfl), rfl⟩
set_option maxRecDepth 100000 in
theorem mj_r_210 : Cond.code (mj_nm 210) (mj_by 210) (mj_ml 210) (mj_rt 210) ∈ mj_tb := List.mem_filter.mpr ⟨mj_cks_in (i := 15) (j := 71) (by rfl), rfl⟩
set_option maxRecDepth 100000 in
theorem mj_r_211 : Cond.code (mj_nm 211) (mj_by 211) (mj_ml 211) (mj_rt 211) ∈ mj_tb := List.mem_filter.mpr ⟨mj_cks_in (i := 15) (j := 75) (by rfl), rfl⟩
set_option maxRecDepth 100000 in
theorem mj_r_212 : Cond.code (mj_nm 212) (mj_by 212) (mj_ml 212) (mj_rt 212) ∈ mj_tb := List.mem_filter.mpr ⟨mj_cks_in (i := 15) (j := 43) (by rfl), rfl⟩
set_option maxRecDepth 100000 in
theorem mj_r_213 : Cond.code (mj_nm 213) (mj_by 213) (mj_ml 213) (mj_rt 213) ∈ mj_tb := List.mem_filter.mpr ⟨mj_cks_in (i := 15) (j := 39) (by rfl), rfl⟩
set_option maxRecDepth 100000 in
theorem mj_r_214 : Cond.code (mj_nm 214) (mj_by 214) (mj_ml 214) (mj_rt 214) ∈ mj_tb := List.mem_filter.mpr ⟨mj_cks_in (i := 15) (j := 51) (by rfl), rfl⟩
set_option maxRecDepth 100000 in
theorem mj_r_215 : Cond.code (mj_nm 215) (mj_by 215) (mj_ml 215) (mj_rt 215) ∈ mj_tb := List.mem_filter.mpr ⟨mj_cks_in (i := 15) (j := 55) (by rfl), rfl⟩
set_option maxRecDepth 100000 in
theorem mj_r_216 : Cond.code (mj_nm 216) (mj_by 216) (mj_ml 216) (mj_rt 216) ∈ mj_tb := List.mem_filter.mpr ⟨mj_cks_in (i := 15) (j := 67) (by rfl), rfl⟩
set_option maxRecDepth 100000 in
theorem mj_r_217 : Cond.code (mj_nm 217) (mj_by 217) (mj_ml 217) (mj_rt 217) ∈ mj_tb := List.mem_filter.mpr ⟨mj_cks_in (i := 15) (j := 35) (by rfl), rfl⟩
set_option maxRecDepth 100000 in
theorem mj_r_218 : Cond.code (mj_nm 218) (mj_by 218) (mj_ml 218) (mj_rt 218) ∈ mj_tb := List.mem_filter.mpr ⟨mj_cks_in (i := 15) (j := 87) (by rfl), rfl⟩
set_option maxRecDepth 100000 in
theorem mj_r_219 : Cond.code (mj_nm 219) (mj_by 219) (mj_ml 219) (mj_rt 219) ∈ mj_tb := List.mem_filter.mpr ⟨mj_cks_in (i := 15) (j := 91) (by rfl), rfl⟩
set_option maxRecDepth 100000 in
theorem mj_r_220 : Cond.code (mj_nm 220) (mj_by 220) (mj_ml 220) (mj_rt 220) ∈ mj_tb := List.mem_filter.mpr ⟨mj_cks_in (i := 15) (j := 107) (by rfl), rfl⟩
set_option maxRecDepth 100000 in
theorem mj_r_221 : Cond.code (mj_nm 221) (mj_by 221) (mj_ml 221) (mj_rt 221) ∈ mj_tb := List.mem_filter.mpr ⟨mj_cks_in (i := 14) (j := 182) (by rfl), rfl⟩
set_option maxRecDepth 100000 in
theorem mj_r_222 : Cond.code (mj_nm 222) (mj_by 222) (mj_ml 222) (mj_rt 222) ∈ mj_tb := List.mem_filter.mpr ⟨mj_cks_in (i := 14) (j := 186) (by rfl), rfl⟩
set_option maxRecDepth 100000 in
theorem mj_r_223 : Cond.code (mj_nm 223) (mj_by 223) (mj_ml 223) (mj_rt 223) ∈ mj_tb := List.mem_filter.mpr ⟨mj_cks_in (i := 14) (j := 174) (by rfl), rfl⟩
set_option maxRecDepth 100000 in
theorem mj_r_224 : Cond.code (mj_nm 224) (mj_by 224) (mj_ml 224) (mj_rt 224) ∈ mj_tb := List.mem_filter.mpr ⟨mj_cks_in (i := 14) (j := 190) (by rfl), rfl⟩
set_option maxRecDepth 100000 in
theorem mj_r_225 : Cond.code (mj_nm 225) (mj_by 225) (mj_ml 225) (mj_rt 225) ∈ mj_tb := List.mem_filter.mpr ⟨mj_cks_in (i := 14) (j := 198) (by rfl), rfl⟩
set_option maxRecDepth 100000 in
theorem mj_r_226 : Cond.code (mj_nm 226) (mj_by 226) (mj_ml 226) (mj_rt 226) ∈ mj_tb := List.mem_filter.mpr ⟨mj_cks_in (i := 14) (j := 202) (by rfl), rfl⟩
set_option maxRecDepth 100000 in
theorem mj_r_227 : Cond.code (mj_nm 227) (mj_by 227) (mj_ml 227) (mj_rt 227) ∈ mj_tb := List.mem_filter.mpr ⟨mj_cks_in (i := 14) (j := 217) (by rfl), rfl⟩
set_option maxRecDepth 100000 in
theorem mj_r_228 : Cond.code (mj_nm 228) (mj_by 228) (mj_ml 228) (mj_rt 228) ∈ mj_tb := List.mem_filter.mpr ⟨mj_cks_in (i := 15) (j := 7) (by rfl), rfl⟩
set_option maxRecDepth 100000 in
theorem mj_r_229 : Cond.code (mj_nm 229) (mj_by 229) (mj_ml 229) (mj_rt 229) ∈ mj_tb := List.mem_filter.mpr ⟨mj_cks_in (i := 15) (j := 19) (by rfl), rfl⟩
set_option maxRecDepth 100000 in
theorem mj_r_230 : Cond.code (mj_nm 230) (mj_by 230) (mj_ml 230) (mj_rt 230) ∈ mj_tb := List.mem_filter.mpr ⟨mj_cks_in (i := 15) (j := 23) (by rfl), rfl⟩
set_option maxRecDepth 100000 in
theorem mj_r_231 : Cond.code (mj_nm 231) (mj_by 231) (mj_ml 231) (mj_rt 231) ∈ mj_tb := List.mem_filter.mpr ⟨mj_cks_in (i := 15) (j := 27) (by rfl), rfl⟩
set_option maxRecDepth 100000 in
theorem mj_r_232 : Cond.code (mj_nm 232) (mj_by 232) (mj_ml 232) (mj_rt 232) ∈ mj_tb := List.mem_filter.mpr ⟨mj_cks_in (i := 15) (j := 31) (by rfl), rfl⟩
set_option maxRecDepth 100000 in
theorem mj_r_233 : Cond.code (mj_nm 233) (mj_by 233) (mj_ml 233) (mj_rt 233) ∈ mj_tb := List.mem_filter.mpr ⟨mj_cks_in (i := 15) (j := 79) (by rfl), rfl⟩
set_option maxRecDepth 100000 in
theorem mj_r_234 : Cond.code (mj_nm 234) (mj_by 234) (mj_ml 234) (mj_rt 234) ∈ mj_tb := List.mem_filter.mpr ⟨mj_cks_in (i := 15) (j := 95) (by rfl), rfl⟩
set_option maxRecDepth 100000 in
theorem mj_r_235 : Cond.code (mj_nm 235) (mj_by 235) (mj_ml 235) (mj_rt 235) ∈ mj_tb := List.mem_filter.mpr ⟨mj_cks_in (i := 15) (j := 99) (by rfl), rfl⟩
set_option maxRecDepth 100000 in
theorem mj_r_236 : Cond.code (mj_nm 236) (mj_by 236) (mj_ml 236) (mj_rt 236) ∈ mj_tb := List.mem_filter.mpr ⟨mj_cks_in (i := 15) (j := 103) (by rfl), rfl⟩
set_option maxRecDepth 100000 in
theorem mj_r_237 : Cond.code (mj_nm 237) (mj_by 237) (mj_ml 237) (mj_rt 237) ∈ mj_tb := List.mem_filter.mpr ⟨mj_cks_in (i := 15) (j := 114) (by rfl), rfl⟩
set_option maxRecDepth 100000 in
theorem mj_r_238 : Cond.code (mj_nm 238) (mj_by 238) (mj_ml 238) (mj_rt 238) ∈ mj_tb := List.mem_filter.mpr ⟨mj_cks_in (i := 15) (j := 111) (by rfl), rfl⟩
set_option maxRecDepth 100000 in
theorem mj_r_239 : Cond.code (mj_nm 239) (mj_by 239) (mj_ml 239) (mj_rt 239) ∈ mj_tb := List.mem_filter.mpr ⟨mj_cks_in (i := 15) (j := 118) (by rfl), rfl⟩
set_option maxRecDepth 100000 in
theorem mj_r_240 : Cond.code (mj_nm 240) (mj_by 240) (mj_ml 240) (mj_rt 240) ∈ mj_tb := List.mem_filter.mpr ⟨mj_cks_in (i := 15) (j := 129) (by rfl), rfl⟩
set_option maxRecDepth 100000 in
theorem mj_r_241 : Cond.code (mj_nm 241) (mj_by 241) (mj_ml 241) (mj_rt 241) ∈ mj_tb := List.mem_filter.mpr ⟨mj_cks_in (i := 15) (j := 126) (by rfl), rfl⟩
set_option maxRecDepth 100000 in
theorem mj_r_242 : Cond.code (mj_nm 242) (mj_by 242) (mj_ml 242) (mj_rt 242) ∈ mj_tb := List.mem_filter.mpr ⟨mj_cks_in (i := 15) (j := 133) (by rfl), rfl⟩
set_option maxRecDepth 100000 in
theorem mj_r_243 : Cond.code (mj_nm 243) (mj_by 243) (mj_ml 243) (mj_rt 243) ∈ mj_tb := List.mem_filter.mpr ⟨mj_cks_in (i := 15) (j := 122) (by rfl), rfl⟩
set_option maxRecDepth 100000 in
theorem mj_r_244 : Cond.code (mj_nm 244) (mj_by 244) (mj_ml 244) (mj_rt 244) ∈ mj_tb := List.mem_filter.mpr ⟨mj_cks_in (i := 15) (j := 137) (by rfl), rfl⟩
set_option maxRecDepth 100000 in
theorem mj_r_245 : Cond.code (mj_nm 245) (mj_by 245) (mj_ml 245) (mj_rt 245) ∈ mj_tb := List.mem_filter.mpr ⟨mj_cks_in (i := 15) (j := 141) (by rfl), rfl⟩
set_option maxRecDepth 100000 in
theorem mj_r_246 : Cond.code (mj_nm 246) (mj_by 246) (mj_ml 246) (mj_rt 246) ∈ mj_tb := List.mem_filter.mpr ⟨mj_cks_in (i := 15) (j := 145) (by rfl), rfl⟩
set_option maxRecDepth 100000 in
theorem mj_r_247 : Cond.code (mj_nm 247) (mj_by 247) (mj_ml 247) (mj_rt 247) ∈ mj_tb := List.mem_filter.mpr ⟨mj_cks_in (i := 15) (j := 149) (by rfl), rfl⟩
set_option maxRecDepth 100000 in
theorem mj_r_248 : Cond.code (mj_nm 248) (mj_by 248) (mj_ml 248) (mj_rt 248) ∈ mj_tb := List.mem_filter.mpr ⟨mj_cks_in (i := 15) (j := 153) (by rfl), rfl⟩
set_option maxRecDepth 100000 in
theorem mj_r_249 : Cond.code (mj_nm 249) (mj_by 249) (mj_ml 249) (mj_rt 249) ∈ mj_tb := List.mem_filter.mpr ⟨mj_cks_in (i := 15) (j := 169) (by rfl), rfl⟩
set_option maxRecDepth 100000 in
theorem mj_r_250 : Cond.code (mj_nm 250) (mj_by 250) (mj_ml 250) (mj_rt 250) ∈ mj_tb := List.mem_filter.mpr ⟨mj_cks_in (i := 15) (j := 165) (by rfl), rfl⟩
set_option maxRecDepth 100000 in
theorem mj_r_251 : Cond.code (mj_nm 251) (mj_by 251) (mj_ml 251) (mj_rt 251) ∈ mj_tb := List.mem_filter.mpr ⟨mj_cks_in (i := 15) (j := 161) (by rfl), rfl⟩
set_option maxRecDepth 100000 in
theorem mj_r_252 : Cond.code (mj_nm 252) (mj_by 252) (mj_ml 252) (mj_rt 252) ∈ mj_tb := List.mem_filter.mpr ⟨mj_cks_in (i := 15) (j := 157) (by rfl), rfl⟩
set_option maxRecDepth 100000 in
theorem mj_r_253 : Cond.code (mj_nm 253) (mj_by 253) (mj_ml 253) (mj_rt 253) ∈ mj_tb := List.mem_filter.mpr ⟨mj_cks_in (i := 15) (j := 173) (by rfl), rfl⟩
set_option maxRecDepth 100000 in
theorem mj_r_254 : Cond.code (mj_nm 254) (mj_by 254) (mj_ml 254) (mj_rt 254) ∈ mj_tb := List.mem_filter.mpr ⟨mj_cks_in (i := 15) (j := 177) (by rfl), rfl⟩
set_option maxRecDepth 100000 in
theorem mj_r_255 : Cond.code (mj_nm 255) (mj_by 255) (mj_ml 255) (mj_rt 255) ∈ mj_tb := List.mem_filter.mpr ⟨mj_cks_in (i := 15) (j := 181) (by rfl), rfl⟩
set_option maxRecDepth 100000 in
theorem mj_r_256 : Cond.code (mj_nm 256) (mj_by 256) (mj_ml 256) (mj_rt 256) ∈ mj_tb := List.mem_filter.mpr ⟨mj_cks_in (i := 15) (j := 185) (by rfl), rfl⟩
set_option maxRecDepth 100000 in
theorem mj_r_257 : Cond.code (mj_nm 257) (mj_by 257) (mj_ml 257) (mj_rt 257) ∈ mj_tb := List.mem_filter.mpr ⟨mj_cks_in (i := 15) (j := 189) (by rfl), rfl⟩
set_option maxRecDepth 100000 in
theorem mj_r_258 : Cond.code (mj_nm 258) (mj_by 258) (mj_ml 258) (mj_rt 258) ∈ mj_tb := List.mem_filter.mpr ⟨mj_cks_in (i := 15) (j := 193) (by rfl), rfl⟩
set_option maxRecDepth 100000 in
theorem mj_r_259 : Cond.code (mj_nm 259) (mj_by 259) (mj_ml 259) (mj_rt 259) ∈ mj_tb := List.mem_filter.mpr ⟨mj_cks_in (i := 15) (j := 197) (by rfl), rfl⟩
set_option maxRecDepth 100000 in
theorem mj_r_260 : Cond.code (mj_nm 260) (mj_by 260) (mj_ml 260) (mj_rt 260) ∈ mj_tb := List.mem_filter.mpr ⟨mj_cks_in (i := 15) (j := 205) (by rfl), rfl⟩
set_option maxRecDepth 100000 in
theorem mj_r_261 : Cond.code (mj_nm 261) (mj_by 261) (mj_ml 261) (mj_rt 261) ∈ mj_tb := List.mem_filter.mpr ⟨mj_cks_in (i := 15) (j := 201) (by rfl), rfl⟩
set_option maxRecDepth 100000 in
theorem mj_r_262 : Cond.code (mj_nm 262) (mj_by 262) (mj_ml 262) (mj_rt 262) ∈ mj_tb := List.mem_filter.mpr ⟨mj_cks_in (i := 15) (j := 209) (by rfl), rfl⟩
set_option maxRecDepth 100000 in
theorem mj_r_263 : Cond.code (mj_nm 263) (mj_by 263) (mj_ml 263) (mj_rt 263) ∈ mj_tb := List.mem_filter.mpr ⟨mj_cks_in (i := 15) (j := 213) (by rfl), rfl⟩
set_option maxRecDepth 100000 in
theorem mj_r_264 : Cond.code (mj_nm 264) (mj_by 264) (mj_ml 264) (mj_rt 264) ∈ mj_tb := List.mem_filter.mpr ⟨mj_cks_in (i := 15) (j := 221) (by rfl), rfl⟩
set_option maxRecDepth 100000 in
theorem mj_r_265 : Cond.code (mj_nm 265) (mj_by 265) (mj_ml 265) (mj_rt 265) ∈ mj_tb := List.mem_filter.mpr ⟨mj_cks_in (i := 15) (j := 229) (by rfl), rfl⟩
set_option maxRecDepth 100000 in
theorem mj_r_266 : Cond.code (mj_nm 266) (mj_by 266) (mj_ml 266) (mj_rt 266) ∈ mj_tb := List.mem_filter.mpr ⟨mj_cks_in (i := 15) (j := 225) (by rfl), rfl⟩
set_option maxRecDepth 100000 in
theorem mj_r_267 : Cond.code (mj_nm 267) (mj_by 267) (mj_ml 267) (mj_rt 267) ∈ mj_tb := List.mem_filter.mpr ⟨mj_cks_in (i := 15) (j := 217) (by rfl), rfl⟩
set_option maxRecDepth 100000 in
theorem mj_r_268 : Cond.code (mj_nm 268) (mj_by 268) (mj_ml 268) (mj_rt 268) ∈ mj_tb := List.mem_filter.mpr ⟨mj_cks_in (i := 15) (j := 233) (by rfl), rfl⟩
set_option maxRecDepth 100000 in
theorem mj_r_269 : Cond.code (mj_nm 269) (mj_by 269) (mj_ml 269) (mj_rt 269) ∈ mj_tb := List.mem_filter.mpr ⟨mj_cks_in (i := 15) (j := 237) (by rfl), rfl⟩
set_option maxRecDepth 100000 in
theorem mj_r_270 : Cond.code (mj_nm 270) (mj_by 270) (mj_ml 270) (mj_rt 270) ∈ mj_tb := List.mem_filter.mpr ⟨mj_cks_in (i := 15) (j := 15) (by rfl), rfl⟩
set_option maxRecDepth 100000 in
theorem mj_r_271 : Cond.code (mj_nm 271) (mj_by 271) (mj_ml 271) (mj_rt 271) ∈ mj_tb := List.mem_filter.mpr ⟨mj_cks_in (i := 16) (j := 5) (by rfl), rfl⟩
set_option maxRecDepth 100000 in
theorem mj_r_272 : Cond.code (mj_nm 272) (mj_by 272) (mj_ml 272) (mj_rt 272) ∈ mj_tb := List.mem_filter.mpr ⟨mj_cks_in (i := 15) (j := 11) (by rfl), rfl⟩
set_option maxRecDepth 100000 in
theorem mj_r_273 : Cond.code (mj_nm 273) (mj_by 273) (mj_ml 273) (mj_rt 273) ∈ mj_tb := List.mem_filter.mpr ⟨mj_cks_in (i := 16) (j := 1) (by rfl), rfl⟩
set_option maxRecDepth 100000 in
theorem mj_r_274 : Cond.code (mj_nm 274) (mj_by 274) (mj_ml 274) (mj_rt 274) ∈ mj_tb := List.mem_filter.mpr ⟨mj_cks_in (i := 16) (j := 9) (by rfl), rfl⟩
set_option maxRecDepth 100000 in
theorem mj_r_275 : Cond.code (mj_nm 275) (mj_by 275) (mj_ml 275) (mj_rt 275) ∈ mj_tb := List.mem_filter.mpr ⟨mj_cks_in (i := 16) (j := 13) (by rfl), rfl⟩
set_option maxRecDepth 100000 in
theorem mj_r_276 : Cond.code (mj_nm 276) (mj_by 276) (mj_ml 276) (mj_rt 276) ∈ mj_tb := List.mem_filter.mpr ⟨mj_cks_in (i := 16) (j := 17) (by rfl), rfl⟩
set_option maxRecDepth 100000 in
theorem mj_r_277 : Cond.code (mj_nm 277) (mj_by 277) (mj_ml 277) (mj_rt 277) ∈ mj_tb := List.mem_filter.mpr ⟨mj_cks_in (i := 12) (j := 2) (by rfl), rfl⟩
set_option maxRecDepth 100000 in
theorem mj_r_278 : Cond.code (mj_nm 278) (mj_by 278) (mj_ml 278) (mj_rt 278) ∈ mj_tb := List.mem_filter.mpr ⟨mj_cks_in (i := 11) (j := 52) (by rfl), rfl⟩
set_option maxRecDepth 100000 in
theorem mj_r_279 : Cond.code (mj_nm 279) (mj_by 279) (mj_ml 279) (mj_rt 279) ∈ mj_tb := List.mem_filter.mpr ⟨mj_cks_in (i := 11) (j := 13) (by rfl), rfl⟩
set_option maxRecDepth 100000 in
theorem mj_r_280 : Cond.code (mj_nm 280) (mj_by 280) (mj_ml 280) (mj_rt 280) ∈ mj_tb := List.mem_filter.mpr ⟨mj_cks_in (i := 11) (j := 143) (by rfl), rfl⟩
set_option maxRecDepth 100000 in
theorem mj_r_281 : Cond.code (mj_nm 281) (mj_by 281) (mj_ml 281) (mj_rt 281) ∈ mj_tb := List.mem_filter.mpr ⟨mj_cks_in (i := 10) (j := 52) (by rfl), rfl⟩
set_option maxRecDepth 100000 in
theorem mj_r_282 : Cond.code (mj_nm 282) (mj_by 282) (mj_ml 282) (mj_rt 282) ∈ mj_tb := List.mem_filter.mpr ⟨mj_cks_in (i := 11) (j := 140) (by rfl), rfl⟩
set_option maxRecDepth 100000 in
theorem mj_r_283 : Cond.code (mj_nm 283) (mj_by 283) (mj_ml 283) (mj_rt 283) ∈ mj_tb := List.mem_filter.mpr ⟨mj_cks_in (i := 12) (j := 39) (by rfl), rfl⟩
set_option maxRecDepth 100000 in
theorem mj_r_284 : Cond.code (mj_nm 284) (mj_by 284) (mj_ml 284) (mj_rt 284) ∈ mj_tb := List.mem_filter.mpr ⟨mj_cks_in (i := 10) (j := 112) (by rfl), rfl⟩
