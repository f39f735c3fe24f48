theorem mj_k_c0 {y : Nat} (h1 : 0 ≤ y) (h2 : y < 16) : mj_ok y = true := by
  rcases (show y = 0 ∨ y = 1 ∨ y = 2 ∨ y = 3 ∨ y = 4 ∨ y = 5 ∨ y = 6 ∨ y = 7 ∨ y = 8 ∨ y = 9 ∨ y = 10 ∨ y = 11 ∨ y = 12 ∨ y = 13 ∨ y = 14 ∨ y = 15 by omega) with rfl | rfl | rfl | rfl | rfl | rfl | rfl | rfl | rfl | rfl | rfl | rfl | rfl | rfl | rfl | rfl
  · exact mj_k_0
  · exact mj_k_1
  · exact mj_k_2
  · exact mj_k_3
  · exact mj_k_4
  · exact mj_k_5
  · exact mj_k_6
  · exact mj_k_7
  · exact mj_k_8
  · exact mj_k_9
  · exact mj_k_10
  · exact mj_k_11
  · exact mj_k_12
  · exact mj_k_13
  · exact mj_k_14
  · exact mj_k_15
theorem mj_k_c16 {y : Nat} (h1 : 16 ≤ y) (h2 : y < 32) : mj_ok y = true := by
  rcases (show y = 16 ∨ y = 17 ∨ y = 18 ∨ y = 19 ∨ y = 20 ∨ y = 21 ∨ y = 22 ∨ y = 23 ∨ y = 24 ∨ y = 25 ∨ y = 26 ∨ y = 27 ∨ y = 28 ∨ y = 29 ∨ y = 30 ∨ y = 31 by omega) with rfl | rfl | rfl | rfl | rfl | rfl | rfl | rfl | rfl | rfl | rfl | rfl | rfl | rfl | rfl | rfl
  · exact mj_k_16
  · exact mj_k_17
  · exact mj_k_18
  · exact mj_k_19
  · exact mj_k_20
  · exact mj_k_21
  · exact mj_k_22
  · exact mj_k_23
  · exact mj_k_24
  · exact mj_k_25
  · exact mj_k_26
  · exact mj_k_27
  · exact mj_k_28
  · exact mj_k_29
  · exact mj_k_30
  · exact mj_k_31
theorem mj_k_c32 {y : Nat} (h1 : 32 ≤ y) (h2 : y < 48) : mj_ok y = true := by
  rcases (show y = 32 ∨ y = 33 ∨ y = 34 ∨ y = 35 ∨ y = 36 ∨ y = 37 ∨ y = 38 ∨ y = 39 ∨ y = 40 ∨ y = 41 ∨ y = 42 ∨ y = 43 ∨ y = 44 ∨ y = 45 ∨ y = 46 ∨ y = 47 by omega) with rfl | rfl | rfl | rfl | rfl | rfl | rfl | rfl | rfl | rfl | rfl | rfl | rfl | rfl | rfl | rfl
  · exact mj_k_32
  · exact mj_k_33
  · exact mj_k_34
  · exact mj_k_35
  · exact mj_k_36
  · exact mj_k_37
  · exact mj_k_38
  · exact mj_k_39
  · exact mj_k_40
  · exact mj_k_41
  · exact mj_k_42
  · exact mj_k_43
  · exact mj_k_44
  · exact mj_k_45
  · exact mj_k_46
  · exact mj_k_47
theorem mj_k_c48 {y : Nat} (h1 : 48 ≤ y) (h2 : y < 64) : mj_ok y = true := by
  rcases (show y = 48 ∨ y = 49 ∨ y = 50 ∨ y = 51 ∨ y = 52 ∨ y = 53 ∨ y = 54 ∨ y = 55 ∨ y = 56 ∨ y = 57 ∨ y = 58 ∨ y = 59 ∨ y = 60 ∨ y = 61 ∨ y = 62 ∨ y = 63 by omega) with rfl | rfl | rfl | rfl | rfl | rfl | rfl | rfl | rfl | rfl | rfl | rfl | rfl | rfl | rfl | rfl
  · exact mj_k_48
  · exact mj_k_49
  · exact mj_k_50
  · exact mj_k_51
  · exact mj_k_52
  · exact mj_k_53
  · exact mj_k_54
  · exact mj_k_55
  · exact mj_k_56
  · exact mj_k_57
  · exact mj_k_58
  · exact mj_k_59
  · exact mj_k_60
  · exact mj_k_61
  · exact mj_k_62
  · exact mj_k_63
theorem mj_k_c64 {y : Nat} (h1 : 64 ≤ y) (h2 : y < 80) : mj_ok y = true := by
  rcases (show y = 64 ∨ y = 65 ∨ y = 66 ∨ y = 67 ∨ y = 68 ∨ y = 69 ∨ y = 70 ∨ y = 71 ∨ y = 72 ∨ y = 73 ∨ y = 74 ∨ y = 75 ∨ y = 76 ∨ y = 77 ∨ y = 78 ∨ y = 79 by omega) with rfl | rfl | rfl | rfl | rfl | rfl | rfl | rfl | rfl | rfl | rfl | rfl | rfl | rfl | rfl | rfl
  · exact mj_k_64
  · exact mj_k_65
  · exact mj_k_66
  · exact mj_k_67
  · exact mj_k_68
  · exact mj_k_69
  · exact mj_k_70
  · exact mj_k_71
  · exact mj_k_72
  · exact mj_k_73
  · exact mj_k_74
  · exact mj_k_75
  · exact mj_k_76
  · exact mj_k_77
  · exact mj_k_78
  · exact mj_k_79
theorem mj_k_c80 {y : Nat} (h1 : 80 ≤ y) (h2 : y < 96) : mj_ok y = true := by
  rcases (show y = 80 ∨ y = 81 ∨ y = 82 ∨ y = 83 ∨ y = 84 ∨ y = 85 ∨ y = 86 ∨ y = 87 ∨ y = 88 ∨ y = 89 ∨ y = 90 ∨ y = 91 ∨ y = 92 ∨ y = 93 ∨ y = 94 ∨ y = 95 by omega) with rfl | rfl | rfl | rfl | rfl | rfl | rfl | rfl | rfl | rfl | rfl | rfl | rfl | rfl | rfl | rfl
  · exact mj_k_80
  · exact mj_k_81
  · exact mj_k_82
  · exact mj_k_83
  · exact mj_k_84
  · exact mj_k_85
  · exact mj_k_86
  · exact mj_k_87
  · exact mj_k_88
  · exact mj_k_89
  · exact mj_k_90
  · exact mj_k_91
  · exact mj_k_92
  · exact mj_k_93
  · exact mj_k_94
  · exact mj_k_95
theorem mj_k_c96 {y : Nat} (h1 : 96 ≤ y) (h2 : y < 112) : mj_ok y = true := by
  rcases (show y = 96 ∨ y = 97 ∨ y = 98 ∨ y = 99 ∨ y = 100 ∨ y = 101 ∨ y = 102 ∨ y = 103 ∨ y = 104 ∨ y = 105 ∨ y = 106 ∨ y = 107 ∨ y = 108 ∨ y = 109 ∨ y = 110 ∨ y = 111 by omega) with rfl | rfl | rfl | rfl | rfl | rfl | rfl | rfl | rfl | rfl | rfl | rfl | rfl | rfl | rfl | rfl
  · exact mj_k_96
  · exact mj_k_97
  · exact mj_k_98
  · exact mj_k_99
  · exact mj_k_100
  · exact mj_k_101
  · exact mj_k_102
  · exact mj_k_103
  · exact mj_k_104
  · exact mj_k_105
  · exact mj_k_106
  · exact mj_k_107
  · exact mj_k_108
  · exact mj_k_109
  · exact mj_k_110
  · exact mj_k_111
theorem mj_k_c112 {y : Nat} (h1 : 112 ≤ y) (h2 : y < 128) : mj_ok y = true := by
  rcases (show y = 112 ∨ y = 113 ∨ y = 114 ∨ y = 115 ∨ y = 116 ∨ y = 117 ∨ y = 118 ∨ y = 119 ∨ y = 120 ∨ y = 121 ∨ y = 122 ∨ y = 123 ∨ y = 124 ∨ y = 125 ∨ y = 126 ∨ y = 127 by omega) with rfl | rfl | rfl | rfl | rfl | rfl | rfl | rfl | rfl | rfl | rfl | rfl | rfl | rfl | rfl | rfl
  · exact mj_k_112
  · exact mj_k_113
  · exact mj_k_114
  · exact mj_k_115
  · exact mj_k_116
  · exact mj_k_117
  · exact mj_k_118
  · exact mj_k_119
  · exact mj_k_120
  · exact mj_k_121
  · exact mj_k_122
  · exact mj_k_123
  · exact mj_k_124
  · exact mj_k_125
  · exact mj_k_126
  · exact mj_k_127
theorem mj_k_c128 {y : Nat} (h1 : 128 ≤ y) (h2 : y < 144) : mj_ok y = true := by
  rcases (show y = 128 ∨ y = 129 ∨ y = 130 ∨ y = 131 ∨ y = 132 ∨ y = 133 ∨ y = 134 ∨ y = 135 ∨ y = 136 ∨ y = 137 ∨ y = 138 ∨ y = 139 ∨ y = 140 ∨ y = 141 ∨ y = 142 ∨ y = 143 by omega) with rfl | rfl | rfl | rfl | rfl | rfl | rfl | rfl | rfl | rfl | rfl | rfl | rfl | rfl | rfl | rfl
  · exact mj_k_128
  · exact mj_k_129
  · exact mj_k_130
  · exact mj_k_131
  · exact mj_k_132
  · exact mj_k_133
  · exact mj_k_134
  · exact mj_k_135
  · exact mj_k_136
  · exact mj_k_137
  · exact mj_k_138
  · exact mj_k_139
  · exact mj_k_140
  · exact mj_k_141
  · exact mj_k_142
  · exact mj_k_143
theorem mj_k_c144 {y : Nat} (h1 : 144 ≤ y) (h2 : y < 160) : mj_ok y = true := by
  rcases (show y = 144 ∨ y = 145 ∨ y = 146 ∨ y = 147 ∨ y = 148 ∨ y = 149 ∨ y = 150 ∨ y = 151 ∨ y = 152 ∨ y = 153 ∨ y = 154 ∨ y = 155 ∨ y = 156 ∨ y = 157 ∨ y = 158 ∨ y = 159 by omega) with rfl | rfl | rfl | rfl | rfl | rfl | rfl | rfl | rfl | rfl | rfl | rfl | rfl | rfl | rfl | rfl
  · exact mj_k_144
  · exact mj_k_145
  · exact mj_k_146
  · exact mj_k_147
  · exact mj_k_148
  · exact mj_k_149
  · exact mj_k_150
  · exact mj_k_151
  · exact mj_k_152
  · exact mj_k_153
  · exact mj_k_154
  · exact mj_k_155
  · exact mj_k_156
  · exact mj_k_157
  · exact mj_k_158
  · exact mj_k_159
theorem mj_k_c160 {y : Nat} (h1 : 160 ≤ y) (h2 : y < 176) : mj_ok y = true := by
  rcases (show y = 160 ∨ y = 161 ∨ y = 162 ∨ y = 163 ∨ y = 164 ∨ y = 165 ∨ y = 166 ∨ y = 167 ∨ y = 168 ∨ y = 169 ∨ y = 170 ∨ y = 171 ∨ y = 172 ∨ y = 173 ∨ y = 174 ∨ y = 175 by omega) with rfl | rfl | rfl | rfl | rfl | rfl | rfl | rfl | rfl | rfl | rfl | rfl | rfl | rfl | rfl | rfl
  · exact mj_k_160
  · exact mj_k_161
  · exact mj_k_162
  · exact mj_k_163
  · exact mj_k_164
  · exact mj_k_165
  · exact mj_k_166
  · exact mj_k_167
  · exact mj_k_168
  · exact mj_k_169
  · exact mj_k_170
  · exact mj_k_171
  · exact mj_k_172
  · exact mj_k_173
  · exact mj_k_174
  · exact mj_k_175
theorem mj_k_c176 {y : Nat} (h1 : 176 ≤ y) (h2 : y < 192) : mj_ok y = true := by
  rcases (show y = 176 ∨ y = 177 ∨ y = 178 ∨ y = 179 ∨ y = 180 ∨ y = 181 ∨ y = 182 ∨ y = 183 ∨ y = 184 ∨ y = 185 ∨ y = 186 ∨ y = 187 ∨ y = 188 ∨ y = 189 ∨ y = 190 ∨ y = 191 by omega) with rfl | rfl | rfl | rfl | rfl | rfl | rfl | rfl | rfl | rfl | rfl | rfl | rfl | rfl | rfl | rfl
  · exact mj_k_176
  · exact mj_k_177
  · exact mj_k_178
  · exact mj_k_179
  · exact mj_k_180
  · exact mj_k_181
  · exact mj_k_182
  · exact mj_k_183
  · exact mj_k_184
  · exact mj_k_185
  · exact mj_k_186
  · exact mj_k_187
  · exact mj_k_188
  · exact mj_k_189
  · exact mj_k_190
  · exact mj_k_191
theorem mj_k_c192 {y : Nat} (h1 : 192 ≤ y) (h2 : y < 208) : mj_ok y = true := by
  rcases (show y = 192 ∨ y = 193 ∨ y = 194 ∨ y = 195 ∨ y = 196 ∨ y = 197 ∨ y = 198 ∨ y = 199 ∨ y = 200 ∨ y = 201 ∨ y = 202 ∨ y = 203 ∨ y = 204 ∨ y = 205 ∨ y = 206 ∨ y = 207 by omega) with rfl | rfl | rfl | rfl | rfl | rfl | rfl | rfl | rfl | rfl | rfl | rfl | rfl | rfl | rfl | rfl
  · exact mj_k_192
  · exact mj_k_193
  · exact mj_k_194
  · exact mj_k_195
  · exact mj_k_196
  · exact mj_k_197
  · exact mj_k_198
  · exact mj_k_199
  · exact mj_k_200
  · exact mj_k_201
  · exact mj_k_202
  · exact mj_k_203
  · exact mj_k_204
  · exact mj_k_205
  · exact mj_k_206
  · exact mj_k_207
theorem mj_k_c208 {y : Nat} (h1 : 208 ≤ y) (h2 : y < 224) : mj_ok y = true := by
  rcases (show y = 208 ∨ y = 209 ∨ y = 210 ∨ y = 211 ∨ y = 212 ∨ y = 213 ∨ y = 214 ∨ y = 215 ∨ y = 216 ∨ y = 217 ∨ y = 218 ∨ y = 219 ∨ y = 220 ∨ y = 221 ∨ y = 222 ∨ y = 223 by omega) with rfl | rfl | rfl | rfl | rfl | rfl | rfl | rfl | rfl | rfl | rfl | rfl | rfl | rfl | rfl | rfl
  · exact mj_k_208
  · exact mj_k_209
  · exact mj_k_210
  · exact mj_k_211
  · exact mj_k_212
  · exact mj_k_213
  · exact mj_k_214
  · exact mj_k_215
  · exact mj_k_216
  · exact mj_k_217
  · exact mj_k_218
  · exact mj_k_219
  · exact mj_k_220
  · exact mj_k_221
  · exact mj_k_222
  · exact mj_k_223
theorem mj_k_c224 {y : Nat} (h1 : 224 ≤ y) (h2 : y < 240) : mj_ok y = true := by
  rcases (show y = 224 ∨ y = 225 ∨ y = 226 ∨ y = 227 ∨ y = 228 ∨ y = 229 ∨ y = 230 ∨ y = 231 ∨ y = 232 ∨ y = 233 ∨ y = 234 ∨ y = 235 ∨ y = 236 ∨ y = 237 ∨ y = 238 ∨ y = 239 by omega) with rfl | rfl | rfl | rfl | rfl | rfl | rfl | rfl | rfl | rfl | rfl | rfl | rfl | rfl | rfl | rfl
  · exact mj_k_224
  · exact mj_k_225
  · exact mj_k_226
  · exact mj_k_227
  · exact mj_k_228
  · exact mj_k_229
  · exact mj_k_230
  · exact mj_k_231
  · exact mj_k_232
  · exact mj_k_233
  · exact mj_k_234
  · exact mj_k_235
  · exact mj_k_236
  · exact mj_k_237
  · exact mj_k_238
  · exact mj_k_239
theorem mj_k_c240 {y : Nat} (h1 : 240 ≤ y) (h2 : y < 256) : mj_ok y = true := by
  rcases (show y = 240 ∨ y = 241 ∨ y = 242 ∨ y = 243 ∨ y = 244 ∨ y = 245 ∨ y = 246 ∨ y = 247 ∨ y = 248 ∨ y = 249 ∨ y = 250 ∨ y = 251 ∨ y = 252 ∨ y = 253 ∨ y = 254 ∨ y = 255 by omega) with rfl | rfl | rfl | rfl | rfl | rfl | rfl | rfl | rfl | rfl | rfl | rfl | rfl | rfl | rfl | rfl
  · exact mj_k_240
  · exact mj_k_241
  · exact mj_k_242
  · exact mj_k_243
  · exact mj_k_244
  · exact mj_k_245
  · exact mj_k_246
  · exact mj_k_247
  · exact mj_k_248
  · exact mj_k_249
  · exact mj_k_250
  · exact mj_k_251
  · exact mj_k_252
  · exact mj_k_253
  · exact mj_k_254
  · exact mj_k_255
theorem mj_k_c256 {y : Nat} (h1 : 256 ≤ y) (h2 : y < 272) : mj_ok y = true := by
  rcases (show y = 256 ∨ y = 257 ∨ y = 258 ∨ y = 259 ∨ y = 260 ∨ y = 261 ∨ y = 262 ∨ y = 263 ∨ y = 264 ∨ y = 265 ∨ y = 266 ∨ y = 267 ∨ y = 268 ∨ y = 269 ∨ y = 270 ∨ y = 271 by omega) with rfl | rfl | rfl | rfl | rfl | rfl | rfl | rfl | rfl | rfl | rfl | rfl | rfl | rfl | rfl | rfl
  · exact mj_k_256
  · exact mj_k_257
  · exact mj_k_258
  · exact mj_k_259
  · exact mj_k_260
  · exact mj_k_261
  · exact mj_k_262
  · exact mj_k_263
  · exact mj_k_264
  · exact mj_k_265
  · exact mj_k_266
  · exact mj_k_267
  · exact mj_k_268
  · exact mj_k_269
  · exact mj_k_270
  · exact mj_k_271
theorem mj_k_c272 {y : Nat} (h1 : 272 ≤ y) (h2 : y < 285) : mj_ok y = true := by
  rcases (show y = 272 ∨ y = 273 ∨ y = 274 ∨ y = 275 ∨ y = 276 ∨ y = 277 ∨ y = 278 ∨ y = 279 ∨ y = 280 ∨ y = 281 ∨ y = 282 ∨ y = 283 ∨ y = 284 by omega) with rfl | rfl | rfl | rfl | rfl | rfl | rfl | rfl | rfl | rfl | rfl | rfl | rfl
  · exact mj_k_272
  · exact mj_k_273
  · exact mj_k_274
  · exact mj_k_275
  · exact mj_k_276
  · exact mj_k_277
  · exact mj_k_278
  · exact mj_k_279
  · exact mj_k_280
  · exact mj_k_281
  · exact mj_k_282
  · exact mj_k_283
  · exact mj_k_284
theorem mj_k_all {y : Nat} (hy : y < mj_NM) : mj_ok y = true := by
  have hy : y < 285 := hy
  rcases Nat.lt_or_ge y 16 with h | h
  · exact mj_k_c0 (by omega) h
  rcases Nat.lt_or_ge y 32 with h | h
  · exact mj_k_c16 (by omega) h
  rcases Nat.lt_or_ge y 48 with h | h
  · exact mj_k_c32 (by omega) h
  rcases Nat.lt_or_ge y 64 with h | h
  · exact mj_k_c48 (by omega) h
  rcases Nat.lt_or_ge y 80 with h | h
  · exact mj_k_c64 (by omega) h
  rcases Nat.lt_or_ge y 96 with h | h
  · exact mj_k_c80 (by omega) h
  rcases Nat.lt_or_ge y 112 with h | h
  · exact mj_k_c96 (by omega) h
  rcases Nat.lt_or_ge y 128 with h | h
  · exact mj_k_c112 (by omega) h
  rcases Nat.lt_or_ge y 144 with h | h
  · exact mj_k_c128 (by omega) h
  rcases Nat.lt_or_ge y 160 with h | h
  · exact mj_k_c144 (by omega) h
  rcases Nat.lt_or_ge y 176 with h | h
  · exact mj_k_c160 (by omega) h
  rcases Nat.lt_or_ge y 192 with h | h
  · exact mj_k_c176 (by omega) h
  rcases Nat.lt_or_ge y 208 with h | h
  · exact mj_k_c192 (by omega) h
  rcases Nat.lt_or_ge y 224 with h | h
  · exact mj_k_c208 (by omega) h
  rcases Nat.lt_or_ge y 240 with h | h
  · exact mj_k_c224 (by omega) h
  rcases Nat.lt_or_ge y 256 with h | h
  · exact mj_k_c240 (by omega) h
  rcases Nat.lt_or_ge y 272 with h | h
  · exact mj_k_c256 (by omega) h
  exact mj_k_c272 (by omega) hy
theorem mj_q_c0 {y : Nat} (h1 : 0 ≤ y) (h2 : y < 16) : mj_yok y = true := by
  rcases (show y = 0 ∨ y = 1 ∨ y = 2 ∨ y = 3 ∨ y = 4 ∨ y = 5 ∨ y = 6 ∨ y = 7 ∨ y = 8 ∨ y = 9 ∨ y = 10 ∨ y = 11 ∨ y = 12 ∨ y = 13 ∨ y = 14 ∨ y = 15 by omega) with rfl | rfl | rfl | rfl | rfl | rfl | rfl | rfl | rfl | rfl | rfl | rfl | rfl | rfl | rfl | rfl
  · exact mj_q_0
  · exact mj_q_1
  · exact mj_q_2
  · exact mj_q_3
  · exact mj_q_4
  · exact mj_q_5
  · exact mj_q_6
  · exact mj_q_7
  · exact mj_q_8
  · exact mj_q_9
  · exact mj_q_10
  · exact mj_q_11
  · exact mj_q_12
  · exact mj_q_13
  · exact mj_q_14
  · exact mj_q_15
theorem mj_q_c16 {y : Nat} (h1 : 16 ≤ y) (h2 : y < 32) : mj_yok y = true := by
  rcases (show y = 16 ∨ y = 17 ∨ y = 18 ∨ y = 19 ∨ y = 20 ∨ y = 21 ∨ y = 22 ∨ y = 23 ∨ y = 24 ∨ y = 25 ∨ y = 26 ∨ y = 27 ∨ y = 28 ∨ y = 29 ∨ y = 30 ∨ y = 31 by omega) with rfl | rfl | rfl | rfl | rfl | rfl | rfl | rfl | rfl | rfl | rfl | rfl | rfl | rfl | rfl | rfl
  · exact mj_q_16
  · exact mj_q_17
  · exact mj_q_18
  · exact mj_q_19
  · exact mj_q_20
  · exact mj_q_21
  · exact mj_q_22
  · exact mj_q_23
  · exact mj_q_24
  · exact mj_q_25
  · exact mj_q_26
  · exact mj_q_27
  · exact mj_q_28
  · exact mj_q_29
  · exact mj_q_30
  · exact mj_q_31
theorem mj_q_c32 {y : Nat} (h1 : 32 ≤ y) (h2 : y < 48) : mj_yok y = true := by
  rcases (show y = 32 ∨ y = 33 ∨ y = 34 ∨ y = 35 ∨ y = 36 ∨ y = 37 ∨ y = 38 ∨ y = 39 ∨ y = 40 ∨ y = 41 ∨ y = 42 ∨ y = 43 ∨ y = 44 ∨ y = 45 ∨ y = 46 ∨ y = 47 by omega) with rfl | rfl | rfl | rfl | rfl | rfl | rfl | rfl | rfl | rfl | rfl | rfl | rfl | rfl | rfl | rfl
  · exact mj_q_32
  · exact mj_q_33
  · exact mj_q_34
  · exact mj_q_35
  · exact mj_q_36
  · exact mj_q_37
  · exact mj_q_38
  · exact mj_q_39
  · exact mj_q_40
  · exact mj_q_41
  · exact mj_q_42
  · exact mj_q_43
  · exact mj_q_44
  · exact mj_q_45
  · exact mj_q_46
  · exact mj_q_47
theorem mj_q_c48 {y : Nat} (h1 : 48 ≤ y) (h2 : y < 64) : mj_yok y = true := by
  rcases (show y = 48 ∨ y = 49 ∨ y = 50 ∨ y = 51 ∨ y = 52 ∨ y = 53 ∨ y = 54 ∨ y = 55 ∨ y = 56 ∨ y = 57 ∨ y = 58 ∨ y = 59 ∨ y = 60 ∨ y = 61 ∨ y = 62 ∨ y = 63 by omega) with rfl | rfl | rfl | rfl | rfl | rfl | rfl | rfl | rfl | rfl | rfl | rfl | rfl | rfl | rfl | rfl
  · exact mj_q_48
  · exact mj_q_49
  · exact mj_q_50
  · exact mj_q_51
  · exact mj_q_52
  · exact mj_q_53
  · exact mj_q_54
  · exact mj_q_55
  · exact mj_q_56
  · exact mj_q_57
  · exact mj_q_58
  · exact mj_q_59
  · exact mj_q_60
  · exact mj_q_61
  · exact mj_q_62
  · exact mj_q_63
theorem mj_q_c64 {y : Nat} (h1 : 64 ≤ y) (h2 : y < 80) : mj_yok y = true := by
  rcases (show y = 64 ∨ y = 65 ∨ y = 66 ∨ y = 67 ∨ y = 68 ∨ y = 69 ∨ y = 70 ∨ y = 71 ∨ y = 72 ∨ y = 73 ∨ y = 74 ∨ y = 75 ∨ y = 76 ∨ y = 77 ∨ y = 78 ∨ y = 79 by omega) with rfl | rfl | rfl | rfl | rfl | rfl | rfl | rfl | rfl | rfl | rfl | rfl | rfl | rfl | rfl | rfl
  · exact mj_q_64
  · exact mj_q_65
  · exact mj_q_66
  · exact mj_q_67
  · exact mj_q_68
  · exact mj_q_69
  · exact mj_q_70
  · exact mj_q_71
  · exact mj_q_72
  · exact mj_q_73
  · exact mj_q_74
  · exact mj_q_75
  · exact mj_q_76
  · exact mj_q_77
  · exact mj_q_78
  · exact mj_q_79
theorem mj_q_c80 {y : Nat} (h1 : 80 ≤ y) (h2 : y < 96) : mj_yok y = true := by
  rcases (show y = 80 ∨ y = 81 ∨ y = 82 ∨ y = 83 ∨ y = 84 ∨ y = 85 ∨ y = 86 ∨ y = 87 ∨ y = 88 ∨ y = 89 ∨ y = 90 ∨ y = 91 ∨ y = 92 ∨ y = 93 ∨ y = 94 ∨ y = 95 by omega) with rfl | rfl | rfl | rfl | rfl | rfl | rfl | rfl | rfl | rfl | rfl | rfl | rfl | rfl | rfl | rfl
  · exact mj_q_80
  · exact mj_q_81
  · exact mj_q_82
  · exact mj_q_83
  · exact mj_q_84
  · exact mj_q_85
  · exact mj_q_86
  · exact mj_q_87
  · exact mj_q_88
  · exact mj_q_89
  · exact mj_q_90
  · exact mj_q_91
  · exact mj_q_92
  · exact mj_q_93
  · exact mj_q_94
  · exact mj_q_95
theorem mj_q_c96 {y : Nat} (h1 : 96 ≤ y) (h2 : y < 112) : mj_yok y = true := by
  rcases (show y = 96 ∨ y = 97 ∨ y = 98 ∨ y = 99 ∨ y = 100 ∨ y = 101 ∨ y = 102 ∨ y = 103 ∨ y = 104 ∨ y = 105 ∨ y = 106 ∨ y = 107 ∨ y = 108 ∨ y = 109 ∨ y = 110 ∨ y = 111 by omega) with rfl | rfl | rfl | rfl | rfl | rfl | rfl | rfl | rfl | rfl | rfl | rfl | rfl | rfl | rfl | rfl
  · exact mj_q_96
  · exact mj_q_97
  · exact mj_q_98
  · exact mj_q_99
  · exact mj_q_100
  · exact mj_q_101
  · exact mj_q_102
  · exact mj_q_103
  · exact mj_q_104
  · exact mj_q_105
  · exact mj_q_106
  · exact mj_q_107
  · exact mj_q_108
  · exact mj_q_109
  · exact mj_q_110
  · exact mj_q_111
theorem mj_q_c112 {y : Nat} (h1 : 112 ≤ y) (h2 : y < 128) : mj_yok y = true := by
  rcases (show y = 112 ∨ y = 113 ∨ y = 114 ∨ y = 115 ∨ y = 116 ∨ y = 117 ∨ y = 118 ∨ y = 119 ∨ y = 120 ∨ y = 121 ∨ y = 122 ∨ y = 123 ∨ y = 124 ∨ y = 125 ∨ y = 126 ∨ y = 127 by omega) with rfl | rfl | rfl | rfl | rfl | rfl | rfl | rfl | rfl | rfl | rfl | rfl | rfl | rfl | rfl | rfl
  · exact mj_q_112
  · exact mj_q_113
  · exact mj_q_114
  · exact mj_q_115
  · exact mj_q_116
  · exact mj_q_117
  · exact mj_q_118
  · exact mj_q_119
  · exact mj_q_120
  · exact mj_q_121
  · exact mj_q_122
  · exact mj_q_123
  · exact mj_q_124
  · exact mj_q_125
  · exact mj_q_126
  · exact mj_q_127
theorem mj_q_c128 {y : Nat} (h1 : 128 ≤ y) (h2 : y < 144) : mj_yok y = true := by
  rcases (show y = 128 ∨ y = 129 ∨ y = 130 ∨ y = 131 ∨ y = 132 ∨ y = 133 ∨ y = 134 ∨ y = 135 ∨ y = 136 ∨ y = 137 ∨ y = 138 ∨ y = 139 ∨ y = 140 ∨ y = 141 ∨ y = 142 ∨ y = 143 by omega) with rfl | rfl | rfl | rfl | rfl | rfl | rfl | rfl | rfl | rfl | rfl | rfl | rfl | rfl | rfl | rfl
  · exact mj_q_128
  · exact mj_q_129
  · exact mj_q_130
  · exact mj_q_131
  · exact mj_q_132
  · exact mj_q_133
  · exact mj_q_134
  · exact mj_q_135
  · exact mj_q_136
  · exact mj_q_137
  · exact mj_q_138
  · exact mj_q_139
  · exact mj_q_140
  · exact mj_q_141
  · exact mj_q_142
  · exact mj_q_143
theorem mj_q_c144 {y : Nat} (h1 : 144 ≤ y) (h2 : y < 160) : mj_yok y = true := by
  rcases (show y = 144 ∨ y = 145 ∨ y = 146 ∨ y = 147 ∨ y = 148 ∨ y = 149 ∨ y = 150 ∨ y = 151 ∨ y = 152 ∨ y = 153 ∨ y = 154 ∨ y = 155 ∨ y = 156 ∨ y = 157 ∨ y = 158 ∨ y = 159 by omega) with rfl | rfl | rfl | rfl | rfl | rfl | rfl | rfl | rfl | rfl | rfl | rfl | rfl | rfl | rfl | rfl
  · exact mj_q_144
  · exact mj_q_145
  · exact mj_q_146
  · exact mj_q_147
  · exact mj_q_148
  · exact mj_q_149
  · exact mj_q_150
  · exact mj_q_151
  · exact mj_q_152
  · exact mj_q_153
  · exact mj_q_154
  · exact mj_q_155
  · exact mj_q_156
  · exact mj_q_157
  · exact mj_q_158
  · exact mj_q_159
theorem mj_q_c160 {y : Nat} (h1 : 160 ≤ y) (h2 : y < 176) : mj_yok y = true := by
  rcases (show y = 160 ∨ y = 161 ∨ y = 162 ∨ y = 163 ∨ y = 164 ∨ y = 165 ∨ y = 166 ∨ y = 167 ∨ y = 168 ∨ y = 169 ∨ y = 170 ∨ y = 171 ∨ y = 172 ∨ y = 173 ∨ y = 174 ∨ y = 175 by omega) with rfl | rfl | rfl | rfl | rfl | rfl | rfl | rfl | rfl | rfl | rfl | rfl | rfl | rfl | rfl | rfl
  · exact mj_q_160
  · exact mj_q_161
  · exact mj_q_162
  · exact mj_q_163
  · exact mj_q_164
  · exact mj_q_165
  · exact mj_q_166
  · exact mj_q_167
  · exact mj_q_168
  · exact mj_q_169
  · exact mj_q_170
  · exact mj_q_171
  · exact mj_q_172
  · exact mj_q_173
  · exact mj_q_174
  · exact mj_q_175
theorem mj_q_c176 {y : Nat} (h1 : 176 ≤ y) (h2 : y < 192) : mj_yok y = true := by
  rcases (show y = 176 ∨ y = 177 ∨ y = 178 ∨ y = 179 ∨ y = 180 ∨ y = 181 ∨ y = 182 ∨ y = 183 ∨ y = 184 ∨ y = 185 ∨ y = 186 ∨ y = 187 ∨ y = 188 ∨ y = 189 ∨ y = 190 ∨ y = 191 by omega) with rfl | rfl | rfl | rfl | rfl | rfl | rfl | rfl | rfl | rfl | rfl | rfl | rfl | rfl | rfl | rfl
  · exact mj_q_176
  · exact mj_q_177
  · exact mj_q_178
  · exact mj_q_179
  · exact mj_q_180
  · exact mj_q_181
  · exact mj_q_182
  · exact mj_q_183
  · exact mj_q_184
  · exact mj_q_185
  · exact mj_q_186
  · exact mj_q_187
  · exact mj_q_188
  · exact mj_q_189
  · exact mj_q_190
  · exact mj_q_191
theorem mj_q_c192 {y : Nat} (h1 : 192 ≤ y) (h2 : y < 208) : mj_yok y = true := by
  rcases (show y = 192 ∨ y = 193 ∨ y = 194 ∨ y = 195 ∨ y = 196 ∨ y = 197 ∨ y = 198 ∨ y = 199 ∨ y = 200 ∨ y = 201 ∨ y = 202 ∨ y = 203 ∨ y = 204 ∨ y = 205 ∨ y = 206 ∨ y = 207 by omega) with rfl | rfl | rfl | rfl | rfl | rfl | rfl | rfl | rfl | rfl | rfl | rfl | rfl | rfl | rfl | rfl
  · exact mj_q_192
  · exact mj_q_193
  · exact mj_q_194
  · exact mj_q_195
  · exact mj_q_196
  · exact mj_q_197
  · exact mj_q_198
  · exact mj_q_199
  · exact mj_q_200
  · exact mj_q_201
  · exact mj_q_202
  · exact mj_q_203
  · exact mj_q_204
  · exact mj_q_205
  · exact mj_q_206
  · exact mj_q_207
theorem mj_q_c208 {y : Nat} (h1 : 208 ≤ y) (h2 : y < 224) : mj_yok y = true := by
  rcases (show y = 208 ∨ y = 209 ∨ y = 210 ∨ y = 211 ∨ y = 212 ∨ y = 213 ∨ y = 214 ∨ y = 215 ∨ y = 216 ∨ y = 217 ∨ y = 218 ∨ y = 219 ∨ y = 220 ∨ y = 221 ∨ y = 222 ∨ y = 223 by omega) with rfl | rfl | rfl | rfl | rfl | rfl | rfl | rfl | rfl | rfl | rfl | rfl | rfl | rfl | rfl | rfl
  · exact mj_q_208
  · exact mj_q_209
  · exact mj_q_210
  · exact mj_q_211
  · exact mj_q_212
  · exact mj_q_213
  · exact mj_q_214
  · exact mj_q_215
  · exact mj_q_216
  · exact mj_q_217
  · exact mj_q_218
  · exact mj_q_219
  · exact mj_q_220
  · exact mj_q_221
  · exact mj_q_222
  · exact mj_q_223
theorem mj_q_c224 {y : Nat} (h1 : 224 ≤ y) (h2 : y < 240) : mj_yok y = true := by
  rcases (show y = 224 ∨ y = 225 ∨ y = 226 ∨ y = 227 ∨ y = 228 ∨ y = 229 ∨ y = 230 ∨ y = 231 ∨ y = 232 ∨ y = 233 ∨ y = 234 ∨ y = 235 ∨ y = 236 ∨ y = 237 ∨ y = 238 ∨ y = 239 by omega) with rfl | rfl | rfl | rfl | rfl | rfl | rfl | rfl | rfl | rfl | rfl | rfl | rfl | rfl | rfl | rfl
  · exact mj_q_224
  · exact mj_q_225
  · exact mj_q_226
  · exact mj_q_227
  · exact mj_q_228
  · exact mj_q_229
  · exact mj_q_230
  · exact mj_q_231
  · exact mj_q_232
  · exact mj_q_233
  · exact mj_q_234
  · exact mj_q_235
  · exact mj_q_236
  · exact mj_q_237
  · exact mj_q_238
  · exact mj_q_239
theorem mj_q_c240 {y : Nat} (h1 : 240 ≤ y) (h2 : y < 256) : mj_yok y = true := by
  rcases (show y = 240 ∨ y = 241 ∨ y = 242 ∨ y = 243 ∨ y = 244 ∨ y = 245 ∨ y = 246 ∨ y = 247 ∨ y = 248 ∨ y = 249 ∨ y = 250 ∨ y = 251 ∨ y = 252 ∨ y = 253 ∨ y = 254 ∨ y = 255 by omega) with rfl | rfl | rfl | rfl | rfl | rfl | rfl | rfl | rfl | rfl | rfl | rfl | rfl | rfl | rfl | rfl
  · exact mj_q_240
  · exact mj_q_241
  · exact mj_q_242
  · exact mj_q_243
  · exact mj_q_244
  · exact mj_q_245
  · exact mj_q_246
  · exact mj_q_247
  · exact mj_q_248
  · exact mj_q_249
  · exact mj_q_250
  · exact mj_q_251
  · exact mj_q_252
  · exact mj_q_253
  · exact mj_q_254
  · exact mj_q_255
theorem mj_q_c256 {y : Nat} (h1 : 256 ≤ y) (h2 : y < 272) : mj_yok y = true := by
  rcases (show y = 256 ∨ y = 257 ∨ y = 258 ∨ y = 259 ∨ y = 260 ∨ y = 261 ∨ y = 262 ∨ y = 263 ∨ y = 264 ∨ y = 265 ∨ y = 266 ∨ y = 267 ∨ y = 268 ∨ y = 269 ∨ y = 270 ∨ y = 271 by omega) with rfl | rfl | rfl | rfl | rfl | rfl | rfl | rfl | rfl | rfl | rfl | rfl | rfl | rfl | rfl | rfl
  · exact mj_q_256
  · exact mj_q_257
  · exact mj_q_258
  · exact mj_q_259
  · exact mj_q_260
  · exact mj_q_261
  · exact mj_q_262
  · exact mj_q_263
  · exact mj_q_264
  · exact mj_q_265
  · exact mj_q_266
  · exact mj_q_267
  · exact mj_q_268
  · exact mj_q_269
  · exact mj_q_270
  · exact mj_q_271
theorem mj_q_c272 {y : Nat} (h1 : 272 ≤ y) (h2 : y < 285) : mj_yok y = true := by
  rcases (show y = 272 ∨ y = 273 ∨ y = 274 ∨ y = 275 ∨ y = 276 ∨ y = 277 ∨ y = 278 ∨ y = 279 ∨ y = 280 ∨ y = 281 ∨ y = 282 ∨ y = 283 ∨ y = 284 by omega) with rfl | rfl | rfl | rfl | rfl | rfl | rfl | rfl | rfl | rfl | rfl | rfl | rfl
  · exact mj_q_272
  · exact mj_q_273
  · exact mj_q_274
  · exact mj_q_275
  · exact mj_q_276
  · exact mj_q_277
  · exact mj_q_278
  · exact mj_q_279
  · exact mj_q_280
  · exact mj_q_281
  · exact mj_q_282
  · exact mj_q_283
  · exact mj_q_284
theorem mj_q_all {y : Nat} (hy : y < mj_NM) : mj_yok y = true := by
  have hy : y < 285 := hy
  rcases Nat.lt_or_ge y 16 with h | h
  · exact mj_q_c0 (by omega) h
  rcases Nat.lt_or_ge y 32 with h | h
  · exact mj_q_c16 (by omega) h
  rcases Nat.lt_or_ge y 48 with h | h
  · exact mj_q_c32 (by omega) h
  rcases Nat.lt_or_ge y 64 with h | h
  · exact mj_q_c48 (by omega) h
  rcases Nat.lt_or_ge y 80 with h | h
  · exact mj_q_c64 (by omega) h
  rcases Nat.lt_or_ge y 96 with h | h
  · exact mj_q_c80 (by omega) h
  rcases Nat.lt_or_ge y 112 with h | h
  · exact mj_q_c96 (by omega) h
  rcases Nat.lt_or_ge y 128 with h | h
  · exact mj_q_c112 (by omega) h
  rcases Nat.lt_or_ge y 144 with h | h
  · exact mj_q_c128 (by omega) h
  rcases Nat.lt_or_ge y 160 with h | h
  · exact mj_q_c144 (by omega) h
  rcases Nat.lt_or_ge y 176 with h | h
  · exact mj_q_c160 (by omega) h
  rcases Nat.lt_or_ge y 192 with h | h
  · exact mj_q_c176 (by omega) h
  rcases Nat.lt_or_ge y 208 with h | h
  · exact mj_q_c192 (by omega) h
  rcases Nat.lt_or_ge y 224 with h | h
  · exact mj_q_c208 (by omega) h
  rcases Nat.lt_or_ge y 240 with h | h
  · exact mj_q_c224 (by omega) h
  rcases Nat.lt_or_ge y 256 with h | h
  · exact mj_q_c240 (by omega) h
  rcases Nat.lt_or_ge y 272 with h | h
  · exact mj_q_c256 (by omega) h
  exact mj_q_c272 (by omega) hy
theorem mj_r_c0 {y : Nat} (h1 : 0 ≤ y) (h2 : y < 16) : Cond.code (mj_nm y) (mj_by y) (mj_ml y) (mj_rt y) ∈ mj_tb := by
  rcases (show y = 0 ∨ y = 1 ∨ y = 2 ∨ y = 3 ∨ y = 4 ∨ y = 5 ∨ y = 6 ∨ y = 7 ∨ y = 8 ∨ y = 9 ∨ y = 10 ∨ y = 11 ∨ y = 12 ∨ y = 13 ∨ y = 14 ∨ y = 15 by omega) with rfl | rfl | rfl | rfl | rfl | rfl | rfl | rfl | rfl | rfl | rfl | rfl | rfl | rfl | rfl | rfl
  · exact mj_r_0
  · exact mj_r_1
  · exact mj_r_2
  · exact mj_r_3
  · exact mj_r_4
  · exact mj_r_5
  · exact mj_r_6
  · exact mj_r_7
  · exact mj_r_8
  · exact mj_r_9
  · exact mj_r_10
  · exact mj_r_11
  · exact mj_r_12
  · exact mj_r_13
  · exact mj_r_14
  · exact mj_r_15
theorem mj_r_c16 {y : Nat} (h1 : 16 ≤ y) (h2 : y < 32) : Cond.code (mj_nm y) (mj_by y) (mj_ml y) (mj_rt y) ∈ mj_tb := by
  rcases (show y = 16 ∨ y = 17 ∨ y = 18 ∨ y = 19 ∨ y = 20 ∨ y = 21 ∨ y = 22 ∨ y = 23 ∨ y = 24 ∨ y = 25 ∨ y = 26 ∨ y = 27 ∨ y = 28 ∨ y = 29 ∨ y = 30 ∨ y = 31 by omega) with rfl | rfl | rfl | rfl | rfl | rfl | rfl | rfl | rfl | rfl | rfl | rfl | rfl | rfl | rfl | rfl
  · exact mj_r_16
  · exact mj_r_17
  · exact mj_r_18
  · exact mj_r_19
  · exact mj_r_20
  · exact mj_r_21
  · exact mj_r_22
  · exact mj_r_23
  · exact mj_r_24
  · exact mj_r_25
  · exact mj_r_26
  · exact mj_r_27
  · exact mj_r_28
  · exact mj_r_29
  · exact mj_r_30
  · exact mj_r_31
theorem mj_r_c32 {y : Nat} (h1 : 32 ≤ y) (h2 : y < 48) : Cond.code (mj_nm y) (mj_by y) (mj_ml y) (mj_rt y) ∈ mj_tb := by
  rcases (show y = 32 ∨ y = 33 ∨ y = 34 ∨ y = 35 ∨ y = 36 ∨ y = 37 ∨ y = 38 ∨ y = 39 ∨ y = 40 ∨ y = 41 ∨ y = 42 ∨ y = 43 ∨ y = 44 ∨ y = 45 ∨ y = 46 ∨ y = 47 by omega) with rfl | rfl | rfl | rfl | rfl | rfl | rfl | rfl | rfl | rfl | rfl | rfl | rfl | rfl | rfl | rfl
  · exact mj_r_32
  · exact mj_r_33
  · exact mj_r_34
  · exact mj_r_35
  · exact mj_r_36
  · exact mj_r_37
  · exact mj_r_38
  · exact mj_r_39
  · exact mj_r_40
  · exact mj_r_41
  · exact mj_r_42
  · exact mj_r_43
  · exact mj_r_44
  · exact mj_r_45
  · exact mj_r_46
  · exact mj_r_47
theorem mj_r_c48 {y : Nat} (h1 : 48 ≤ y) (h2 : y < 64) : Cond.code (mj_nm y) (mj_by y) (mj_ml y) (mj_rt y) ∈ mj_tb := by
  rcases (show y = 48 ∨ y = 49 ∨ y = 50 ∨ y = 51 ∨ y = 52 ∨ y = 53 ∨ y = 54 ∨ y = 55 ∨ y = 56 ∨ y = 57 ∨ y = 58 ∨ y = 59 ∨ y = 60 ∨ y = 61 ∨ y = 62 ∨ y = 63 by omega) with rfl | rfl | rfl | rfl | rfl | rfl | rfl | rfl | rfl | rfl | rfl | rfl | rfl | rfl | rfl | rfl
  · exact mj_r_48
  · exact mj_r_49
  · exact mj_r_50
  · exact mj_r_51
  · exact mj_r_52
  · exact mj_r_53
  · exact mj_r_54
  · exact mj_r_55
  · exact mj_r_56
  · exact mj_r_57
  · exact mj_r_58
  · exact mj_r_59
  · exact mj_r_60
  · exact mj_r_61
  · exact mj_r_62
  · exact mj_r_63
theorem mj_r_c64 {y : Nat} (h1 : 64 ≤ y) (h2 : y < 80) : Cond.code (mj_nm y) (mj_by y) (mj_ml y) (mj_rt y) ∈ mj_tb := by
  rcases (show y = 64 ∨ y = 65 ∨ y = 66 ∨ y = 67 ∨ y = 68 ∨ y = 69 ∨ y = 70 ∨ y = 71 ∨ y = 72 ∨ y = 73 ∨ y = 74 ∨ y = 75 ∨ y = 76 ∨ y = 77 ∨ y = 78 ∨ y = 79 by omega) with rfl | rfl | rfl | rfl | rfl | rfl | rfl | rfl | rfl | rfl | rfl | rfl | rfl | rfl | rfl | rfl
  · exact mj_r_64
  · exact mj_r_65
  · exact mj_r_66
  · exact mj_r_67
  · exact mj_r_68
  · exact mj_r_69
  · exact mj_r_70
  · exact mj_r_71
  · exact mj_r_72
  · exact mj_r_73
  · exact mj_r_74
  · exact mj_r_75
  · exact mj_r_76
  · exact mj_r_77
  · exact mj_r_78
  · exact mj_r_79
theorem mj_r_c80 {y : Nat} (h1 : 80 ≤ y) (h2 : y < 96) : Cond.code (mj_nm y) (mj_by y) (mj_ml y) (mj_rt y) ∈ mj_tb := by
  rcases (show y = 80 ∨ y = 81 ∨ y = 82 ∨ y = 83 ∨ y = 84 ∨ y = 85 ∨ y = 86 ∨ y = 87 ∨ y = 88 ∨ y = 89 ∨ y = 90 ∨ y = 91 ∨ y = 92 ∨ y = 93 ∨ y = 94 ∨ y = 95 by omega) with rfl | rfl | rfl | rfl | rfl | rfl | rfl | rfl | rfl | rfl | rfl | rfl | rfl | rfl | rfl | rfl
  · exact mj_r_80
  · exact mj_r_81
  · exact mj_r_82
  · exact mj_r_83
  · exact mj_r_84
  · exact mj_r_85
  · exact mj_r_86
  · exact mj_r_87
  · exact mj_r_88
  · exact mj_r_89
  · exact mj_r_90
  · exact mj_r_91
  · exact mj_r_92
  · exact mj_r_93
  · exact mj_r_94
  · exact mj_r_95
theorem mj_r_c96 {y : Nat} (h1 : 96 ≤ y) (h2 : y < 112) : Cond.code (mj_nm y) (mj_by y) (mj_ml y) (mj_rt y) ∈ mj_tb := by
  rcases (show y = 96 ∨ y = 97 ∨ y = 98 ∨ y = 99 ∨ y = 100 ∨ y = 101 ∨ y = 102 ∨ y = 103 ∨ y = 104 ∨ y = 105 ∨ y = 106 ∨ y = 107 ∨ y = 108 ∨ y = 109 ∨ y = 110 ∨ y = 111 by omega) with rfl | rfl | rfl | rfl | rfl | rfl | rfl | rfl | rfl | rfl | rfl | rfl | rfl | rfl | rfl | rfl
  · exact mj_r_96
  · exact mj_r_97
  · exact mj_r_98
  · exact mj_r_99
  · exact mj_r_100
  · exact mj_r_101
  · exact mj_r_102
  · exact mj_r_103
  · exact mj_r_104
  · exact mj_r_105
  · exact mj_r_106
  · exact mj_r_107
  · exact mj_r_108
  · exact mj_r_109
  · exact mj_r_110
  · exact mj_r_111
theorem mj_r_c112 {y : Nat} (h1 : 112 ≤ y) (h2 : y < 128) : Cond.code (mj_nm y) (mj_by y) (mj_ml y) (mj_rt y) ∈ mj_tb := by
  rcases (show y = 112 ∨ y = 113 ∨ y = 114 ∨ y = 115 ∨ y = 116 ∨ y = 117 ∨ y = 118 ∨ y = 119 ∨ y = 120 ∨ y = 121 ∨ y = 122 ∨ y = 123 ∨ y = 124 ∨ y = 125 ∨ y = 126 ∨ y = 127 by omega) with rfl | rfl | rfl | rfl | rfl | rfl | rfl | rfl | rfl | rfl | rfl | rfl | rfl | rfl | rfl | rfl
  · exact mj_r_112
  · exact mj_r_113
  · exact mj_r_114
  · exact mj_r_115
  · exact mj_r_116
  · exact mj_r_117
  · exact mj_r_118
  · exact mj_r_119
  · exact mj_r_120
  · exact mj_r_121
  · exact mj_r_122
  · exact mj_r_123
  · exact mj_r_124
  · exact mj_r_125
  · exact mj_r_126
  · exact mj_r_127
theorem mj_r_c128 {y : Nat} (h1 : 128 ≤ y) (h2 : y < 144) : Cond.code (mj_nm y) (mj_by y) (mj_ml y) (mj_rt y) ∈ mj_tb := by
  rcases (show y = 128 ∨ y = 129 ∨ y = 130 ∨ y = 131 ∨ y = 132 ∨ y = 133 ∨ y = 134 ∨ y = 135 ∨ y = 136 ∨ y = 137 ∨ y = 138 ∨ y = 139 ∨ y = 140 ∨ y = 141 ∨ y = 142 ∨ y = 143 by omega) with rfl | rfl | rfl | rfl | rfl | rfl | rfl | rfl | rfl | rfl | rfl | rfl | rfl | rfl | rfl | rfl
  · exact mj_r_128
  · exact mj_r_129
  · exact mj_r_130
  · exact mj_r_131
  · exact mj_r_132
  · exact mj_r_133
  · exact mj_r_134
  · exact mj_r_135
  · exact mj_r_136
  · exact mj_r_137
  · exact mj_r_138
  · exact mj_r_139
  · exact mj_r_140
  · exact mj_r_141
  · exact mj_r_142
  · exact mj_r_143
theorem mj_r_c144 {y : Nat} (h1 : 144 ≤ y) (h2 : y < 160) : Cond.code (mj_nm y) (mj_by y) (mj_ml y) (mj_rt y) ∈ mj_tb := by
  rcases (show y = 144 ∨ y = 145 ∨ y = 146 ∨ y = 147 ∨ y = 148 ∨ y = 149 ∨ y = 150 ∨ y = 151 ∨ y = 152 ∨ y = 153 ∨ y = 154 ∨ y = 155 ∨ y = 156 ∨ y = 157 ∨ y = 158 ∨ y = 159 by omega) with rfl | rfl | rfl | rfl | rfl | rfl | rfl | rfl | rfl | rfl | rfl | rfl | rfl | rfl | rfl | rfl
  · exact mj_r_144
  · exact mj_r_145
  · exact mj_r_146
  · exact mj_r_147
  · exact mj_r_148
  · exact mj_r_149
  · exact mj_r_150
  · exact mj_r_151
  · exact mj_r_152
  · exact mj_r_153
  · exact mj_r_154
  · exact mj_r_155
  · exact mj_r_156
  · exact mj_r_157
  · exact mj_r_158
  · exact mj_r_159
theorem mj_r_c160 {y : Nat} (h1 : 160 ≤ y) (h2 : y < 176) : Cond.code (mj_nm y) (mj_by y) (mj_ml y) (mj_rt y) ∈ mj_tb := by
  rcases (show y = 160 ∨ y = 161 ∨ y = 162 ∨ y = 163 ∨ y = 164 ∨ y = 165 ∨ y = 166 ∨ y = 167 ∨ y = 168 ∨ y = 169 ∨ y = 170 ∨ y = 171 ∨ y = 172 ∨ y = 173 ∨ y = 174 ∨ y = 175 by omega) with rfl | rfl | rfl | rfl | rfl | rfl | rfl | rfl | rfl | rfl | rfl | rfl | rfl | rfl | rfl | rfl
  · exact mj_r_160
  · exact mj_r_161
  · exact mj_r_162
  · exact mj_r_163
  · exact mj_r_164
  · exact mj_r_165
  · exact mj_r_166
  · exact mj_r_167
  · exact mj_r_168
  · exact mj_r_169
  · exact mj_r_170
  · exact mj_r_171
  · exact mj_r_172
  · exact mj_r_173
  · exact mj_r_174
  · exact mj_r_175
theorem mj_r_c176 {y : Nat} (h1 : 176 ≤ y) (h2 : y < 192) : Cond.code (mj_nm y) (mj_by y) (mj_ml y) (mj_rt y) ∈ mj_tb := by
  rcases (show y = 176 ∨ y = 177 ∨ y = 178 ∨ y = 179 ∨ y = 180 ∨ y = 181 ∨ y = 182 ∨ y = 183 ∨ y = 184 ∨ y = 185 ∨ y = 186 ∨ y = 187 ∨ y = 188 ∨ y = 189 ∨ y = 190 ∨ y = 191 by omega) with rfl | rfl | rfl | rfl | rfl | rfl | rfl | rfl | rfl | rfl | rfl | rfl | rfl | rfl | rfl | rfl
  · exact mj_r_176
  · exact mj_r_177
  · exact mj_r_178
  · exact mj_r_179
  · exact mj_r_180
  · exact mj_r_181
  · exact mj_r_182
  · exact mj_r_183
  · exact mj_r_184
  · exact mj_r_185
  · exact mj_r_186
  · exact mj_r_187
  · exact mj_r_188
  · exact mj_r_189
  · exact mj_r_190
  · exact mj_r_191
theorem mj_r_c192 {y : Nat} (h1 : 192 ≤ y) (h2 : y < 208) : Cond.code (mj_nm y) (mj_by y) (mj_ml y) (mj_rt y) ∈ mj_tb := by
  rcases (show y = 192 ∨ y = 193 ∨ y = 194 ∨ y = 195 ∨ y = 196 ∨ y = 197 ∨ y = 198 ∨ y = 199 ∨ y = 200 ∨ y = 201 ∨ y = 202 ∨ y = 203 ∨ y = 204 ∨ y = 205 ∨ y = 206 ∨ y = 207 by omega) with rfl | rfl | rfl | rfl | rfl | rfl | rfl | rfl | rfl | rfl | rfl | rfl | rfl | rfl | rfl | rfl
  · exact mj_r_192
  · exact mj_r_193
  · exact mj_r_194
  · exact mj_r_195
  · exact mj_r_196
  · exact mj_r_197
  · exact mj_r_198
  · exact mj_r_199
  · exact mj_r_200
  · exact mj_r_201
  · exact mj_r_202
  · exact mj_r_203
  · exact mj_r_204
  · exact mj_r_205
  · exact mj_r_206
  · exact mj_r_207
theorem mj_r_c208 {y : Nat} (h1 : 208 ≤ y) (h2 : y < 224) : Cond.code (mj_nm y) (mj_by y) (mj_ml y) (mj_rt y) ∈ mj_tb := by
  rcases (show y = 208 ∨ y = 209 ∨ y = 210 ∨ y = 211 ∨ y = 212 ∨ y = 213 ∨ y = 214 ∨ y = 215 ∨ y = 216 ∨ y = 217 ∨ y = 218 ∨ y = 219 ∨ y = 220 ∨ y = 221 ∨ y = 222 ∨ y = 223 by omega) with rfl | rfl | rfl | rfl | rfl | rfl | rfl | rfl | rfl | rfl | rfl | rfl | rfl | rfl | rfl | rfl
  · exact mj_r_208
  · exact mj_r_209
  · exact mj_r_210
  · exact mj_r_211
  · exact mj_r_212
  · exact mj_r_213
  · exact mj_r_214
  · exact mj_r_215
  · exact mj_r_216
  · exact mj_r_217
  · exact mj_r_218
  · exact mj_r_219
  · exact mj_r_220
  · exact mj_r_221
  · exact mj_r_222
  · exact mj_r_223
theorem mj_r_c224 {y : Nat} (h1 : 224 ≤ y) (h2 : y < 240) : Cond.code (mj_nm y) (mj_by y) (mj_ml y) (mj_rt y) ∈ mj_tb := by
  rcases (show y = 224 ∨ y = 225 ∨ y = 226 ∨ y = 227 ∨ y = 228 ∨ y = 229 ∨ y = 230 ∨ y = 231 ∨ y = 232 ∨ y = 233 ∨ y = 234 ∨ y = 235 ∨ y = 236 ∨ y = 237 ∨ y = 238 ∨ y = 239 by omega) with rfl | rfl | rfl | rfl | rfl | rfl | rfl | rfl | rfl | rfl | rfl | rfl | rfl | rfl | rfl | rfl
  · exact mj_r_224
  · exact mj_r_225
  · exact mj_r_226
  · exact mj_r_227
  · exact mj_r_228
  · exact mj_r_229
  · exact mj_r_230
  · exact mj_r_231
  · exact mj_r_232
  · exact mj_r_233
  · exact mj_r_234
  · exact mj_r_235
  · exact mj_r_236
  · exact mj_r_237
  · exact mj_r_238
  · exact mj_r_239
theorem mj_r_c240 {y : Nat} (h1 : 240 ≤ y) (h2 : y < 256) : Cond.code (mj_nm y) (mj_by y) (mj_ml y) (mj_rt y) ∈ mj_tb := by
  rcases (show y = 240 ∨ y = 241 ∨ y = 242 ∨ y = 243 ∨ y = 244 ∨ y = 245 ∨ y = 246 ∨ y = 247 ∨ y = 248 ∨ y = 249 ∨ y = 250 ∨ y = 251 ∨ y = 252 ∨ y = 253 ∨ y = 254 ∨ y = 255 by omega) with rfl | rfl | rfl | rfl | rfl | rfl | rfl | rfl | rfl | rfl | rfl | rfl | rfl | rfl | rfl | rfl
  · exact mj_r_240
  · exact mj_r_241
  · exact mj_r_242
  · exact mj_r_243
  · exact mj_r_244
  · exact mj_r_245
  · exact mj_r_246
  · exact mj_r_247
  · exact mj_r_248
  · exact mj_r_249
  · exact mj_r_250
  · exact mj_r_251
  · exact mj_r_252
  · exact mj_r_253
  · exact mj_r_254
  · exact mj_r_255
theorem mj_r_c256 {y : Nat} (h1 : 256 ≤ y) (h2 : y < 272) : Cond.code (mj_nm y) (mj_by y) (mj_ml y) (mj_rt y) ∈ mj_tb := by
  rcases (show y = 256 ∨ y = 257 ∨ y = 258 ∨ y = 259 ∨ y = 260 ∨ y = 261 ∨ y = 262 ∨ y = 263 ∨ y = 264 ∨ y = 265 ∨ y = 266 ∨ y = 267 ∨ y = 268 ∨ y = 269 ∨ y = 270 ∨ y = 271 by omega) with rfl | rfl | rfl | rfl | rfl | rfl | rfl | rfl | rfl | rfl | rfl | rfl | rfl | rfl | rfl | rfl
  · exact mj_r_256
  · exact mj_r_257
  · exact mj_r_258
  · exact mj_r_259
  · exact mj_r_260
  · exact mj_r_261
  · exact mj_r_262
  · exact mj_r_263
  · exact mj_r_264
  · exact mj_r_265
  · exact mj_r_266
  · exact mj_r_267
  · exact mj_r_268
  · exact mj_r_269
  · exact mj_r_270
  · exact mj_r_271
theorem mj_r_c272 {y : Nat} (h1 : 272 ≤ y) (h2 : y < 285) : Cond.code (mj_nm y) (mj_by y) (mj_ml y) (mj_rt y) ∈ mj_tb := by
  rcases (show y = 272 ∨ y = 273 ∨ y = 274 ∨ y = 275 ∨ y = 276 ∨ y = 277 ∨ y = 278 ∨ y = 279 ∨ y = 280 ∨ y = 281 ∨ y = 282 ∨ y = 283 ∨ y = 284 by omega) with rfl | rfl | rfl | rfl | rfl | rfl | rfl | rfl | rfl | rfl | rfl | rfl | rfl
  · exact mj_r_272
  · exact mj_r_273
  · exact mj_r_274
  · exact mj_r_275
  · exact mj_r_276
  · exact mj_r_277
  · exact mj_r_278
  · exact mj_r_279
  · exact mj_r_280
  · exact mj_r_281
  · exact mj_r_282
  · exact mj_r_283
  · exact mj_r_284
theorem mj_r_all {y : Nat} (hy : y < mj_NM) : Cond.code (mj_nm y) (mj_by y) (mj_ml y) (mj_rt y) ∈ mj_tb := by
  have hy : y < 285 := hy
  rcases Nat.lt_or_ge y 16 with h | h
  · exact mj_r_c0 (by omega) h
  rcases Nat.lt_or_ge y 32 with h | h
  · exact mj_r_c16 (by omega) h
  rcases Nat.lt_or_ge y 48 with h | h
  · exact mj_r_c32 (by omega) h
  rcases Nat.lt_or_ge y 64 with h | h
  · exact mj_r_c48 (by omega) h
  rcases Nat.lt_or_ge y 80 with h | h
  · exact mj_r_c64 (by omega) h
  rcases Nat.lt_or_ge y 96 with h | h
  · exact mj_r_c80 (by omega) h
  rcases Nat.lt_or_ge y 112 with h | h
  · exact mj_r_c96 (by omega) h
  rcases Nat.lt_or_ge y 128 with h | h
  · exact mj_r_c112 (by omega) h
  rcases Nat.lt_or_ge y 144 with h | h
  · exact mj_r_c128 (by omega) h
  rcases Nat.lt_or_ge y 160 with h | h
  · exact mj_r_c144 (by omega) h
  rcases Nat.lt_or_ge y 176 with h | h
  · exact mj_r_c160 (by omega) h
  rcases Nat.lt_or_ge y 192 with h | h
  · exact mj_r_c176 (by omega) h
  rcases Nat.lt_or_ge y 208 with h | h
  · exact mj_r_c192 (by omega) h
  rcases Nat.lt_or_ge y 224 with h | h
  · exact mj_r_c208 (by omega) h
  rcases Nat.lt_or_ge y 240 with h | h
  · exact mj_r_c224 (by omega) h
  rcases Nat.lt_or_ge y 256 with h | h
  · exact mj_r_c240 (by omega) h
  rcases Nat.lt_or_ge y 272 with h | h
  · exact mj_r_c256 (by omega) h
  exact mj_r_c272 (by omega) hy
theorem mj_b_oi : Cond.instanceMethod Lib.objectInit ∈ mj_tb := mj_wd_mem (p := 8028) (by decide +kernel)
theorem mj_b_oc : Cond.code Lib.objectInit ⟨#[0xb1]⟩ 1 none ∈ mj_tb := mj_wd_mem (p := 8029) (by decide +kernel)
theorem mj_b_aint : Cond.arrayClass .int ∈ mj_tb := mj_wd_mem (p := 8152) (by decide +kernel)
theorem mj_b_aboolean : Cond.arrayClass .boolean ∈ mj_tb := mj_wd_mem (p := 14029) (by decide +kernel)
theorem mj_b_along : Cond.arrayClass .long ∈ mj_tb := mj_wd_mem (p := 9058) (by decide +kernel)
theorem mj_u_0 : ∀ w ∈ u_ws "BeatParish" mf_0 14, w ∈ mj_tb := by
  intro w hw
  have h : (List.range 14).all (fun k => mj_wd (([9215, 9217, 9219, 9221, 9223, 9225, 9227, 9229, 9231, 9233, 9235, 9237, 9239, 10001] : List Nat).getD k 0) (u_lay "BeatParish" mf_0 k)) = true := by decide +kernel
  obtain ⟨k, hk, rfl⟩ := List.mem_map.mp hw
  exact mj_wd_mem (List.all_eq_true.mp h k hk)
theorem mj_v_0 : ∀ k, k < 14 → ∃ ty, parseFieldDescriptor (mf_0 k).2.2.1 = some ty ∧ mj_fty ty = mj_ty 0 k ∧ mj_fty ty ≤ 3 := by
  intro k hk
  have h : (List.range 14).all (fun k => match parseFieldDescriptor (mf_0 k).2.2.1 with
    | some ty => decide (mj_fty ty = mj_ty 0 k) && Nat.ble (mj_fty ty) 3
    | none => false) = true := by decide +kernel
  have h2 := List.all_eq_true.mp h k (List.mem_range.mpr hk)
  split at h2
  next ty hty =>
    rw [Bool.and_eq_true] at h2
    exact ⟨ty, hty, of_decide_eq_true h2.1, Nat.le_of_ble_eq_true h2.2⟩
  next => cases h2
theorem mj_w_0 : ∀ a, a < 14 → ∀ b, b < 14 → a ≠ b → (mf_0 a).2.1 ≠ (mf_0 b).2.1 := by decide +kernel
theorem mj_x_0 : Cond.instantiable "BeatParish" 14 ∈ mj_tb ∧ Cond.initialized "BeatParish" ∈ mj_tb ∧ ∀ k, k < 14 → (mf_0 k).1 = "BeatParish" := ⟨mj_wd_mem (p := 8023) (by decide +kernel), mj_wd_mem (p := 8001) (by decide +kernel), by decide +kernel⟩
theorem mj_u_1 : ∀ w ∈ u_ws "BeatParish$Told" mf_1 20, w ∈ mj_tb := by
  intro w hw
  have h : (List.range 20).all (fun k => mj_wd (([8111, 8113, 8115, 8117, 8119, 8121, 8123, 8125, 8127, 8129, 8131, 8133, 8135, 8137, 8139, 8141, 8143, 8145, 8147, 8149] : List Nat).getD k 0) (u_lay "BeatParish$Told" mf_1 k)) = true := by decide +kernel
  obtain ⟨k, hk, rfl⟩ := List.mem_map.mp hw
  exact mj_wd_mem (List.all_eq_true.mp h k hk)
theorem mj_v_1 : ∀ k, k < 20 → ∃ ty, parseFieldDescriptor (mf_1 k).2.2.1 = some ty ∧ mj_fty ty = mj_ty 1 k ∧ mj_fty ty ≤ 3 := by
  intro k hk
  have h : (List.range 20).all (fun k => match parseFieldDescriptor (mf_1 k).2.2.1 with
    | some ty => decide (mj_fty ty = mj_ty 1 k) && Nat.ble (mj_fty ty) 3
    | none => false) = true := by decide +kernel
  have h2 := List.all_eq_true.mp h k (List.mem_range.mpr hk)
  split at h2
  next ty hty =>
    rw [Bool.and_eq_true] at h2
    exact ⟨ty, hty, of_decide_eq_true h2.1, Nat.le_of_ble_eq_true h2.2⟩
  next => cases h2
theorem mj_w_1 : ∀ a, a < 20 → ∀ b, b < 20 → a ≠ b → (mf_1 a).2.1 ≠ (mf_1 b).2.1 := by decide +kernel
theorem mj_x_1 : Cond.instantiable "BeatParish$Told" 20 ∈ mj_tb ∧ Cond.initialized "BeatParish$Told" ∈ mj_tb ∧ ∀ k, k < 20 → (mf_1 k).1 = "BeatParish$Told" := ⟨mj_wd_mem (p := 8031) (by decide +kernel), mj_wd_mem (p := 8002) (by decide +kernel), by decide +kernel⟩
theorem mj_u_2 : ∀ w ∈ u_ws "BeatParish$Reader" mf_2 6, w ∈ mj_tb := by
  intro w hw
  have h : (List.range 6).all (fun k => mj_wd (([9020, 9022, 9024, 9026, 9028, 9030] : List Nat).getD k 0) (u_lay "BeatParish$Reader" mf_2 k)) = true := by decide +kernel
  obtain ⟨k, hk, rfl⟩ := List.mem_map.mp hw
  exact mj_wd_mem (List.all_eq_true.mp h k hk)
theorem mj_v_2 : ∀ k, k < 6 → ∃ ty, parseFieldDescriptor (mf_2 k).2.2.1 = some ty ∧ mj_fty ty = mj_ty 2 k ∧ mj_fty ty ≤ 3 := by
  intro k hk
  have h : (List.range 6).all (fun k => match parseFieldDescriptor (mf_2 k).2.2.1 with
    | some ty => decide (mj_fty ty = mj_ty 2 k) && Nat.ble (mj_fty ty) 3
    | none => false) = true := by decide +kernel
  have h2 := List.all_eq_true.mp h k (List.mem_range.mpr hk)
  split at h2
  next ty hty =>
    rw [Bool.and_eq_true] at h2
    exact ⟨ty, hty, of_decide_eq_true h2.1, Nat.le_of_ble_eq_true h2.2⟩
  next => cases h2
theorem mj_w_2 : ∀ a, a < 6 → ∀ b, b < 6 → a ≠ b → (mf_2 a).2.1 ≠ (mf_2 b).2.1 := by decide +kernel
theorem mj_x_2 : Cond.instantiable "BeatParish$Reader" 6 ∈ mj_tb ∧ Cond.initialized "BeatParish$Reader" ∈ mj_tb ∧ ∀ k, k < 6 → (mf_2 k).1 = "BeatParish$Reader" := ⟨mj_wd_mem (p := 8154) (by decide +kernel), mj_wd_mem (p := 8003) (by decide +kernel), by decide +kernel⟩
theorem mj_u_3 : ∀ w ∈ u_ws "BeatParish$Tokens" mf_3 9, w ∈ mj_tb := by
  intro w hw
  have h : (List.range 9).all (fun k => mj_wd (([8232, 8234, 8236, 8238, 9000, 9002, 9004, 9006, 9008] : List Nat).getD k 0) (u_lay "BeatParish$Tokens" mf_3 k)) = true := by decide +kernel
  obtain ⟨k, hk, rfl⟩ := List.mem_map.mp hw
  exact mj_wd_mem (List.all_eq_true.mp h k hk)
theorem mj_v_3 : ∀ k, k < 9 → ∃ ty, parseFieldDescriptor (mf_3 k).2.2.1 = some ty ∧ mj_fty ty = mj_ty 3 k ∧ mj_fty ty ≤ 3 := by
  intro k hk
  have h : (List.range 9).all (fun k => match parseFieldDescriptor (mf_3 k).2.2.1 with
    | some ty => decide (mj_fty ty = mj_ty 3 k) && Nat.ble (mj_fty ty) 3
    | none => false) = true := by decide +kernel
  have h2 := List.all_eq_true.mp h k (List.mem_range.mpr hk)
  split at h2
  next ty hty =>
    rw [Bool.and_eq_true] at h2
    exact ⟨ty, hty, of_decide_eq_true h2.1, Nat.le_of_ble_eq_true h2.2⟩
  next => cases h2
theorem mj_w_3 : ∀ a, a < 9 → ∀ b, b < 9 → a ≠ b → (mf_3 a).2.1 ≠ (mf_3 b).2.1 := by decide +kernel
theorem mj_x_3 : Cond.instantiable "BeatParish$Tokens" 9 ∈ mj_tb ∧ Cond.initialized "BeatParish$Tokens" ∈ mj_tb ∧ ∀ k, k < 9 → (mf_3 k).1 = "BeatParish$Tokens" := ⟨mj_wd_mem (p := 8160) (by decide +kernel), mj_wd_mem (p := 8004) (by decide +kernel), by decide +kernel⟩
theorem mj_u_4 : ∀ w ∈ u_ws "BeatParish$Clock" mf_4 4, w ∈ mj_tb := by
  intro w hw
  have h : (List.range 4).all (fun k => mj_wd (([9065, 9067, 9069, 9071] : List Nat).getD k 0) (u_lay "BeatParish$Clock" mf_4 k)) = true := by decide +kernel
  obtain ⟨k, hk, rfl⟩ := List.mem_map.mp hw
  exact mj_wd_mem (List.all_eq_true.mp h k hk)
theorem mj_v_4 : ∀ k, k < 4 → ∃ ty, parseFieldDescriptor (mf_4 k).2.2.1 = some ty ∧ mj_fty ty = mj_ty 4 k ∧ mj_fty ty ≤ 3 := by
  intro k hk
  have h : (List.range 4).all (fun k => match parseFieldDescriptor (mf_4 k).2.2.1 with
    | some ty => decide (mj_fty ty = mj_ty 4 k) && Nat.ble (mj_fty ty) 3
    | none => false) = true := by decide +kernel
  have h2 := List.all_eq_true.mp h k (List.mem_range.mpr hk)
  split at h2
  next ty hty =>
    rw [Bool.and_eq_true] at h2
    exact ⟨ty, hty, of_decide_eq_true h2.1, Nat.le_of_ble_eq_true h2.2⟩
  next => cases h2
theorem mj_w_4 : ∀ a, a < 4 → ∀ b, b < 4 → a ≠ b → (mf_4 a).2.1 ≠ (mf_4 b).2.1 := by decide +kernel
theorem mj_x_4 : Cond.instantiable "BeatParish$Clock" 4 ∈ mj_tb ∧ Cond.initialized "BeatParish$Clock" ∈ mj_tb ∧ ∀ k, k < 4 → (mf_4 k).1 = "BeatParish$Clock" := ⟨mj_wd_mem (p := 9034) (by decide +kernel), mj_wd_mem (p := 8009) (by decide +kernel), by decide +kernel⟩
theorem mj_u_5 : ∀ w ∈ u_ws "BeatParish$Reckoner" mf_5 4, w ∈ mj_tb := by
  intro w hw
  have h : (List.range 4).all (fun k => mj_wd (([9049, 9051, 9053, 9055] : List Nat).getD k 0) (u_lay "BeatParish$Reckoner" mf_5 k)) = true := by decide +kernel
  obtain ⟨k, hk, rfl⟩ := List.mem_map.mp hw
  exact mj_wd_mem (List.all_eq_true.mp h k hk)
theorem mj_v_5 : ∀ k, k < 4 → ∃ ty, parseFieldDescriptor (mf_5 k).2.2.1 = some ty ∧ mj_fty ty = mj_ty 5 k ∧ mj_fty ty ≤ 3 := by
  intro k hk
  have h : (List.range 4).all (fun k => match parseFieldDescriptor (mf_5 k).2.2.1 with
    | some ty => decide (mj_fty ty = mj_ty 5 k) && Nat.ble (mj_fty ty) 3
    | none => false) = true := by decide +kernel
  have h2 := List.all_eq_true.mp h k (List.mem_range.mpr hk)
  split at h2
  next ty hty =>
    rw [Bool.and_eq_true] at h2
    exact ⟨ty, hty, of_decide_eq_true h2.1, Nat.le_of_ble_eq_true h2.2⟩
  next => cases h2
theorem mj_w_5 : ∀ a, a < 4 → ∀ b, b < 4 → a ≠ b → (mf_5 a).2.1 ≠ (mf_5 b).2.1 := by decide +kernel
theorem mj_x_5 : Cond.instantiable "BeatParish$Reckoner" 4 ∈ mj_tb ∧ Cond.initialized "BeatParish$Reckoner" ∈ mj_tb ∧ ∀ k, k < 4 → (mf_5 k).1 = "BeatParish$Reckoner" := ⟨mj_wd_mem (p := 9040) (by decide +kernel), mj_wd_mem (p := 8010) (by decide +kernel), by decide +kernel⟩
theorem mj_u_6 : ∀ w ∈ u_ws "BeatParish$State" mf_6 11, w ∈ mj_tb := by
  intro w hw
  have h : (List.range 11).all (fun k => mj_wd (([9119, 9121, 9123, 9125, 9127, 9129, 9131, 9133, 9135, 9137, 9139] : List Nat).getD k 0) (u_lay "BeatParish$State" mf_6 k)) = true := by decide +kernel
  obtain ⟨k, hk, rfl⟩ := List.mem_map.mp hw
  exact mj_wd_mem (List.all_eq_true.mp h k hk)
theorem mj_v_6 : ∀ k, k < 11 → ∃ ty, parseFieldDescriptor (mf_6 k).2.2.1 = some ty ∧ mj_fty ty = mj_ty 6 k ∧ mj_fty ty ≤ 3 := by
  intro k hk
  have h : (List.range 11).all (fun k => match parseFieldDescriptor (mf_6 k).2.2.1 with
    | some ty => decide (mj_fty ty = mj_ty 6 k) && Nat.ble (mj_fty ty) 3
    | none => false) = true := by decide +kernel
  have h2 := List.all_eq_true.mp h k (List.mem_range.mpr hk)
  split at h2
  next ty hty =>
    rw [Bool.and_eq_true] at h2
    exact ⟨ty, hty, of_decide_eq_true h2.1, Nat.le_of_ble_eq_true h2.2⟩
  next => cases h2
theorem mj_w_6 : ∀ a, a < 11 → ∀ b, b < 11 → a ≠ b → (mf_6 a).2.1 ≠ (mf_6 b).2.1 := by decide +kernel
theorem mj_x_6 : Cond.instantiable "BeatParish$State" 11 ∈ mj_tb ∧ Cond.initialized "BeatParish$State" ∈ mj_tb ∧ ∀ k, k < 11 → (mf_6 k).1 = "BeatParish$State" := ⟨mj_wd_mem (p := 9075) (by decide +kernel), mj_wd_mem (p := 8011) (by decide +kernel), by decide +kernel⟩
theorem mj_u_7 : ∀ w ∈ u_ws "BeatParish$Deeds" mf_7 4, w ∈ mj_tb := by
  intro w hw
  have h : (List.range 4).all (fun k => mj_wd (([9153, 9155, 9157, 9159] : List Nat).getD k 0) (u_lay "BeatParish$Deeds" mf_7 k)) = true := by decide +kernel
  obtain ⟨k, hk, rfl⟩ := List.mem_map.mp hw
  exact mj_wd_mem (List.all_eq_true.mp h k hk)
theorem mj_v_7 : ∀ k, k < 4 → ∃ ty, parseFieldDescriptor (mf_7 k).2.2.1 = some ty ∧ mj_fty ty = mj_ty 7 k ∧ mj_fty ty ≤ 3 := by
  intro k hk
  have h : (List.range 4).all (fun k => match parseFieldDescriptor (mf_7 k).2.2.1 with
    | some ty => decide (mj_fty ty = mj_ty 7 k) && Nat.ble (mj_fty ty) 3
    | none => false) = true := by decide +kernel
  have h2 := List.all_eq_true.mp h k (List.mem_range.mpr hk)
  split at h2
  next ty hty =>
    rw [Bool.and_eq_true] at h2
    exact ⟨ty, hty, of_decide_eq_true h2.1, Nat.le_of_ble_eq_true h2.2⟩
  next => cases h2
theorem mj_w_7 : ∀ a, a < 4 → ∀ b, b < 4 → a ≠ b → (mf_7 a).2.1 ≠ (mf_7 b).2.1 := by decide +kernel
theorem mj_x_7 : Cond.instantiable "BeatParish$Deeds" 4 ∈ mj_tb ∧ Cond.initialized "BeatParish$Deeds" ∈ mj_tb ∧ ∀ k, k < 4 → (mf_7 k).1 = "BeatParish$Deeds" := ⟨mj_wd_mem (p := 9143) (by decide +kernel), mj_wd_mem (p := 8012) (by decide +kernel), by decide +kernel⟩
theorem mj_u_8 : ∀ w ∈ u_ws "BeatParish$Sights" mf_8 7, w ∈ mj_tb := by
  intro w hw
  have h : (List.range 7).all (fun k => mj_wd (([9177, 9179, 9181, 9183, 9185, 9187, 9189] : List Nat).getD k 0) (u_lay "BeatParish$Sights" mf_8 k)) = true := by decide +kernel
  obtain ⟨k, hk, rfl⟩ := List.mem_map.mp hw
  exact mj_wd_mem (List.all_eq_true.mp h k hk)
theorem mj_v_8 : ∀ k, k < 7 → ∃ ty, parseFieldDescriptor (mf_8 k).2.2.1 = some ty ∧ mj_fty ty = mj_ty 8 k ∧ mj_fty ty ≤ 3 := by
  intro k hk
  have h : (List.range 7).all (fun k => match parseFieldDescriptor (mf_8 k).2.2.1 with
    | some ty => decide (mj_fty ty = mj_ty 8 k) && Nat.ble (mj_fty ty) 3
    | none => false) = true := by decide +kernel
  have h2 := List.all_eq_true.mp h k (List.mem_range.mpr hk)
  split at h2
  next ty hty =>
    rw [Bool.and_eq_true] at h2
    exact ⟨ty, hty, of_decide_eq_true h2.1, Nat.le_of_ble_eq_true h2.2⟩
  next => cases h2
theorem mj_w_8 : ∀ a, a < 7 → ∀ b, b < 7 → a ≠ b → (mf_8 a).2.1 ≠ (mf_8 b).2.1 := by decide +kernel
theorem mj_x_8 : Cond.instantiable "BeatParish$Sights" 7 ∈ mj_tb ∧ Cond.initialized "BeatParish$Sights" ∈ mj_tb ∧ ∀ k, k < 7 → (mf_8 k).1 = "BeatParish$Sights" := ⟨mj_wd_mem (p := 9163) (by decide +kernel), mj_wd_mem (p := 8013) (by decide +kernel), by decide +kernel⟩
theorem mj_u_9 : ∀ w ∈ u_ws "BeatParishModel" mf_9 81, w ∈ mj_tb := by
  intro w hw
  have h : (List.range 81).all (fun k => mj_wd (([13106, 13108, 13110, 13112, 13114, 13116, 13118, 13120, 13122, 13124, 13126, 13128, 13130, 13132, 13134, 13136, 13138, 13140, 13142, 13144, 13146, 13148, 13150, 13152, 13154, 13156, 13158, 13160, 13162, 13164, 13166, 13168, 13170, 13172, 13174, 13176, 13178, 13180, 13182, 13184, 13186, 13188, 13190, 13192, 13194, 13196, 13198, 13200, 13202, 13204, 13206, 13208, 13210, 13212, 13214, 13216, 13218, 13220, 13222, 13224, 13226, 13228, 13230, 13232, 13234, 13236, 13238, 14000, 14002, 14004, 14006, 14008, 14010, 14012, 14014, 14016, 14018, 14020, 14022, 14024, 14026] : List Nat).getD k 0) (u_lay "BeatParishModel" mf_9 k)) = true := by decide +kernel
  obtain ⟨k, hk, rfl⟩ := List.mem_map.mp hw
  exact mj_wd_mem (List.all_eq_true.mp h k hk)
theorem mj_v_9 : ∀ k, k < 81 → ∃ ty, parseFieldDescriptor (mf_9 k).2.2.1 = some ty ∧ mj_fty ty = mj_ty 9 k ∧ mj_fty ty ≤ 3 := by
  intro k hk
  have h : (List.range 81).all (fun k => match parseFieldDescriptor (mf_9 k).2.2.1 with
    | some ty => decide (mj_fty ty = mj_ty 9 k) && Nat.ble (mj_fty ty) 3
    | none => false) = true := by decide +kernel
  have h2 := List.all_eq_true.mp h k (List.mem_range.mpr hk)
  split at h2
  next ty hty =>
    rw [Bool.and_eq_true] at h2
    exact ⟨ty, hty, of_decide_eq_true h2.1, Nat.le_of_ble_eq_true h2.2⟩
  next => cases h2
theorem mj_w_9 : ∀ a, a < 81 → ∀ b, b < 81 → a ≠ b → (mf_9 a).2.1 ≠ (mf_9 b).2.1 := by decide +kernel
theorem mj_x_9 : Cond.instantiable "BeatParishModel" 81 ∈ mj_tb ∧ Cond.initialized "BeatParishModel" ∈ mj_tb ∧ ∀ k, k < 81 → (mf_9 k).1 = "BeatParishModel" := ⟨mj_wd_mem (p := 12237) (by decide +kernel), mj_wd_mem (p := 8014) (by decide +kernel), by decide +kernel⟩
theorem mj_t0 : mj_T0 := by
  refine ⟨trivial, fun y hy => ?_, mj_b_oi, mj_b_oc, mj_b_aint, mj_b_aboolean, mj_b_along, fun c C T N hc => ?_⟩
  · have h := mj_q_all hy
    unfold mj_yok at h
    rw [Bool.and_eq_true, Bool.and_eq_true] at h
    exact ⟨mj_r_all hy, Nat.le_of_ble_eq_true h.1, h.2.1, of_decide_eq_true h.2.2, mj_k_all hy⟩
  · have hlt : c < 10 := (List.getElem?_eq_some_iff.mp hc).1
    match c, hlt with
    | 0, _ => cases hc; exact ⟨mj_u_0, mj_v_0, mj_w_0, mj_x_0⟩
    | 1, _ => cases hc; exact ⟨mj_u_1, mj_v_1, mj_w_1, mj_x_1⟩
    | 2, _ => cases hc; exact ⟨mj_u_2, mj_v_2, mj_w_2, mj_x_2⟩
    | 3, _ => cases hc; exact ⟨mj_u_3, mj_v_3, mj_w_3, mj_x_3⟩
    | 4, _ => cases hc; exact ⟨mj_u_4, mj_v_4, mj_w_4, mj_x_4⟩
    | 5, _ => cases hc; exact ⟨mj_u_5, mj_v_5, mj_w_5, mj_x_5⟩
    | 6, _ => cases hc; exact ⟨mj_u_6, mj_v_6, mj_w_6, mj_x_6⟩
    | 7, _ => cases hc; exact ⟨mj_u_7, mj_v_7, mj_w_7, mj_x_7⟩
    | 8, _ => cases hc; exact ⟨mj_u_8, mj_v_8, mj_w_8, mj_x_8⟩
    | 9, _ => cases hc; exact ⟨mj_u_9, mj_v_9, mj_w_9, mj_x_9⟩
