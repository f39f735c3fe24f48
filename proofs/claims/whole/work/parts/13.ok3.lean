theorem mj_k_162_0 : mj_okc 162 0 40 = true := by decide +kernel
theorem mj_k_162_1 : mj_okc 162 40 40 = true := by decide +kernel
theorem mj_k_162_2 : mj_okc 162 80 40 = true := by decide +kernel
theorem mj_k_162_3 : mj_okc 162 120 40 = true := by decide +kernel
theorem mj_k_162 : mj_ok 162 = true := by
  show ((mj_cd 162).drop 0).all (fun q => mj_chk 162 q.1 q.2) = true
  refine mj_okc_all (n := 40) mj_k_162_0 ?_
  refine mj_okc_all (n := 40) mj_k_162_1 ?_
  refine mj_okc_all (n := 40) mj_k_162_2 ?_
  refine mj_okc_all (n := 40) mj_k_162_3 ?_
  decide +kernel
theorem mj_k_163_0 : mj_okc 163 0 40 = true := by decide +kernel
theorem mj_k_163_1 : mj_okc 163 40 40 = true := by decide +kernel
theorem mj_k_163_2 : mj_okc 163 80 40 = true := by decide +kernel
theorem mj_k_163_3 : mj_okc 163 120 40 = true := by decide +kernel
theorem mj_k_163 : mj_ok 163 = true := by
  show ((mj_cd 163).drop 0).all (fun q => mj_chk 163 q.1 q.2) = true
  refine mj_okc_all (n := 40) mj_k_163_0 ?_
  refine mj_okc_all (n := 40) mj_k_163_1 ?_
  refine mj_okc_all (n := 40) mj_k_163_2 ?_
  refine mj_okc_all (n := 40) mj_k_163_3 ?_
  decide +kernel
theorem mj_k_164 : mj_ok 164 = true := by decide +kernel
theorem mj_k_165 : mj_ok 165 = true := by decide +kernel
theorem mj_k_166 : mj_ok 166 = true := by decide +kernel
theorem mj_k_167 : mj_ok 167 = true := by decide +kernel
theorem mj_k_168 : mj_ok 168 = true := by decide +kernel
theorem mj_k_169 : mj_ok 169 = true := by decide +kernel
theorem mj_k_170 : mj_ok 170 = true := by decide +kernel
theorem mj_k_171 : mj_ok 171 = true := by decide +kernel
theorem mj_k_172 : mj_ok 172 = true := by decide +kernel
theorem mj_k_173 : mj_ok 173 = true := by decide +kernel
theorem mj_k_174 : mj_ok 174 = true := by decide +kernel
theorem mj_k_175 : mj_ok 175 = true := by decide +kernel
theorem mj_k_176 : mj_ok 176 = true := by decide +kernel
theorem mj_k_177 : mj_ok 177 = true := by decide +kernel
theorem mj_k_178 : mj_ok 178 = true := by decide +kernel
theorem mj_k_179 : mj_ok 179 = true := by decide +kernel
theorem mj_k_180 : mj_ok 180 = true := by decide +kernel
theorem mj_k_181 : mj_ok 181 = true := by decide +kernel
theorem mj_k_182 : mj_ok 182 = true := by decide +kernel
theorem mj_k_183 : mj_ok 183 = true := by decide +kernel
theorem mj_k_184 : mj_ok 184 = true := by decide +kernel
theorem mj_k_185 : mj_ok 185 = true := by decide +kernel
theorem mj_k_186 : mj_ok 186 = true := by decide +kernel
theorem mj_k_187 : mj_ok 187 = true := by decide +kernel
theorem mj_k_188 : mj_ok 188 = true := by decide +kernel
theorem mj_k_189 : mj_ok 189 = true := by decide +kernel
theorem mj_k_190 : mj_ok 190 = true := by decide +kernel
theorem mj_k_191 : mj_ok 191 = true := by decide +kernel
theorem mj_k_192 : mj_ok 192 = true := by decide +kernel
theorem mj_k_193 : mj_ok 193 = true := by decide +kernel
theorem mj_k_194 : mj_ok 194 = true := by decide +kernel
theorem mj_k_195 : mj_ok 195 = true := by decide +kernel
theorem mj_k_196_0 : mj_okc 196 0 40 = true := by decide +kernel
theorem mj_k_196_1 : mj_okc 196 40 40 = true := by decide +kernel
theorem mj_k_196_2 : mj_okc 196 80 40 = true := by decide +kernel
theorem mj_k_196_3 : mj_okc 196 120 40 = true := by decide +kernel
theorem mj_k_196 : mj_ok 196 = true := by
  show ((mj_cd 196).drop 0).all (fun q => mj_chk 196 q.1 q.2) = true
  refine mj_okc_all (n := 40) mj_k_196_0 ?_
  refine mj_okc_all (n := 40) mj_k_196_1 ?_
  refine mj_okc_all (n := 40) mj_k_196_2 ?_
  refine mj_okc_all (n := 40) mj_k_196_3 ?_
  decide +kernel
theorem mj_k_197 : mj_ok 197 = true := by decide +kernel
theorem mj_k_198 : mj_ok 198 = true := by decide +kernel
theorem mj_k_199 : mj_ok 199 = true := by decide +kernel
theorem mj_k_200 : mj_ok 200 = true := by decide +kernel
theorem mj_k_201 : mj_ok 201 = true := by decide +kernel
theorem mj_k_202 : mj_ok 202 = true := by decide +kernel
theorem mj_k_203 : mj_ok 203 = true := by decide +kernel
theorem mj_k_204 : mj_ok 204 = true := by decide +kernel
theorem mj_k_205 : mj_ok 205 = true := by decide +kernel
theorem mj_k_206 : mj_ok 206 = true := by decide +kernel
theorem mj_k_207 : mj_ok 207 = true := by decide +kernel
theorem mj_k_208 : mj_ok 208 = true := by decide +kernel
theorem mj_k_209 : mj_ok 209 = true := by decide +kernel
theorem mj_k_210 : mj_ok 210 = true := by decide +kernel
theorem mj_k_211 : mj_ok 211 = true := by decide +kernel
theorem mj_k_212 : mj_ok 212 = true := by decide +kernel
theorem mj_k_213 : mj_ok 213 = true := by decide +kernel
theorem mj_k_214 : mj_ok 214 = true := by decide +kernel
theorem mj_k_215 : mj_ok 215 = true := by decide +kernel
theorem mj_k_216 : mj_ok 216 = true := by decide +kernel
theorem mj_k_217 : mj_ok 217 = true := by decide +kernel
theorem mj_k_218 : mj_ok 218 = true := by decide +kernel
theorem mj_k_219 : mj_ok 219 = true := by decide +kernel
theorem mj_k_220 : mj_ok 220 = true := by decide +kernel
theorem mj_k_221 : mj_ok 221 = true := by decide +kernel
theorem mj_k_222 : mj_ok 222 = true := by decide +kernel
theorem mj_k_223 : mj_ok 223 = true := by decide +kernel
theorem mj_k_224 : mj_ok 224 = true := by decide +kernel
theorem mj_k_225 : mj_ok 225 = true := by decide +kernel
theorem mj_k_226 : mj_ok 226 = true := by decide +kernel
theorem mj_k_227 : mj_ok 227 = true := by decide +kernel
theorem mj_k_228 : mj_ok 228 = true := by decide +kernel
theorem mj_k_229 : mj_ok 229 = true := by decide +kernel
theorem mj_k_230 : mj_ok 230 = true := by decide +kernel
theorem mj_k_231 : mj_ok 231 = true := by decide +kernel
theorem mj_k_232 : mj_ok 232 = true := by decide +kernel
theorem mj_k_233 : mj_ok 233 = true := by decide +kernel
theorem mj_k_234 : mj_ok 234 = true := by decide +kernel
theorem mj_k_235 : mj_ok 235 = true := by decide +kernel
theorem mj_k_236 : mj_ok 236 = true := by decide +kernel
theorem mj_k_237 : mj_ok 237 = true := by decide +kernel
theorem mj_k_238 : mj_ok 238 = true := by decide +kernel
theorem mj_k_239 : mj_ok 239 = true := by decide +kernel
theorem mj_k_240 : mj_ok 240 = true := by decide +kernel
theorem mj_k_241 : mj_ok 241 = true := by decide +kernel
theorem mj_k_242 : mj_ok 242 = true := by decide +kernel
