theorem mj_k_243 : mj_ok 243 = true := by decide +kernel
theorem mj_k_244 : mj_ok 244 = true := by decide +kernel
theorem mj_k_245_0 : mj_okc 245 0 40 = true := by decide +kernel
theorem mj_k_245_1 : mj_okc 245 40 40 = true := by decide +kernel
theorem mj_k_245_2 : mj_okc 245 80 40 = true := by decide +kernel
theorem mj_k_245_3 : mj_okc 245 120 40 = true := by decide +kernel
theorem mj_k_245_4 : mj_okc 245 160 40 = true := by decide +kernel
theorem mj_k_245 : mj_ok 245 = true := by
  show ((mj_cd 245).drop 0).all (fun q => mj_chk 245 q.1 q.2) = true
  refine mj_okc_all (n := 40) mj_k_245_0 ?_
  refine mj_okc_all (n := 40) mj_k_245_1 ?_
  refine mj_okc_all (n := 40) mj_k_245_2 ?_
  refine mj_okc_all (n := 40) mj_k_245_3 ?_
  refine mj_okc_all (n := 40) mj_k_245_4 ?_
  decide +kernel
theorem mj_k_246 : mj_ok 246 = true := by decide +kernel
theorem mj_k_247 : mj_ok 247 = true := by decide +kernel
theorem mj_k_248 : mj_ok 248 = true := by decide +kernel
theorem mj_k_249 : mj_ok 249 = true := by decide +kernel
theorem mj_k_250 : mj_ok 250 = true := by decide +kernel
theorem mj_k_251 : mj_ok 251 = true := by decide +kernel
theorem mj_k_252 : mj_ok 252 = true := by decide +kernel
theorem mj_k_253 : mj_ok 253 = true := by decide +kernel
theorem mj_k_254 : mj_ok 254 = true := by decide +kernel
theorem mj_k_255 : mj_ok 255 = true := by decide +kernel
theorem mj_k_256 : mj_ok 256 = true := by decide +kernel
theorem mj_k_257 : mj_ok 257 = true := by decide +kernel
theorem mj_k_258 : mj_ok 258 = true := by decide +kernel
theorem mj_k_259 : mj_ok 259 = true := by decide +kernel
theorem mj_k_260 : mj_ok 260 = true := by decide +kernel
theorem mj_k_261 : mj_ok 261 = true := by decide +kernel
theorem mj_k_262 : mj_ok 262 = true := by decide +kernel
theorem mj_k_263 : mj_ok 263 = true := by decide +kernel
theorem mj_k_264 : mj_ok 264 = true := by decide +kernel
theorem mj_k_265 : mj_ok 265 = true := by decide +kernel
theorem mj_k_266 : mj_ok 266 = true := by decide +kernel
theorem mj_k_267 : mj_ok 267 = true := by decide +kernel
theorem mj_k_268 : mj_ok 268 = true := by decide +kernel
theorem mj_k_269 : mj_ok 269 = true := by decide +kernel
theorem mj_k_270 : mj_ok 270 = true := by decide +kernel
theorem mj_k_271 : mj_ok 271 = true := by decide +kernel
theorem mj_k_272 : mj_ok 272 = true := by decide +kernel
theorem mj_k_273 : mj_ok 273 = true := by decide +kernel
theorem mj_k_274 : mj_ok 274 = true := by decide +kernel
theorem mj_k_275 : mj_ok 275 = true := by decide +kernel
theorem mj_k_276 : mj_ok 276 = true := by decide +kernel
theorem mj_k_277 : mj_ok 277 = true := by decide +kernel
theorem mj_k_278 : mj_ok 278 = true := by decide +kernel
theorem mj_k_279 : mj_ok 279 = true := by decide +kernel
theorem mj_k_280 : mj_ok 280 = true := by decide +kernel
theorem mj_k_281 : mj_ok 281 = true := by decide +kernel
theorem mj_k_282 : mj_ok 282 = true := by decide +kernel
theorem mj_k_283 : mj_ok 283 = true := by decide +kernel
theorem mj_k_284 : mj_ok 284 = true := by decide +kernel
theorem mj_k_law_0 : mj_okc mj_NM 0 24 = true := by decide +kernel
theorem mj_k_law_1 : mj_okc mj_NM 24 24 = true := by decide +kernel
theorem mj_k_law_2 : mj_okc mj_NM 48 24 = true := by decide +kernel
theorem mj_k_law_3 : mj_okc mj_NM 72 24 = true := by decide +kernel
theorem mj_k_law_4 : mj_okc mj_NM 96 24 = true := by decide +kernel
theorem mj_k_law_5 : mj_okc mj_NM 120 24 = true := by decide +kernel
theorem mj_k_law_6 : mj_okc mj_NM 144 24 = true := by decide +kernel
theorem mj_k_law_7 : mj_okc mj_NM 168 24 = true := by decide +kernel
theorem mj_k_law_8 : mj_okc mj_NM 192 24 = true := by decide +kernel
theorem mj_k_law_9 : mj_okc mj_NM 216 24 = true := by decide +kernel
theorem mj_k_law_10 : mj_okc mj_NM 240 24 = true := by decide +kernel
theorem mj_k_law_11 : mj_okc mj_NM 264 24 = true := by decide +kernel
theorem mj_k_law_12 : mj_okc mj_NM 288 24 = true := by decide +kernel
theorem mj_k_law_13 : mj_okc mj_NM 312 24 = true := by decide +kernel
theorem mj_k_law_14 : mj_okc mj_NM 336 24 = true := by decide +kernel
theorem mj_k_law_15 : mj_okc mj_NM 360 24 = true := by decide +kernel
theorem mj_k_law_16 : mj_okc mj_NM 384 24 = true := by decide +kernel
theorem mj_k_law_17 : mj_okc mj_NM 408 24 = true := by decide +kernel
theorem mj_k_law_18 : mj_okc mj_NM 432 24 = true := by decide +kernel
theorem mj_k_law_19 : mj_okc mj_NM 456 24 = true := by decide +kernel
theorem mj_k_law_20 : mj_okc mj_NM 480 24 = true := by decide +kernel
theorem mj_k_law_21 : mj_okc mj_NM 504 24 = true := by decide +kernel
theorem mj_k_law_22 : mj_okc mj_NM 528 24 = true := by decide +kernel
theorem mj_k_law_23 : mj_okc mj_NM 552 24 = true := by decide +kernel
theorem mj_k_law_24 : mj_okc mj_NM 576 24 = true := by decide +kernel
theorem mj_k_law_25 : mj_okc mj_NM 600 24 = true := by decide +kernel
theorem mj_k_law_26 : mj_okc mj_NM 624 24 = true := by decide +kernel
theorem mj_k_law_27 : mj_okc mj_NM 648 24 = true := by decide +kernel
theorem mj_k_law_28 : mj_okc mj_NM 672 24 = true := by decide +kernel
theorem mj_k_law_29 : mj_okc mj_NM 696 24 = true := by decide +kernel
theorem mj_k_law_30 : mj_okc mj_NM 720 24 = true := by decide +kernel
theorem mj_k_law_31 : mj_okc mj_NM 744 24 = true := by decide +kernel
theorem mj_k_law_32 : mj_okc mj_NM 768 24 = true := by decide +kernel
theorem mj_k_law_33 : mj_okc mj_NM 792 24 = true := by decide +kernel
theorem mj_k_law_34 : mj_okc mj_NM 816 24 = true := by decide +kernel
theorem mj_k_law_35 : mj_okc mj_NM 840 24 = true := by decide +kernel
theorem mj_k_law_36 : mj_okc mj_NM 864 24 = true := by decide +kernel
theorem mj_k_law_37 : mj_okc mj_NM 888 24 = true := by decide +kernel
theorem mj_k_law_38 : mj_okc mj_NM 912 24 = true := by decide +kernel
theorem mj_k_law_39 : mj_okc mj_NM 936 24 = true := by decide +kernel
theorem mj_k_law_40 : mj_okc mj_NM 960 24 = true := by decide +kernel
theorem mj_k_law_41 : mj_okc mj_NM 984 24 = true := by decide +kernel
theorem mj_k_law_42 : mj_okc mj_NM 1008 24 = true := by decide +kernel
theorem mj_k_law_43 : mj_okc mj_NM 1032 24 = true := by decide +kernel
theorem mj_k_law_44 : mj_okc mj_NM 1056 24 = true := by decide +kernel
theorem mj_k_law : mj_ok mj_NM = true := by
  show ((mj_cd mj_NM).drop 0).all (fun q => mj_chk mj_NM q.1 q.2) = true
  refine mj_okc_all (n := 24) mj_k_law_0 ?_
  refine mj_okc_all (n := 24) mj_k_law_1 ?_
  refine mj_okc_all (n := 24) mj_k_law_2 ?_
  refine mj_okc_all (n := 24) mj_k_law_3 ?_
  refine mj_okc_all (n := 24) mj_k_law_4 ?_
  refine mj_okc_all (n := 24) mj_k_law_5 ?_
  refine mj_okc_all (n := 24) mj_k_law_6 ?_
  refine mj_okc_all (n := 24) mj_k_law_7 ?_
  refine mj_okc_all (n := 24) mj_k_law_8 ?_
  refine mj_okc_all (n := 24) mj_k_law_9 ?_
  refine mj_okc_all (n := 24) mj_k_law_10 ?_
  refine mj_okc_all (n := 24) mj_k_law_11 ?_
  refine mj_okc_all (n := 24) mj_k_law_12 ?_
  refine mj_okc_all (n := 24) mj_k_law_13 ?_
  refine mj_okc_all (n := 24) mj_k_law_14 ?_
  refine mj_okc_all (n := 24) mj_k_law_15 ?_
  refine mj_okc_all (n := 24) mj_k_law_16 ?_
  refine mj_okc_all (n := 24) mj_k_law_17 ?_
  refine mj_okc_all (n := 24) mj_k_law_18 ?_
  refine mj_okc_all (n := 24) mj_k_law_19 ?_
  refine mj_okc_all (n := 24) mj_k_law_20 ?_
  refine mj_okc_all (n := 24) mj_k_law_21 ?_
  refine mj_okc_all (n := 24) mj_k_law_22 ?_
  refine mj_okc_all (n := 24) mj_k_law_23 ?_
  refine mj_okc_all (n := 24) mj_k_law_24 ?_
  refine mj_okc_all (n := 24) mj_k_law_25 ?_
  refine mj_okc_all (n := 24) mj_k_law_26 ?_
  refine mj_okc_all (n := 24) mj_k_law_27 ?_
  refine mj_okc_all (n := 24) mj_k_law_28 ?_
  refine mj_okc_all (n := 24) mj_k_law_29 ?_
  refine mj_okc_all (n := 24) mj_k_law_30 ?_
  refine mj_okc_all (n := 24) mj_k_law_31 ?_
  refine mj_okc_all (n := 24) mj_k_law_32 ?_
  refine mj_okc_all (n := 24) mj_k_law_33 ?_
  refine mj_okc_all (n := 24) mj_k_law_34 ?_
  refine mj_okc_all (n := 24) mj_k_law_35 ?_
  refine mj_okc_all (n := 24) mj_k_law_36 ?_
  refine mj_okc_all (n := 24) mj_k_law_37 ?_
  refine mj_okc_all (n := 24) mj_k_law_38 ?_
  refine mj_okc_all (n := 24) mj_k_law_39 ?_
  refine mj_okc_all (n := 24) mj_k_law_40 ?_
  refine mj_okc_all (n := 24) mj_k_law_41 ?_
  refine mj_okc_all (n := 24) mj_k_law_42 ?_
  refine mj_okc_all (n := 24) mj_k_law_43 ?_
  refine mj_okc_all (n := 24) mj_k_law_44 ?_
  decide +kernel
