theorem mj_k_20 : (List.range 24).all (fun i => mj_ok (i + 200)) = true := by decide +kernel
theorem mj_k_21 : (List.range 24).all (fun i => mj_ok (i + 210)) = true := by decide +kernel
theorem mj_k_22 : (List.range 24).all (fun i => mj_ok (i + 220)) = true := by decide +kernel
theorem mj_k_23 : (List.range 24).all (fun i => mj_ok (i + 230)) = true := by decide +kernel
theorem mj_k_24 : (List.range 24).all (fun i => mj_ok (i + 240)) = true := by decide +kernel
theorem mj_k_25 : (List.range 24).all (fun i => mj_ok (i + 250)) = true := by decide +kernel
theorem mj_k_26 : (List.range 24).all (fun i => mj_ok (i + 260)) = true := by decide +kernel
theorem mj_k_27 : (List.range 15).all (fun i => mj_ok (i + 270)) = true := by decide +kernel
theorem mj_k_28 : (List.range 5).all (fun i => mj_ok (i + 280)) = true := by decide +kernel
theorem mj_k_law : mj_ok mj_NM = true := by decide +kernel
