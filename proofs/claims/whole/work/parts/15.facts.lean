theorem mj_rng {f : Nat → Bool} {n a : Nat} (h : (List.range n).all (fun i => f (i + a)) = true) {y : Nat} (h1 : a ≤ y) (h2 : y < a + n) : f y = true := by
  have := List.all_eq_true.mp h (y - a) (List.mem_range.mpr (by omega))
  rwa [Nat.sub_add_cancel h1] at this
theorem mj_k_all {y : Nat} (hy : y < mj_NM) : mj_ok y = true := by
  have hy : y < 285 := hy
  rcases Nat.lt_or_ge y 24 with h | h
  · exact mj_rng (f := mj_ok) (a := 0) mj_k_0 (by omega) (by omega)
  rcases Nat.lt_or_ge y 34 with h | h
  · exact mj_rng (f := mj_ok) (a := 10) mj_k_1 (by omega) (by omega)
  rcases Nat.lt_or_ge y 44 with h | h
  · exact mj_rng (f := mj_ok) (a := 20) mj_k_2 (by omega) (by omega)
  rcases Nat.lt_or_ge y 54 with h | h
  · exact mj_rng (f := mj_ok) (a := 30) mj_k_3 (by omega) (by omega)
  rcases Nat.lt_or_ge y 64 with h | h
  · exact mj_rng (f := mj_ok) (a := 40) mj_k_4 (by omega) (by omega)
  rcases Nat.lt_or_ge y 74 with h | h
  · exact mj_rng (f := mj_ok) (a := 50) mj_k_5 (by omega) (by omega)
  rcases Nat.lt_or_ge y 84 with h | h
  · exact mj_rng (f := mj_ok) (a := 60) mj_k_6 (by omega) (by omega)
  rcases Nat.lt_or_ge y 94 with h | h
  · exact mj_rng (f := mj_ok) (a := 70) mj_k_7 (by omega) (by omega)
  rcases Nat.lt_or_ge y 104 with h | h
  · exact mj_rng (f := mj_ok) (a := 80) mj_k_8 (by omega) (by omega)
  rcases Nat.lt_or_ge y 114 with h | h
  · exact mj_rng (f := mj_ok) (a := 90) mj_k_9 (by omega) (by omega)
  rcases Nat.lt_or_ge y 124 with h | h
  · exact mj_rng (f := mj_ok) (a := 100) mj_k_10 (by omega) (by omega)
  rcases Nat.lt_or_ge y 134 with h | h
  · exact mj_rng (f := mj_ok) (a := 110) mj_k_11 (by omega) (by omega)
  rcases Nat.lt_or_ge y 144 with h | h
  · exact mj_rng (f := mj_ok) (a := 120) mj_k_12 (by omega) (by omega)
  rcases Nat.lt_or_ge y 154 with h | h
  · exact mj_rng (f := mj_ok) (a := 130) mj_k_13 (by omega) (by omega)
  rcases Nat.lt_or_ge y 164 with h | h
  · exact mj_rng (f := mj_ok) (a := 140) mj_k_14 (by omega) (by omega)
  rcases Nat.lt_or_ge y 174 with h | h
  · exact mj_rng (f := mj_ok) (a := 150) mj_k_15 (by omega) (by omega)
  rcases Nat.lt_or_ge y 184 with h | h
  · exact mj_rng (f := mj_ok) (a := 160) mj_k_16 (by omega) (by omega)
  rcases Nat.lt_or_ge y 194 with h | h
  · exact mj_rng (f := mj_ok) (a := 170) mj_k_17 (by omega) (by omega)
  rcases Nat.lt_or_ge y 204 with h | h
  · exact mj_rng (f := mj_ok) (a := 180) mj_k_18 (by omega) (by omega)
  rcases Nat.lt_or_ge y 214 with h | h
  · exact mj_rng (f := mj_ok) (a := 190) mj_k_19 (by omega) (by omega)
  rcases Nat.lt_or_ge y 224 with h | h
  · exact mj_rng (f := mj_ok) (a := 200) mj_k_20 (by omega) (by omega)
  rcases Nat.lt_or_ge y 234 with h | h
  · exact mj_rng (f := mj_ok) (a := 210) mj_k_21 (by omega) (by omega)
  rcases Nat.lt_or_ge y 244 with h | h
  · exact mj_rng (f := mj_ok) (a := 220) mj_k_22 (by omega) (by omega)
  rcases Nat.lt_or_ge y 254 with h | h
  · exact mj_rng (f := mj_ok) (a := 230) mj_k_23 (by omega) (by omega)
  rcases Nat.lt_or_ge y 264 with h | h
  · exact mj_rng (f := mj_ok) (a := 240) mj_k_24 (by omega) (by omega)
  rcases Nat.lt_or_ge y 274 with h | h
  · exact mj_rng (f := mj_ok) (a := 250) mj_k_25 (by omega) (by omega)
  rcases Nat.lt_or_ge y 284 with h | h
  · exact mj_rng (f := mj_ok) (a := 260) mj_k_26 (by omega) (by omega)
  rcases Nat.lt_or_ge y 285 with h | h
  · exact mj_rng (f := mj_ok) (a := 270) mj_k_27 (by omega) (by omega)
  exact mj_rng (f := mj_ok) (a := 280) mj_k_28 (by omega) (by omega)
theorem mj_q_all {y : Nat} (hy : y < mj_NM) : mj_yok y = true := by
  have hy : y < 285 := hy
  rcases Nat.lt_or_ge y 24 with h | h
  · exact mj_rng (f := mj_yok) (a := 0) mj_q_0 (by omega) (by omega)
  rcases Nat.lt_or_ge y 34 with h | h
  · exact mj_rng (f := mj_yok) (a := 10) mj_q_1 (by omega) (by omega)
  rcases Nat.lt_or_ge y 44 with h | h
  · exact mj_rng (f := mj_yok) (a := 20) mj_q_2 (by omega) (by omega)
  rcases Nat.lt_or_ge y 54 with h | h
  · exact mj_rng (f := mj_yok) (a := 30) mj_q_3 (by omega) (by omega)
  rcases Nat.lt_or_ge y 64 with h | h
  · exact mj_rng (f := mj_yok) (a := 40) mj_q_4 (by omega) (by omega)
  rcases Nat.lt_or_ge y 74 with h | h
  · exact mj_rng (f := mj_yok) (a := 50) mj_q_5 (by omega) (by omega)
  rcases Nat.lt_or_ge y 84 with h | h
  · exact mj_rng (f := mj_yok) (a := 60) mj_q_6 (by omega) (by omega)
  rcases Nat.lt_or_ge y 94 with h | h
  · exact mj_rng (f := mj_yok) (a := 70) mj_q_7 (by omega) (by omega)
  rcases Nat.lt_or_ge y 104 with h | h
  · exact mj_rng (f := mj_yok) (a := 80) mj_q_8 (by omega) (by omega)
  rcases Nat.lt_or_ge y 114 with h | h
  · exact mj_rng (f := mj_yok) (a := 90) mj_q_9 (by omega) (by omega)
  rcases Nat.lt_or_ge y 124 with h | h
  · exact mj_rng (f := mj_yok) (a := 100) mj_q_10 (by omega) (by omega)
  rcases Nat.lt_or_ge y 134 with h | h
  · exact mj_rng (f := mj_yok) (a := 110) mj_q_11 (by omega) (by omega)
  rcases Nat.lt_or_ge y 144 with h | h
  · exact mj_rng (f := mj_yok) (a := 120) mj_q_12 (by omega) (by omega)
  rcases Nat.lt_or_ge y 154 with h | h
  · exact mj_rng (f := mj_yok) (a := 130) mj_q_13 (by omega) (by omega)
  rcases Nat.lt_or_ge y 164 with h | h
  · exact mj_rng (f := mj_yok) (a := 140) mj_q_14 (by omega) (by omega)
  rcases Nat.lt_or_ge y 174 with h | h
  · exact mj_rng (f := mj_yok) (a := 150) mj_q_15 (by omega) (by omega)
  rcases Nat.lt_or_ge y 184 with h | h
  · exact mj_rng (f := mj_yok) (a := 160) mj_q_16 (by omega) (by omega)
  rcases Nat.lt_or_ge y 194 with h | h
  · exact mj_rng (f := mj_yok) (a := 170) mj_q_17 (by omega) (by omega)
  rcases Nat.lt_or_ge y 204 with h | h
  · exact mj_rng (f := mj_yok) (a := 180) mj_q_18 (by omega) (by omega)
  rcases Nat.lt_or_ge y 214 with h | h
  · exact mj_rng (f := mj_yok) (a := 190) mj_q_19 (by omega) (by omega)
  rcases Nat.lt_or_ge y 224 with h | h
  · exact mj_rng (f := mj_yok) (a := 200) mj_q_20 (by omega) (by omega)
  rcases Nat.lt_or_ge y 234 with h | h
  · exact mj_rng (f := mj_yok) (a := 210) mj_q_21 (by omega) (by omega)
  rcases Nat.lt_or_ge y 244 with h | h
  · exact mj_rng (f := mj_yok) (a := 220) mj_q_22 (by omega) (by omega)
  rcases Nat.lt_or_ge y 254 with h | h
  · exact mj_rng (f := mj_yok) (a := 230) mj_q_23 (by omega) (by omega)
  rcases Nat.lt_or_ge y 264 with h | h
  · exact mj_rng (f := mj_yok) (a := 240) mj_q_24 (by omega) (by omega)
  rcases Nat.lt_or_ge y 274 with h | h
  · exact mj_rng (f := mj_yok) (a := 250) mj_q_25 (by omega) (by omega)
  rcases Nat.lt_or_ge y 284 with h | h
  · exact mj_rng (f := mj_yok) (a := 260) mj_q_26 (by omega) (by omega)
  rcases Nat.lt_or_ge y 285 with h | h
  · exact mj_rng (f := mj_yok) (a := 270) mj_q_27 (by omega) (by omega)
  exact mj_rng (f := mj_yok) (a := 280) mj_q_28 (by omega) (by omega)
theorem mj_b_oi : Cond.instanceMethod Lib.objectInit ∈ mj_tb := mj_wd_mem (p := 145) (by decide +kernel)
theorem mj_b_oc : Cond.code Lib.objectInit ⟨#[0xb1]⟩ 1 none ∈ mj_tb := mj_wd_mem (p := 146) (by decide +kernel)
theorem mj_b_aint : Cond.arrayClass .int ∈ mj_tb := mj_wd_mem (p := 269) (by decide +kernel)
theorem mj_b_aboolean : Cond.arrayClass .boolean ∈ mj_tb := mj_wd_mem (p := 1586) (by decide +kernel)
theorem mj_b_along : Cond.arrayClass .long ∈ mj_tb := mj_wd_mem (p := 415) (by decide +kernel)
theorem mj_u_0 : ∀ w ∈ u_ws "BeatParish" mf_0 14, w ∈ mj_tb := by
  intro w hw
  have h : (List.range 14).all (fun k => mj_wd (([572, 574, 576, 578, 580, 582, 584, 586, 588, 590, 592, 594, 596, 598] : List Nat).getD k 0) (u_lay "BeatParish" mf_0 k)) = true := by decide +kernel
  obtain ⟨k, hk, rfl⟩ := List.mem_map.mp hw
  exact mj_wd_mem (List.all_eq_true.mp h k hk)
theorem mj_v_0 : ∀ k, k < 14 → ∃ ty, parseFieldDescriptor (mf_0 k).2.2.1 = some ty ∧ mj_fty ty = mj_ty 0 k ∧ mj_fty ty ≤ 3 := by
  intro k hk
  have h : (List.range 14).all (fun k => match parseFieldDescriptor (mf_0 k).2.2.1 with
    | some ty => decide (mj_fty ty = mj_ty 0 k) && Nat.ble (mj_fty ty) 3
    | none => false) = true := by decide +kernel
  have h2 := List.all_eq_true.mp h k (List.mem_range.mpr hk)
  split at h2
  next ty hty =>
    rw [Bool.and_eq_true] at h2
    exact ⟨ty, hty, of_decide_eq_true h2.1, Nat.le_of_ble_eq_true h2.2⟩
  next => cases h2
theorem mj_w_0 : ∀ a, a < 14 → ∀ b, b < 14 → a ≠ b → (mf_0 a).2.1 ≠ (mf_0 b).2.1 := by decide +kernel
theorem mj_x_0 : Cond.instantiable "BeatParish" 14 ∈ mj_tb ∧ Cond.initialized "BeatParish" ∈ mj_tb ∧ ∀ k, k < 14 → (mf_0 k).1 = "BeatParish" := ⟨mj_wd_mem (p := 140) (by decide +kernel), mj_wd_mem (p := 118) (by decide +kernel), by decide +kernel⟩
theorem mj_u_1 : ∀ w ∈ u_ws "BeatParish$Told" mf_1 20, w ∈ mj_tb := by
  intro w hw
  have h : (List.range 20).all (fun k => mj_wd (([228, 230, 232, 234, 236, 238, 240, 242, 244, 246, 248, 250, 252, 254, 256, 258, 260, 262, 264, 266] : List Nat).getD k 0) (u_lay "BeatParish$Told" mf_1 k)) = true := by decide +kernel
  obtain ⟨k, hk, rfl⟩ := List.mem_map.mp hw
  exact mj_wd_mem (List.all_eq_true.mp h k hk)
theorem mj_v_1 : ∀ k, k < 20 → ∃ ty, parseFieldDescriptor (mf_1 k).2.2.1 = some ty ∧ mj_fty ty = mj_ty 1 k ∧ mj_fty ty ≤ 3 := by
  intro k hk
  have h : (List.range 20).all (fun k => match parseFieldDescriptor (mf_1 k).2.2.1 with
    | some ty => decide (mj_fty ty = mj_ty 1 k) && Nat.ble (mj_fty ty) 3
    | none => false) = true := by decide +kernel
  have h2 := List.all_eq_true.mp h k (List.mem_range.mpr hk)
  split at h2
  next ty hty =>
    rw [Bool.and_eq_true] at h2
    exact ⟨ty, hty, of_decide_eq_true h2.1, Nat.le_of_ble_eq_true h2.2⟩
  next => cases h2
theorem mj_w_1 : ∀ a, a < 20 → ∀ b, b < 20 → a ≠ b → (mf_1 a).2.1 ≠ (mf_1 b).2.1 := by decide +kernel
theorem mj_x_1 : Cond.instantiable "BeatParish$Told" 20 ∈ mj_tb ∧ Cond.initialized "BeatParish$Told" ∈ mj_tb ∧ ∀ k, k < 20 → (mf_1 k).1 = "BeatParish$Told" := ⟨mj_wd_mem (p := 148) (by decide +kernel), mj_wd_mem (p := 119) (by decide +kernel), by decide +kernel⟩
theorem mj_u_2 : ∀ w ∈ u_ws "BeatParish$Reader" mf_2 6, w ∈ mj_tb := by
  intro w hw
  have h : (List.range 6).all (fun k => mj_wd (([377, 379, 381, 383, 385, 387] : List Nat).getD k 0) (u_lay "BeatParish$Reader" mf_2 k)) = true := by decide +kernel
  obtain ⟨k, hk, rfl⟩ := List.mem_map.mp hw
  exact mj_wd_mem (List.all_eq_true.mp h k hk)
theorem mj_v_2 : ∀ k, k < 6 → ∃ ty, parseFieldDescriptor (mf_2 k).2.2.1 = some ty ∧ mj_fty ty = mj_ty 2 k ∧ mj_fty ty ≤ 3 := by
  intro k hk
  have h : (List.range 6).all (fun k => match parseFieldDescriptor (mf_2 k).2.2.1 with
    | some ty => decide (mj_fty ty = mj_ty 2 k) && Nat.ble (mj_fty ty) 3
    | none => false) = true := by decide +kernel
  have h2 := List.all_eq_true.mp h k (List.mem_range.mpr hk)
  split at h2
  next ty hty =>
    rw [Bool.and_eq_true] at h2
    exact ⟨ty, hty, of_decide_eq_true h2.1, Nat.le_of_ble_eq_true h2.2⟩
  next => cases h2
theorem mj_w_2 : ∀ a, a < 6 → ∀ b, b < 6 → a ≠ b → (mf_2 a).2.1 ≠ (mf_2 b).2.1 := by decide +kernel
theorem mj_x_2 : Cond.instantiable "BeatParish$Reader" 6 ∈ mj_tb ∧ Cond.initialized "BeatParish$Reader" ∈ mj_tb ∧ ∀ k, k < 6 → (mf_2 k).1 = "BeatParish$Reader" := ⟨mj_wd_mem (p := 271) (by decide +kernel), mj_wd_mem (p := 120) (by decide +kernel), by decide +kernel⟩
theorem mj_u_3 : ∀ w ∈ u_ws "BeatParish$Tokens" mf_3 9, w ∈ mj_tb := by
  intro w hw
  have h : (List.range 9).all (fun k => mj_wd (([349, 351, 353, 355, 357, 359, 361, 363, 365] : List Nat).getD k 0) (u_lay "BeatParish$Tokens" mf_3 k)) = true := by decide +kernel
  obtain ⟨k, hk, rfl⟩ := List.mem_map.mp hw
  exact mj_wd_mem (List.all_eq_true.mp h k hk)
theorem mj_v_3 : ∀ k, k < 9 → ∃ ty, parseFieldDescriptor (mf_3 k).2.2.1 = some ty ∧ mj_fty ty = mj_ty 3 k ∧ mj_fty ty ≤ 3 := by
  intro k hk
  have h : (List.range 9).all (fun k => match parseFieldDescriptor (mf_3 k).2.2.1 with
    | some ty => decide (mj_fty ty = mj_ty 3 k) && Nat.ble (mj_fty ty) 3
    | none => false) = true := by decide +kernel
  have h2 := List.all_eq_true.mp h k (List.mem_range.mpr hk)
  split at h2
  next ty hty =>
    rw [Bool.and_eq_true] at h2
    exact ⟨ty, hty, of_decide_eq_true h2.1, Nat.le_of_ble_eq_true h2.2⟩
  next => cases h2
theorem mj_w_3 : ∀ a, a < 9 → ∀ b, b < 9 → a ≠ b → (mf_3 a).2.1 ≠ (mf_3 b).2.1 := by decide +kernel
theorem mj_x_3 : Cond.instantiable "BeatParish$Tokens" 9 ∈ mj_tb ∧ Cond.initialized "BeatParish$Tokens" ∈ mj_tb ∧ ∀ k, k < 9 → (mf_3 k).1 = "BeatParish$Tokens" := ⟨mj_wd_mem (p := 277) (by decide +kernel), mj_wd_mem (p := 121) (by decide +kernel), by decide +kernel⟩
theorem mj_u_4 : ∀ w ∈ u_ws "BeatParish$Clock" mf_4 4, w ∈ mj_tb := by
  intro w hw
  have h : (List.range 4).all (fun k => mj_wd (([422, 424, 426, 428] : List Nat).getD k 0) (u_lay "BeatParish$Clock" mf_4 k)) = true := by decide +kernel
  obtain ⟨k, hk, rfl⟩ := List.mem_map.mp hw
  exact mj_wd_mem (List.all_eq_true.mp h k hk)
theorem mj_v_4 : ∀ k, k < 4 → ∃ ty, parseFieldDescriptor (mf_4 k).2.2.1 = some ty ∧ mj_fty ty = mj_ty 4 k ∧ mj_fty ty ≤ 3 := by
  intro k hk
  have h : (List.range 4).all (fun k => match parseFieldDescriptor (mf_4 k).2.2.1 with
    | some ty => decide (mj_fty ty = mj_ty 4 k) && Nat.ble (mj_fty ty) 3
    | none => false) = true := by decide +kernel
  have h2 := List.all_eq_true.mp h k (List.mem_range.mpr hk)
  split at h2
  next ty hty =>
    rw [Bool.and_eq_true] at h2
    exact ⟨ty, hty, of_decide_eq_true h2.1, Nat.le_of_ble_eq_true h2.2⟩
  next => cases h2
theorem mj_w_4 : ∀ a, a < 4 → ∀ b, b < 4 → a ≠ b → (mf_4 a).2.1 ≠ (mf_4 b).2.1 := by decide +kernel
theorem mj_x_4 : Cond.instantiable "BeatParish$Clock" 4 ∈ mj_tb ∧ Cond.initialized "BeatParish$Clock" ∈ mj_tb ∧ ∀ k, k < 4 → (mf_4 k).1 = "BeatParish$Clock" := ⟨mj_wd_mem (p := 391) (by decide +kernel), mj_wd_mem (p := 126) (by decide +kernel), by decide +kernel⟩
theorem mj_u_5 : ∀ w ∈ u_ws "BeatParish$Reckoner" mf_5 4, w ∈ mj_tb := by
  intro w hw
  have h : (List.range 4).all (fun k => mj_wd (([406, 408, 410, 412] : List Nat).getD k 0) (u_lay "BeatParish$Reckoner" mf_5 k)) = true := by decide +kernel
  obtain ⟨k, hk, rfl⟩ := List.mem_map.mp hw
  exact mj_wd_mem (List.all_eq_true.mp h k hk)
theorem mj_v_5 : ∀ k, k < 4 → ∃ ty, parseFieldDescriptor (mf_5 k).2.2.1 = some ty ∧ mj_fty ty = mj_ty 5 k ∧ mj_fty ty ≤ 3 := by
  intro k hk
  have h : (List.range 4).all (fun k => match parseFieldDescriptor (mf_5 k).2.2.1 with
    | some ty => decide (mj_fty ty = mj_ty 5 k) && Nat.ble (mj_fty ty) 3
    | none => false) = true := by decide +kernel
  have h2 := List.all_eq_true.mp h k (List.mem_range.mpr hk)
  split at h2
  next ty hty =>
    rw [Bool.and_eq_true] at h2
    exact ⟨ty, hty, of_decide_eq_true h2.1, Nat.le_of_ble_eq_true h2.2⟩
  next => cases h2
theorem mj_w_5 : ∀ a, a < 4 → ∀ b, b < 4 → a ≠ b → (mf_5 a).2.1 ≠ (mf_5 b).2.1 := by decide +kernel
theorem mj_x_5 : Cond.instantiable "BeatParish$Reckoner" 4 ∈ mj_tb ∧ Cond.initialized "BeatParish$Reckoner" ∈ mj_tb ∧ ∀ k, k < 4 → (mf_5 k).1 = "BeatParish$Reckoner" := ⟨mj_wd_mem (p := 397) (by decide +kernel), mj_wd_mem (p := 127) (by decide +kernel), by decide +kernel⟩
theorem mj_u_6 : ∀ w ∈ u_ws "BeatParish$State" mf_6 11, w ∈ mj_tb := by
  intro w hw
  have h : (List.range 11).all (fun k => mj_wd (([476, 478, 480, 482, 484, 486, 488, 490, 492, 494, 496] : List Nat).getD k 0) (u_lay "BeatParish$State" mf_6 k)) = true := by decide +kernel
  obtain ⟨k, hk, rfl⟩ := List.mem_map.mp hw
  exact mj_wd_mem (List.all_eq_true.mp h k hk)
theorem mj_v_6 : ∀ k, k < 11 → ∃ ty, parseFieldDescriptor (mf_6 k).2.2.1 = some ty ∧ mj_fty ty = mj_ty 6 k ∧ mj_fty ty ≤ 3 := by
  intro k hk
  have h : (List.range 11).all (fun k => match parseFieldDescriptor (mf_6 k).2.2.1 with
    | some ty => decide (mj_fty ty = mj_ty 6 k) && Nat.ble (mj_fty ty) 3
    | none => false) = true := by decide +kernel
  have h2 := List.all_eq_true.mp h k (List.mem_range.mpr hk)
  split at h2
  next ty hty =>
    rw [Bool.and_eq_true] at h2
    exact ⟨ty, hty, of_decide_eq_true h2.1, Nat.le_of_ble_eq_true h2.2⟩
  next => cases h2
theorem mj_w_6 : ∀ a, a < 11 → ∀ b, b < 11 → a ≠ b → (mf_6 a).2.1 ≠ (mf_6 b).2.1 := by decide +kernel
theorem mj_x_6 : Cond.instantiable "BeatParish$State" 11 ∈ mj_tb ∧ Cond.initialized "BeatParish$State" ∈ mj_tb ∧ ∀ k, k < 11 → (mf_6 k).1 = "BeatParish$State" := ⟨mj_wd_mem (p := 432) (by decide +kernel), mj_wd_mem (p := 128) (by decide +kernel), by decide +kernel⟩
theorem mj_u_7 : ∀ w ∈ u_ws "BeatParish$Deeds" mf_7 4, w ∈ mj_tb := by
  intro w hw
  have h : (List.range 4).all (fun k => mj_wd (([510, 512, 514, 516] : List Nat).getD k 0) (u_lay "BeatParish$Deeds" mf_7 k)) = true := by decide +kernel
  obtain ⟨k, hk, rfl⟩ := List.mem_map.mp hw
  exact mj_wd_mem (List.all_eq_true.mp h k hk)
theorem mj_v_7 : ∀ k, k < 4 → ∃ ty, parseFieldDescriptor (mf_7 k).2.2.1 = some ty ∧ mj_fty ty = mj_ty 7 k ∧ mj_fty ty ≤ 3 := by
  intro k hk
  have h : (List.range 4).all (fun k => match parseFieldDescriptor (mf_7 k).2.2.1 with
    | some ty => decide (mj_fty ty = mj_ty 7 k) && Nat.ble (mj_fty ty) 3
    | none => false) = true := by decide +kernel
  have h2 := List.all_eq_true.mp h k (List.mem_range.mpr hk)
  split at h2
  next ty hty =>
    rw [Bool.and_eq_true] at h2
    exact ⟨ty, hty, of_decide_eq_true h2.1, Nat.le_of_ble_eq_true h2.2⟩
  next => cases h2
theorem mj_w_7 : ∀ a, a < 4 → ∀ b, b < 4 → a ≠ b → (mf_7 a).2.1 ≠ (mf_7 b).2.1 := by decide +kernel
theorem mj_x_7 : Cond.instantiable "BeatParish$Deeds" 4 ∈ mj_tb ∧ Cond.initialized "BeatParish$Deeds" ∈ mj_tb ∧ ∀ k, k < 4 → (mf_7 k).1 = "BeatParish$Deeds" := ⟨mj_wd_mem (p := 500) (by decide +kernel), mj_wd_mem (p := 129) (by decide +kernel), by decide +kernel⟩
theorem mj_u_8 : ∀ w ∈ u_ws "BeatParish$Sights" mf_8 7, w ∈ mj_tb := by
  intro w hw
  have h : (List.range 7).all (fun k => mj_wd (([534, 536, 538, 540, 542, 544, 546] : List Nat).getD k 0) (u_lay "BeatParish$Sights" mf_8 k)) = true := by decide +kernel
  obtain ⟨k, hk, rfl⟩ := List.mem_map.mp hw
  exact mj_wd_mem (List.all_eq_true.mp h k hk)
theorem mj_v_8 : ∀ k, k < 7 → ∃ ty, parseFieldDescriptor (mf_8 k).2.2.1 = some ty ∧ mj_fty ty = mj_ty 8 k ∧ mj_fty ty ≤ 3 := by
  intro k hk
  have h : (List.range 7).all (fun k => match parseFieldDescriptor (mf_8 k).2.2.1 with
    | some ty => decide (mj_fty ty = mj_ty 8 k) && Nat.ble (mj_fty ty) 3
    | none => false) = true := by decide +kernel
  have h2 := List.all_eq_true.mp h k (List.mem_range.mpr hk)
  split at h2
  next ty hty =>
    rw [Bool.and_eq_true] at h2
    exact ⟨ty, hty, of_decide_eq_true h2.1, Nat.le_of_ble_eq_true h2.2⟩
  next => cases h2
theorem mj_w_8 : ∀ a, a < 7 → ∀ b, b < 7 → a ≠ b → (mf_8 a).2.1 ≠ (mf_8 b).2.1 := by decide +kernel
theorem mj_x_8 : Cond.instantiable "BeatParish$Sights" 7 ∈ mj_tb ∧ Cond.initialized "BeatParish$Sights" ∈ mj_tb ∧ ∀ k, k < 7 → (mf_8 k).1 = "BeatParish$Sights" := ⟨mj_wd_mem (p := 520) (by decide +kernel), mj_wd_mem (p := 130) (by decide +kernel), by decide +kernel⟩
theorem mj_u_9 : ∀ w ∈ u_ws "BeatParishModel" mf_9 81, w ∈ mj_tb := by
  intro w hw
  have h : (List.range 81).all (fun k => mj_wd (([1423, 1425, 1427, 1429, 1431, 1433, 1435, 1437, 1439, 1441, 1443, 1445, 1447, 1449, 1451, 1453, 1455, 1457, 1459, 1461, 1463, 1465, 1467, 1469, 1471, 1473, 1475, 1477, 1479, 1481, 1483, 1485, 1487, 1489, 1491, 1493, 1495, 1497, 1499, 1501, 1503, 1505, 1507, 1509, 1511, 1513, 1515, 1517, 1519, 1521, 1523, 1525, 1527, 1529, 1531, 1533, 1535, 1537, 1539, 1541, 1543, 1545, 1547, 1549, 1551, 1553, 1555, 1557, 1559, 1561, 1563, 1565, 1567, 1569, 1571, 1573, 1575, 1577, 1579, 1581, 1583] : List Nat).getD k 0) (u_lay "BeatParishModel" mf_9 k)) = true := by decide +kernel
  obtain ⟨k, hk, rfl⟩ := List.mem_map.mp hw
  exact mj_wd_mem (List.all_eq_true.mp h k hk)
theorem mj_v_9 : ∀ k, k < 81 → ∃ ty, parseFieldDescriptor (mf_9 k).2.2.1 = some ty ∧ mj_fty ty = mj_ty 9 k ∧ mj_fty ty ≤ 3 := by
  intro k hk
  have h : (List.range 81).all (fun k => match parseFieldDescriptor (mf_9 k).2.2.1 with
    | some ty => decide (mj_fty ty = mj_ty 9 k) && Nat.ble (mj_fty ty) 3
    | none => false) = true := by decide +kernel
  have h2 := List.all_eq_true.mp h k (List.mem_range.mpr hk)
  split at h2
  next ty hty =>
    rw [Bool.and_eq_true] at h2
    exact ⟨ty, hty, of_decide_eq_true h2.1, Nat.le_of_ble_eq_true h2.2⟩
  next => cases h2
theorem mj_w_9 : ∀ a, a < 81 → ∀ b, b < 81 → a ≠ b → (mf_9 a).2.1 ≠ (mf_9 b).2.1 := by decide +kernel
theorem mj_x_9 : Cond.instantiable "BeatParishModel" 81 ∈ mj_tb ∧ Cond.initialized "BeatParishModel" ∈ mj_tb ∧ ∀ k, k < 81 → (mf_9 k).1 = "BeatParishModel" := ⟨mj_wd_mem (p := 1314) (by decide +kernel), mj_wd_mem (p := 131) (by decide +kernel), by decide +kernel⟩
theorem mj_t0 : mj_T0 := by
  refine ⟨trivial, fun y hy => ?_, mj_b_oi, mj_b_oc, mj_b_aint, mj_b_aboolean, mj_b_along, fun c C T N hc => ?_⟩
  · have h := mj_q_all hy
    unfold mj_yok at h
    rw [Bool.and_eq_true, Bool.and_eq_true, Bool.and_eq_true] at h
    exact ⟨mj_wd_mem h.1, Nat.le_of_ble_eq_true h.2.1, h.2.2.1, of_decide_eq_true h.2.2.2, mj_k_all hy⟩
  · have hlt : c < 10 := (List.getElem?_eq_some_iff.mp hc).1
    match c, hlt with
    | 0, _ => cases hc; exact ⟨mj_u_0, mj_v_0, mj_w_0, mj_x_0⟩
    | 1, _ => cases hc; exact ⟨mj_u_1, mj_v_1, mj_w_1, mj_x_1⟩
    | 2, _ => cases hc; exact ⟨mj_u_2, mj_v_2, mj_w_2, mj_x_2⟩
    | 3, _ => cases hc; exact ⟨mj_u_3, mj_v_3, mj_w_3, mj_x_3⟩
    | 4, _ => cases hc; exact ⟨mj_u_4, mj_v_4, mj_w_4, mj_x_4⟩
    | 5, _ => cases hc; exact ⟨mj_u_5, mj_v_5, mj_w_5, mj_x_5⟩
    | 6, _ => cases hc; exact ⟨mj_u_6, mj_v_6, mj_w_6, mj_x_6⟩
    | 7, _ => cases hc; exact ⟨mj_u_7, mj_v_7, mj_w_7, mj_x_7⟩
    | 8, _ => cases hc; exact ⟨mj_u_8, mj_v_8, mj_w_8, mj_x_8⟩
    | 9, _ => cases hc; exact ⟨mj_u_9, mj_v_9, mj_w_9, mj_x_9⟩
