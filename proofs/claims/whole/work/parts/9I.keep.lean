/-! THE TEXT HOLDS, 1: the reference keeps what it read (own work) -/
theorem hf_n {m : mj_M} {a k j c : Nat} {x : Int32} (hx : x = nI c) (hc : c < 2 ^ 31) (h : k ≠ a) : fx_half m a x k j = m k j := by
  rw [hx, na_half hc, if_neg (by omega)]
theorem hf_s {m : mj_M} {a j c : Nat} {x : Int32} (hx : x = nI c) (hc : c < 2 ^ 31) (h : j < c) : mj_I (fx_half m a x a j) = mj_I (m a (c + j)) := by
  rw [hx, na_half hc, if_pos ⟨rfl, h⟩]
  rfl
theorem hf_o {m : mj_M} {a k j c : Nat} {x : Int32} (hx : x = nI c) (hc : c < 2 ^ 31) (h : ¬ (k = a ∧ j < c)) : fx_half m a x k j = m k j := by
  rw [hx, na_half hc, if_neg h]
theorem hvA_72 {m : mj_M} {j : Nat} (hj : j < 3) : mj_I ((fx_half (fx_half (fx_half (fx_half (fx_half (fx_half (fx_half (fx_half (fx_half (fx_half (fx_half m 72 3) 73 6) 74 6) 75 6) 76 6) 77 8) 78 8) 79 8) 80 8) 81 8) 82 8) 72 j) = mj_I (m 72 (3 + j)) := by
  rw [hf_n (a := 82) (x := 8) (c := 8) rfl (by decide) (by omega), hf_n (a := 81) (x := 8) (c := 8) rfl (by decide) (by omega), hf_n (a := 80) (x := 8) (c := 8) rfl (by decide) (by omega), hf_n (a := 79) (x := 8) (c := 8) rfl (by decide) (by omega), hf_n (a := 78) (x := 8) (c := 8) rfl (by decide) (by omega), hf_n (a := 77) (x := 8) (c := 8) rfl (by decide) (by omega), hf_n (a := 76) (x := 6) (c := 6) rfl (by decide) (by omega), hf_n (a := 75) (x := 6) (c := 6) rfl (by decide) (by omega), hf_n (a := 74) (x := 6) (c := 6) rfl (by decide) (by omega), hf_n (a := 73) (x := 6) (c := 6) rfl (by decide) (by omega), hf_s (a := 72) (x := 3) (c := 3) rfl (by decide) hj]
theorem hvA_73 {m : mj_M} {j : Nat} (hj : j < 6) : mj_I ((fx_half (fx_half (fx_half (fx_half (fx_half (fx_half (fx_half (fx_half (fx_half (fx_half (fx_half m 72 3) 73 6) 74 6) 75 6) 76 6) 77 8) 78 8) 79 8) 80 8) 81 8) 82 8) 73 j) = mj_I (m 73 (6 + j)) := by
  rw [hf_n (a := 82) (x := 8) (c := 8) rfl (by decide) (by omega), hf_n (a := 81) (x := 8) (c := 8) rfl (by decide) (by omega), hf_n (a := 80) (x := 8) (c := 8) rfl (by decide) (by omega), hf_n (a := 79) (x := 8) (c := 8) rfl (by decide) (by omega), hf_n (a := 78) (x := 8) (c := 8) rfl (by decide) (by omega), hf_n (a := 77) (x := 8) (c := 8) rfl (by decide) (by omega), hf_n (a := 76) (x := 6) (c := 6) rfl (by decide) (by omega), hf_n (a := 75) (x := 6) (c := 6) rfl (by decide) (by omega), hf_n (a := 74) (x := 6) (c := 6) rfl (by decide) (by omega), hf_s (a := 73) (x := 6) (c := 6) rfl (by decide) hj, hf_n (a := 72) (x := 3) (c := 3) rfl (by decide) (by omega)]
theorem hvA_74 {m : mj_M} {j : Nat} (hj : j < 6) : mj_I ((fx_half (fx_half (fx_half (fx_half (fx_half (fx_half (fx_half (fx_half (fx_half (fx_half (fx_half m 72 3) 73 6) 74 6) 75 6) 76 6) 77 8) 78 8) 79 8) 80 8) 81 8) 82 8) 74 j) = mj_I (m 74 (6 + j)) := by
  rw [hf_n (a := 82) (x := 8) (c := 8) rfl (by decide) (by omega), hf_n (a := 81) (x := 8) (c := 8) rfl (by decide) (by omega), hf_n (a := 80) (x := 8) (c := 8) rfl (by decide) (by omega), hf_n (a := 79) (x := 8) (c := 8) rfl (by decide) (by omega), hf_n (a := 78) (x := 8) (c := 8) rfl (by decide) (by omega), hf_n (a := 77) (x := 8) (c := 8) rfl (by decide) (by omega), hf_n (a := 76) (x := 6) (c := 6) rfl (by decide) (by omega), hf_n (a := 75) (x := 6) (c := 6) rfl (by decide) (by omega), hf_s (a := 74) (x := 6) (c := 6) rfl (by decide) hj, hf_n (a := 73) (x := 6) (c := 6) rfl (by decide) (by omega), hf_n (a := 72) (x := 3) (c := 3) rfl (by decide) (by omega)]
theorem hvA_75 {m : mj_M} {j : Nat} (hj : j < 6) : mj_I ((fx_half (fx_half (fx_half (fx_half (fx_half (fx_half (fx_half (fx_half (fx_half (fx_half (fx_half m 72 3) 73 6) 74 6) 75 6) 76 6) 77 8) 78 8) 79 8) 80 8) 81 8) 82 8) 75 j) = mj_I (m 75 (6 + j)) := by
  rw [hf_n (a := 82) (x := 8) (c := 8) rfl (by decide) (by omega), hf_n (a := 81) (x := 8) (c := 8) rfl (by decide) (by omega), hf_n (a := 80) (x := 8) (c := 8) rfl (by decide) (by omega), hf_n (a := 79) (x := 8) (c := 8) rfl (by decide) (by omega), hf_n (a := 78) (x := 8) (c := 8) rfl (by decide) (by omega), hf_n (a := 77) (x := 8) (c := 8) rfl (by decide) (by omega), hf_n (a := 76) (x := 6) (c := 6) rfl (by decide) (by omega), hf_s (a := 75) (x := 6) (c := 6) rfl (by decide) hj, hf_n (a := 74) (x := 6) (c := 6) rfl (by decide) (by omega), hf_n (a := 73) (x := 6) (c := 6) rfl (by decide) (by omega), hf_n (a := 72) (x := 3) (c := 3) rfl (by decide) (by omega)]
theorem hvA_76 {m : mj_M} {j : Nat} (hj : j < 6) : mj_I ((fx_half (fx_half (fx_half (fx_half (fx_half (fx_half (fx_half (fx_half (fx_half (fx_half (fx_half m 72 3) 73 6) 74 6) 75 6) 76 6) 77 8) 78 8) 79 8) 80 8) 81 8) 82 8) 76 j) = mj_I (m 76 (6 + j)) := by
  rw [hf_n (a := 82) (x := 8) (c := 8) rfl (by decide) (by omega), hf_n (a := 81) (x := 8) (c := 8) rfl (by decide) (by omega), hf_n (a := 80) (x := 8) (c := 8) rfl (by decide) (by omega), hf_n (a := 79) (x := 8) (c := 8) rfl (by decide) (by omega), hf_n (a := 78) (x := 8) (c := 8) rfl (by decide) (by omega), hf_n (a := 77) (x := 8) (c := 8) rfl (by decide) (by omega), hf_s (a := 76) (x := 6) (c := 6) rfl (by decide) hj, hf_n (a := 75) (x := 6) (c := 6) rfl (by decide) (by omega), hf_n (a := 74) (x := 6) (c := 6) rfl (by decide) (by omega), hf_n (a := 73) (x := 6) (c := 6) rfl (by decide) (by omega), hf_n (a := 72) (x := 3) (c := 3) rfl (by decide) (by omega)]
theorem hvA_77 {m : mj_M} {j : Nat} (hj : j < 8) : mj_I ((fx_half (fx_half (fx_half (fx_half (fx_half (fx_half (fx_half (fx_half (fx_half (fx_half (fx_half m 72 3) 73 6) 74 6) 75 6) 76 6) 77 8) 78 8) 79 8) 80 8) 81 8) 82 8) 77 j) = mj_I (m 77 (8 + j)) := by
  rw [hf_n (a := 82) (x := 8) (c := 8) rfl (by decide) (by omega), hf_n (a := 81) (x := 8) (c := 8) rfl (by decide) (by omega), hf_n (a := 80) (x := 8) (c := 8) rfl (by decide) (by omega), hf_n (a := 79) (x := 8) (c := 8) rfl (by decide) (by omega), hf_n (a := 78) (x := 8) (c := 8) rfl (by decide) (by omega), hf_s (a := 77) (x := 8) (c := 8) rfl (by decide) hj, hf_n (a := 76) (x := 6) (c := 6) rfl (by decide) (by omega), hf_n (a := 75) (x := 6) (c := 6) rfl (by decide) (by omega), hf_n (a := 74) (x := 6) (c := 6) rfl (by decide) (by omega), hf_n (a := 73) (x := 6) (c := 6) rfl (by decide) (by omega), hf_n (a := 72) (x := 3) (c := 3) rfl (by decide) (by omega)]
theorem hvA_78 {m : mj_M} {j : Nat} (hj : j < 8) : mj_I ((fx_half (fx_half (fx_half (fx_half (fx_half (fx_half (fx_half (fx_half (fx_half (fx_half (fx_half m 72 3) 73 6) 74 6) 75 6) 76 6) 77 8) 78 8) 79 8) 80 8) 81 8) 82 8) 78 j) = mj_I (m 78 (8 + j)) := by
  rw [hf_n (a := 82) (x := 8) (c := 8) rfl (by decide) (by omega), hf_n (a := 81) (x := 8) (c := 8) rfl (by decide) (by omega), hf_n (a := 80) (x := 8) (c := 8) rfl (by decide) (by omega), hf_n (a := 79) (x := 8) (c := 8) rfl (by decide) (by omega), hf_s (a := 78) (x := 8) (c := 8) rfl (by decide) hj, hf_n (a := 77) (x := 8) (c := 8) rfl (by decide) (by omega), hf_n (a := 76) (x := 6) (c := 6) rfl (by decide) (by omega), hf_n (a := 75) (x := 6) (c := 6) rfl (by decide) (by omega), hf_n (a := 74) (x := 6) (c := 6) rfl (by decide) (by omega), hf_n (a := 73) (x := 6) (c := 6) rfl (by decide) (by omega), hf_n (a := 72) (x := 3) (c := 3) rfl (by decide) (by omega)]
theorem hvA_79 {m : mj_M} {j : Nat} (hj : j < 8) : mj_I ((fx_half (fx_half (fx_half (fx_half (fx_half (fx_half (fx_half (fx_half (fx_half (fx_half (fx_half m 72 3) 73 6) 74 6) 75 6) 76 6) 77 8) 78 8) 79 8) 80 8) 81 8) 82 8) 79 j) = mj_I (m 79 (8 + j)) := by
  rw [hf_n (a := 82) (x := 8) (c := 8) rfl (by decide) (by omega), hf_n (a := 81) (x := 8) (c := 8) rfl (by decide) (by omega), hf_n (a := 80) (x := 8) (c := 8) rfl (by decide) (by omega), hf_s (a := 79) (x := 8) (c := 8) rfl (by decide) hj, hf_n (a := 78) (x := 8) (c := 8) rfl (by decide) (by omega), hf_n (a := 77) (x := 8) (c := 8) rfl (by decide) (by omega), hf_n (a := 76) (x := 6) (c := 6) rfl (by decide) (by omega), hf_n (a := 75) (x := 6) (c := 6) rfl (by decide) (by omega), hf_n (a := 74) (x := 6) (c := 6) rfl (by decide) (by omega), hf_n (a := 73) (x := 6) (c := 6) rfl (by decide) (by omega), hf_n (a := 72) (x := 3) (c := 3) rfl (by decide) (by omega)]
theorem hvA_80 {m : mj_M} {j : Nat} (hj : j < 8) : mj_I ((fx_half (fx_half (fx_half (fx_half (fx_half (fx_half (fx_half (fx_half (fx_half (fx_half (fx_half m 72 3) 73 6) 74 6) 75 6) 76 6) 77 8) 78 8) 79 8) 80 8) 81 8) 82 8) 80 j) = mj_I (m 80 (8 + j)) := by
  rw [hf_n (a := 82) (x := 8) (c := 8) rfl (by decide) (by omega), hf_n (a := 81) (x := 8) (c := 8) rfl (by decide) (by omega), hf_s (a := 80) (x := 8) (c := 8) rfl (by decide) hj, hf_n (a := 79) (x := 8) (c := 8) rfl (by decide) (by omega), hf_n (a := 78) (x := 8) (c := 8) rfl (by decide) (by omega), hf_n (a := 77) (x := 8) (c := 8) rfl (by decide) (by omega), hf_n (a := 76) (x := 6) (c := 6) rfl (by decide) (by omega), hf_n (a := 75) (x := 6) (c := 6) rfl (by decide) (by omega), hf_n (a := 74) (x := 6) (c := 6) rfl (by decide) (by omega), hf_n (a := 73) (x := 6) (c := 6) rfl (by decide) (by omega), hf_n (a := 72) (x := 3) (c := 3) rfl (by decide) (by omega)]
theorem hvA_81 {m : mj_M} {j : Nat} (hj : j < 8) : mj_I ((fx_half (fx_half (fx_half (fx_half (fx_half (fx_half (fx_half (fx_half (fx_half (fx_half (fx_half m 72 3) 73 6) 74 6) 75 6) 76 6) 77 8) 78 8) 79 8) 80 8) 81 8) 82 8) 81 j) = mj_I (m 81 (8 + j)) := by
  rw [hf_n (a := 82) (x := 8) (c := 8) rfl (by decide) (by omega), hf_s (a := 81) (x := 8) (c := 8) rfl (by decide) hj, hf_n (a := 80) (x := 8) (c := 8) rfl (by decide) (by omega), hf_n (a := 79) (x := 8) (c := 8) rfl (by decide) (by omega), hf_n (a := 78) (x := 8) (c := 8) rfl (by decide) (by omega), hf_n (a := 77) (x := 8) (c := 8) rfl (by decide) (by omega), hf_n (a := 76) (x := 6) (c := 6) rfl (by decide) (by omega), hf_n (a := 75) (x := 6) (c := 6) rfl (by decide) (by omega), hf_n (a := 74) (x := 6) (c := 6) rfl (by decide) (by omega), hf_n (a := 73) (x := 6) (c := 6) rfl (by decide) (by omega), hf_n (a := 72) (x := 3) (c := 3) rfl (by decide) (by omega)]
theorem hvA_82 {m : mj_M} {j : Nat} (hj : j < 8) : mj_I ((fx_half (fx_half (fx_half (fx_half (fx_half (fx_half (fx_half (fx_half (fx_half (fx_half (fx_half m 72 3) 73 6) 74 6) 75 6) 76 6) 77 8) 78 8) 79 8) 80 8) 81 8) 82 8) 82 j) = mj_I (m 82 (8 + j)) := by
  rw [hf_s (a := 82) (x := 8) (c := 8) rfl (by decide) hj, hf_n (a := 81) (x := 8) (c := 8) rfl (by decide) (by omega), hf_n (a := 80) (x := 8) (c := 8) rfl (by decide) (by omega), hf_n (a := 79) (x := 8) (c := 8) rfl (by decide) (by omega), hf_n (a := 78) (x := 8) (c := 8) rfl (by decide) (by omega), hf_n (a := 77) (x := 8) (c := 8) rfl (by decide) (by omega), hf_n (a := 76) (x := 6) (c := 6) rfl (by decide) (by omega), hf_n (a := 75) (x := 6) (c := 6) rfl (by decide) (by omega), hf_n (a := 74) (x := 6) (c := 6) rfl (by decide) (by omega), hf_n (a := 73) (x := 6) (c := 6) rfl (by decide) (by omega), hf_n (a := 72) (x := 3) (c := 3) rfl (by decide) (by omega)]
theorem hvA_o {m : mj_M} {a j : Nat} (h : ¬ (72 ≤ a ∧ a ≤ 82)) : (fx_half (fx_half (fx_half (fx_half (fx_half (fx_half (fx_half (fx_half (fx_half (fx_half (fx_half m 72 3) 73 6) 74 6) 75 6) 76 6) 77 8) 78 8) 79 8) 80 8) 81 8) 82 8) a j = m a j := by
  rw [hf_n (a := 82) (x := 8) (c := 8) rfl (by decide) (by omega), hf_n (a := 81) (x := 8) (c := 8) rfl (by decide) (by omega), hf_n (a := 80) (x := 8) (c := 8) rfl (by decide) (by omega), hf_n (a := 79) (x := 8) (c := 8) rfl (by decide) (by omega), hf_n (a := 78) (x := 8) (c := 8) rfl (by decide) (by omega), hf_n (a := 77) (x := 8) (c := 8) rfl (by decide) (by omega), hf_n (a := 76) (x := 6) (c := 6) rfl (by decide) (by omega), hf_n (a := 75) (x := 6) (c := 6) rfl (by decide) (by omega), hf_n (a := 74) (x := 6) (c := 6) rfl (by decide) (by omega), hf_n (a := 73) (x := 6) (c := 6) rfl (by decide) (by omega), hf_n (a := 72) (x := 3) (c := 3) rfl (by decide) (by omega)]
theorem hvB_84 {m : mj_M} {j : Nat} (hj : j < 3) : mj_I ((fx_half (fx_half (fx_half (fx_half (fx_half m 84 3) 85 3) 86 64) 87 64) 88 64) 84 j) = mj_I (m 84 (3 + j)) := by
  rw [hf_n (a := 88) (x := 64) (c := 64) rfl (by decide) (by omega), hf_n (a := 87) (x := 64) (c := 64) rfl (by decide) (by omega), hf_n (a := 86) (x := 64) (c := 64) rfl (by decide) (by omega), hf_n (a := 85) (x := 3) (c := 3) rfl (by decide) (by omega), hf_s (a := 84) (x := 3) (c := 3) rfl (by decide) hj]
theorem hvB_85 {m : mj_M} {j : Nat} (hj : j < 3) : mj_I ((fx_half (fx_half (fx_half (fx_half (fx_half m 84 3) 85 3) 86 64) 87 64) 88 64) 85 j) = mj_I (m 85 (3 + j)) := by
  rw [hf_n (a := 88) (x := 64) (c := 64) rfl (by decide) (by omega), hf_n (a := 87) (x := 64) (c := 64) rfl (by decide) (by omega), hf_n (a := 86) (x := 64) (c := 64) rfl (by decide) (by omega), hf_s (a := 85) (x := 3) (c := 3) rfl (by decide) hj, hf_n (a := 84) (x := 3) (c := 3) rfl (by decide) (by omega)]
theorem hvB_86 {m : mj_M} {j : Nat} (hj : j < 64) : mj_I ((fx_half (fx_half (fx_half (fx_half (fx_half m 84 3) 85 3) 86 64) 87 64) 88 64) 86 j) = mj_I (m 86 (64 + j)) := by
  rw [hf_n (a := 88) (x := 64) (c := 64) rfl (by decide) (by omega), hf_n (a := 87) (x := 64) (c := 64) rfl (by decide) (by omega), hf_s (a := 86) (x := 64) (c := 64) rfl (by decide) hj, hf_n (a := 85) (x := 3) (c := 3) rfl (by decide) (by omega), hf_n (a := 84) (x := 3) (c := 3) rfl (by decide) (by omega)]
theorem hvB_87 {m : mj_M} {j : Nat} (hj : j < 64) : mj_I ((fx_half (fx_half (fx_half (fx_half (fx_half m 84 3) 85 3) 86 64) 87 64) 88 64) 87 j) = mj_I (m 87 (64 + j)) := by
  rw [hf_n (a := 88) (x := 64) (c := 64) rfl (by decide) (by omega), hf_s (a := 87) (x := 64) (c := 64) rfl (by decide) hj, hf_n (a := 86) (x := 64) (c := 64) rfl (by decide) (by omega), hf_n (a := 85) (x := 3) (c := 3) rfl (by decide) (by omega), hf_n (a := 84) (x := 3) (c := 3) rfl (by decide) (by omega)]
theorem hvB_88 {m : mj_M} {j : Nat} (hj : j < 64) : mj_I ((fx_half (fx_half (fx_half (fx_half (fx_half m 84 3) 85 3) 86 64) 87 64) 88 64) 88 j) = mj_I (m 88 (64 + j)) := by
  rw [hf_s (a := 88) (x := 64) (c := 64) rfl (by decide) hj, hf_n (a := 87) (x := 64) (c := 64) rfl (by decide) (by omega), hf_n (a := 86) (x := 64) (c := 64) rfl (by decide) (by omega), hf_n (a := 85) (x := 3) (c := 3) rfl (by decide) (by omega), hf_n (a := 84) (x := 3) (c := 3) rfl (by decide) (by omega)]
theorem hvB_o {m : mj_M} {a j : Nat} (h : ¬ (84 ≤ a ∧ a ≤ 88)) : (fx_half (fx_half (fx_half (fx_half (fx_half m 84 3) 85 3) 86 64) 87 64) 88 64) a j = m a j := by
  rw [hf_n (a := 88) (x := 64) (c := 64) rfl (by decide) (by omega), hf_n (a := 87) (x := 64) (c := 64) rfl (by decide) (by omega), hf_n (a := 86) (x := 64) (c := 64) rfl (by decide) (by omega), hf_n (a := 85) (x := 3) (c := 3) rfl (by decide) (by omega), hf_n (a := 84) (x := 3) (c := 3) rfl (by decide) (by omega)]
theorem hvA_all {m : mj_M} {a j : Nat} (h1 : 73 ≤ a) (h2 : a ≤ 76) (hj : j < 6) : mj_I ((fx_half (fx_half (fx_half (fx_half (fx_half (fx_half (fx_half (fx_half (fx_half (fx_half (fx_half m 72 3) 73 6) 74 6) 75 6) 76 6) 77 8) 78 8) 79 8) 80 8) 81 8) 82 8) a j) = mj_I (m a (6 + j)) := by
  rcases (show a = 73 ∨ a = 74 ∨ a = 75 ∨ a = 76 by omega) with rfl | rfl | rfl | rfl
  · exact hvA_73 hj
  · exact hvA_74 hj
  · exact hvA_75 hj
  · exact hvA_76 hj
theorem hvA_al2 {m : mj_M} {a j : Nat} (h1 : 77 ≤ a) (h2 : a ≤ 82) (hj : j < 8) : mj_I ((fx_half (fx_half (fx_half (fx_half (fx_half (fx_half (fx_half (fx_half (fx_half (fx_half (fx_half m 72 3) 73 6) 74 6) 75 6) 76 6) 77 8) 78 8) 79 8) 80 8) 81 8) 82 8) a j) = mj_I (m a (8 + j)) := by
  rcases (show a = 77 ∨ a = 78 ∨ a = 79 ∨ a = 80 ∨ a = 81 ∨ a = 82 by omega) with rfl | rfl | rfl | rfl | rfl | rfl
  · exact hvA_77 hj
  · exact hvA_78 hj
  · exact hvA_79 hj
  · exact hvA_80 hj
  · exact hvA_81 hj
  · exact hvA_82 hj
def okK (a j : Nat) : Prop := (a = 68 ∧ ((12 ≤ j ∧ j ≤ 16) ∨ j = 60 ∨ (63 ≤ j ∧ j ≤ 68) ∨ j = 71 ∨ j = 72 ∨ j = 75 ∨ j = 77)) ∨ (72 ≤ a ∧ a ≤ 88) ∨ (93 ≤ a ∧ a ≤ 100)
theorem cntT_le {T : zT} (hw : WT T) : ∀ i, 1 ≤ i → i ≤ 10 → cntT T i ≤ offT i := by
  have h0 := hw.np
  have h5 := hw.nw
  have h11 := hw.ns
  intro i h1 h2
  unfold cntT offT
  by_cases c : i ≤ 4
  · rw [if_pos c, if_pos c]; exact h0
  · rw [if_neg c, if_neg c]
    split
    · exact h5
    · exact h11
theorem WD_WL {D : zT} {o : Nat} (h : WD D o) : WL D := by
  intro l hl hlt
  obtain ⟨y1, y2, y3⟩ := h.2.2.2.2.2.2 l hl
  have hb : o.testBit (8 + l) = true := by
    cases c : o.testBit (8 + l) with
    | true => rfl
    | false => have := y1 c; omega
  exact ⟨(y2 hb).2.1, (y2 hb).2.2⟩
theorem keep_e {m : mj_M} {D : zT} {o : Nat} (hE : DR m D o) (hW : WD D o) : ∃ K, md_keepText m = some K ∧ (TR K D ∧ R9 K D ∧ LR K D ∧ SR D 0 K (sF D)) ∧ mj_J (K 68 60) = lN (D 0 15) ∧ mj_I (K 68 75) = 0 ∧ mj_I (K 68 77) = 0 ∧ mj_I (K 68 71) = 0 ∧ mj_I (K 68 72) = -1 ∧ mj_I (K 68 16) = nI (D 0 16) ∧ mj_I (K 68 13) = nI (D 0 12) ∧ ∀ a j, ¬ okK a j → K a j = m a j := by
  have hw := hW.1
  obtain ⟨⟨a1, a2, a3, a4, a5, a6⟩, ⟨b1, b2, b3⟩, c, d, e, f⟩ := hE
  unfold md_keepText
  generalize hA : mj_up (mj_up (mj_up (mj_up (mj_up m 68 12 (.int (mj_I (m 68 17)))) 68 13 (.int (mj_I (m 68 18)))) 68 14 (.int (mj_I (m 68 19)))) 68 15 (.int (mj_I (m 68 20)))) 68 16 (.int (mj_I (m 68 21))) = A
  have kA : ∀ a j, ¬ (a = 68 ∧ 12 ≤ j ∧ j ≤ 16) → A a j = m a j := fun a j h => by rw [← hA, na_upN (by omega), na_upN (by omega), na_upN (by omega), na_upN (by omega), na_upN (by omega)]
  have A12 : mj_I (A 68 12) = nI (D 0 0) := by rw [← hA, na_upN (by omega), na_upN (by omega), na_upN (by omega), na_upN (by omega), na_upS]; exact a1
  have A13 : mj_I (A 68 13) = nI (D 0 12) := by rw [← hA, na_upN (by omega), na_upN (by omega), na_upN (by omega), na_upS]; exact a2
  have A14 : mj_I (A 68 14) = nI (D 0 5) := by rw [← hA, na_upN (by omega), na_upN (by omega), na_upS]; exact a3
  have A15 : mj_I (A 68 15) = nI (D 0 11) := by rw [← hA, na_upN (by omega), na_upS]; exact a4
  have A16 : mj_I (A 68 16) = nI (D 0 16) := by rw [← hA, na_upS]; exact a5
  have b72 := fun j => hvA_72 (m := A) (j := j)
  have B1 : ∀ a j, 73 ≤ a → a ≤ 76 → j < 6 → _ := fun a j h1 h2 hj => hvA_all (m := A) h1 h2 hj
  have B3 : ∀ a j, 77 ≤ a → a ≤ 82 → j < 8 → _ := fun a j h1 h2 hj => hvA_al2 (m := A) h1 h2 hj
  have B2 := fun a j => hvA_o (m := A) (a := a) (j := j)
  generalize fx_half (fx_half (fx_half (fx_half (fx_half (fx_half (fx_half (fx_half (fx_half (fx_half (fx_half A 72 3) 73 6) 74 6) 75 6) 76 6) 77 8) 78 8) 79 8) 80 8) 81 8) 82 8 = B at *
  obtain ⟨t1, ⟨x1, C⟩, e1, q1, q2⟩ := lp_up (body := md_keepText_l140) (s := (0, B)) (fun k s => s.1 = nI k ∧ (∀ a j, ¬ (a = 83 ∧ j < 3) → s.2 a j = B a j) ∧ ∀ i, i < k → mj_I (s.2 83 i) = mj_I (B 83 (3 + i)) &&& 1) (fun _ s => (∀ a j, ¬ (a = 83 ∧ j < 3) → s.2 a j = B a j) ∧ ∀ i, i < 3 → mj_I (s.2 83 i) = mj_I (B 83 (3 + i)) &&& 1) 3 (by decide) ⟨rfl, fun _ _ _ => rfl, fun i hi => absurd hi (Nat.not_lt_zero i)⟩
    (by
      intro k s hk ⟨g1, g2, g3⟩
      obtain ⟨x, M⟩ := s
      dsimp only at g1 g2 g3
      subst g1
      have x0 : (nI k < 0) = False := eq_false (nI_pos (by omega))
      have x1 : (6 ≤ k) = False := eq_false (by omega)
      have x3 : (nI k).toNatClampNeg = k := nI_clamp (by omega)
      have e8 : (3 : Int32) + nI k = nI (3 + k) := by rw [show (3 : Int32) = nI 3 from rfl, nI_add]
      have y0 : (nI (3 + k) < 0) = False := eq_false (nI_pos (by omega))
      have y1 : (6 ≤ 3 + k) = False := eq_false (by omega)
      have y3 : (nI (3 + k)).toNatClampNeg = 3 + k := nI_clamp (by omega)
      unfold md_keepText_l140
      dsimp only
      rw [if_neg (show ¬ (3 : Int32) ≤ nI k from nI_ge (b := 3) hk (by decide))]
      simp only [e8, x0, x1, x3, y0, y1, y3, or_self, if_false]
      refine ⟨_, rfl, (nI_succ k).symm, fun a j h => ?_, fun i hi => ?_⟩
      · dsimp only
        rw [na_upN (by omega)]; exact g2 a j h
      · dsimp only
        by_cases cc : i = k
        · subst cc
          rw [na_upS, g2 _ _ (by omega)]
          rfl
        · rw [na_upN (by omega)]; exact g3 i (by omega))
    (by
      intro s ⟨g1, g2, g3⟩
      obtain ⟨x, M⟩ := s
      dsimp only at g1 g2 g3
      subst g1
      exact ⟨0, (nI 3, M), rfl, g2, g3⟩)
  dsimp only at q1 q2
  rw [e1, Option.bind_some]
  dsimp only
  have E84 := fun j => hvB_84 (m := C) (j := j)
  have E85 := fun j => hvB_85 (m := C) (j := j)
  have E86 := fun j => hvB_86 (m := C) (j := j)
  have E87 := fun j => hvB_87 (m := C) (j := j)
  have E88 := fun j => hvB_88 (m := C) (j := j)
  have E2 := fun a j => hvB_o (m := C) (a := a) (j := j)
  generalize fx_half (fx_half (fx_half (fx_half (fx_half C 84 3) 85 3) 86 64) 87 64) 88 64 = E at *
  -- values, before the beginning
  have v68 : ∀ j, E 68 j = A 68 j := fun j => by rw [E2 _ _ (by omega), q1 _ _ (by omega), B2 _ _ (by omega)]
  have vrow : ∀ i j, 1 ≤ i → i ≤ 10 → j < cntT D i → mj_I (E (72 + i) j) = nI (D i j) := fun i j h1 h2 h3 => by
    have hl := cntT_le hw i h1 h2
    rw [E2 _ _ (by omega), q1 _ _ (by omega)]
    have hc := c i j h1 h2 h3
    unfold offT at hl hc
    by_cases c4 : i ≤ 4
    · rw [if_pos c4] at hl hc
      rw [B1 (72 + i) j (by omega) (by omega) (by omega), kA _ _ (by omega)]
      exact hc
    · rw [if_neg c4] at hl hc
      rw [B3 (72 + i) j (by omega) (by omega) (by omega), kA _ _ (by omega)]
      exact hc
  have v72 : ∀ j, j < 3 → mj_I (E 72 j) = mj_I (m 72 (3 + j)) := fun j hj => by
    rw [E2 _ _ (by omega), q1 _ _ (by omega), b72 j hj, kA _ _ (by omega)]
  have v83 : ∀ l, l < 3 → mj_I (E 83 l) = (if o.testBit (8 + l) = true then 1 else 0) := fun l hl => by
    rw [E2 _ _ (by omega), q2 l hl, B2 _ _ (by omega), kA _ _ (by omega), (f l hl).1]
    split <;> rfl
  have v84 : ∀ a l, (a = 84 ∨ a = 85) → l < 3 → mj_I (E a l) = mj_I (m a (3 + l)) := fun a l ha hl => by
    rcases ha with rfl | rfl
    · rw [E84 l hl, q1 _ _ (by omega), B2 _ _ (by omega), kA _ _ (by omega)]
    · rw [E85 l hl, q1 _ _ (by omega), B2 _ _ (by omega), kA _ _ (by omega)]
  have v86 : ∀ a i, 86 ≤ a → a ≤ 88 → i < 64 → mj_I (E a i) = mj_I (m a (64 + i)) := fun a i h1 h2 hi => by
    rcases (show a = 86 ∨ a = 87 ∨ a = 88 by omega) with rfl | rfl | rfl
    · rw [E86 i hi, q1 _ _ (by omega), B2 _ _ (by omega), kA _ _ (by omega)]
    · rw [E87 i hi, q1 _ _ (by omega), B2 _ _ (by omega), kA _ _ (by omega)]
    · rw [E88 i hi, q1 _ _ (by omega), B2 _ _ (by omega), kA _ _ (by omega)]
  have hTR : TR E D := ⟨by rw [v68]; exact A12, by rw [v68]; exact A14, by rw [v68]; exact A15, by rw [v72 0 (by omega)]; exact b1, by rw [v72 1 (by omega)]; exact b2, by rw [v72 2 (by omega)]; exact b3, fun i j h1 h2 _ h4 => vrow i j h1 h2 h4⟩
  have hLR : LR E D := by
    intro l hl
    obtain ⟨y1, y2, y3⟩ := hW.2.2.2.2.2.2 l hl
    have h64 := (hw.law l hl).2
    refine ⟨fun z => ?_, fun z => ?_⟩
    · rw [v83 l hl, if_neg (fun w => by have := (y2 w).1; omega)]
    · have hb : o.testBit (8 + l) = true := by
        cases cc : o.testBit (8 + l) with
        | true => rfl
        | false => have := y1 cc; omega
      obtain ⟨f1, f2, f3⟩ := (f l hl).2 hb
      refine ⟨by rw [v83 l hl, if_pos hb], by rw [v84 84 l (Or.inl rfl) hl]; exact f1, by rw [v84 85 l (Or.inr rfl) hl]; exact f2, fun i hi => ?_⟩
      have hk := f3 i hi
      unfold knR at hk ⊢
      rw [v86 86 _ (by omega) (by omega) (by omega), v86 87 _ (by omega) (by omega) (by omega), v86 88 _ (by omega) (by omega) (by omega)]
      exact hk
  have kE : ∀ a j, ¬ (a = 68 ∧ 12 ≤ j ∧ j ≤ 16) → ¬ (72 ≤ a ∧ a ≤ 88) → E a j = m a j := fun a j h1 h2 => by rw [E2 _ _ (by omega), q1 _ _ (by omega), B2 _ _ (by omega), kA _ _ h1]
  unfold md_begin
  obtain ⟨F, f1, f2, f3⟩ := md_atFirst_e (b := 0) (by decide) hTR hw
  rw [show md_atFirst 0 E = some F from f1, Option.bind_some]
  have kF : ∀ a j, ¬ (93 ≤ a ∧ a ≤ 100) → F a j = E a j := fun a j h => f3 a j (by unfold okf; omega)
  have F72 : mj_I (F 72 2) = nI (D 0 15) := by rw [kF _ _ (by omega)]; exact hTR.seed
  rw [show ((2 : Int32)).toNatClampNeg = 2 from rfl, F72, nI_l (by have := hw.seed; omega)]
  obtain ⟨G, g1, g2, g3⟩ := md_plain_e (m := mj_up F 68 60 (.long (lN (D 0 15))))
  rw [g1, Option.bind_some, Option.bind_some]
  generalize hH : mj_up (mj_up (mj_up (mj_up G 68 71 (.int 0)) 68 72 (.int (-1))) 68 75 (.int 0)) 68 77 (.int 0) = H
  have kH : ∀ a j, ¬ (a = 68 ∧ (j = 71 ∨ j = 72 ∨ j = 75 ∨ j = 77)) → H a j = G a j := fun a j h => by rw [← hH, na_upN (by omega), na_upN (by omega), na_upN (by omega), na_upN (by omega)]
  have kHF : ∀ a j, ¬ (a = 68 ∧ (j = 60 ∨ (63 ≤ j ∧ j ≤ 68) ∨ j = 71 ∨ j = 72 ∨ j = 75 ∨ j = 77)) → H a j = F a j := fun a j h => by rw [kH _ _ (by omega), g3 _ _ (by omega), na_upN (by omega)]
  have kHE : ∀ a j, ¬ (a = 68 ∧ (j = 60 ∨ (63 ≤ j ∧ j ≤ 68) ∨ j = 71 ∨ j = 72 ∨ j = 75 ∨ j = 77)) → ¬ (93 ≤ a ∧ a ≤ 100) → H a j = E a j := fun a j h h2 => by rw [kHF _ _ h, kF _ _ h2]
  refine ⟨H, rfl, ⟨?_, ?_, ?_, ?_⟩, ?_, ?_, ?_, ?_, ?_, ?_, ?_, fun a j h => ?_⟩
  · exact ⟨by rw [kHE _ _ (by omega) (by omega)]; exact hTR.np, by rw [kHE _ _ (by omega) (by omega)]; exact hTR.nw, by rw [kHE _ _ (by omega) (by omega)]; exact hTR.ns, by rw [kHE _ _ (by omega) (by omega)]; exact hTR.spring, by rw [kHE _ _ (by omega) (by omega)]; exact hTR.wasp, by rw [kHE _ _ (by omega) (by omega)]; exact hTR.seed, fun i j h1 h2 h3 h4 => by rw [kHE _ _ (by omega) (by omega)]; exact hTR.row i j h1 h2 h3 h4⟩
  · intro w hww
    rw [kHE _ _ (by omega) (by omega)]
    exact vrow 9 w (by decide) (by decide) hww
  · exact hLR.cong (fun k h1 h2 => funext fun j => kHE _ _ (by omega) (by omega))
  · exact f2.cong (fun k j h1 h2 => kHF _ _ (by omega))
  · rw [kH _ _ (by omega), g3 _ _ (by omega), na_upS]; rfl
  · rw [← hH, na_upN (by omega), na_upS]; rfl
  · rw [← hH, na_upS]; rfl
  · rw [← hH, na_upN (by omega), na_upN (by omega), na_upN (by omega), na_upS]; rfl
  · rw [← hH, na_upN (by omega), na_upN (by omega), na_upS]; rfl
  · rw [kHE _ _ (by omega) (by omega), v68]; exact A16
  · rw [kHE _ _ (by omega) (by omega), v68]; exact A13
  · rw [kHE a j (by unfold okK at h; omega) (by unfold okK at h; omega), kE a j (by unfold okK at h; omega) (by unfold okK at h; omega)]
