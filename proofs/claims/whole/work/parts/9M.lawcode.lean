/-! THE LAW'S CODE, case by case (made by genlaw.py; own work) -/
def LL (i : Nat) : mj_L := [some (.ref 0), some (.ref 1), some (.ref 68), some (.ref 109), some (.int (nI i)), none, none]
theorem lw_n {Ls i j : Nat} {c : Int32} (hc : c = nI j) (hL : Ls ≤ 3072) (h : i + j < Ls) : (nI i + c).toNatClampNeg = i + j ∧ ¬ ((nI i + c) < 0 ∨ Ls ≤ (nI i + c).toNatClampNeg) := by
  have e : nI i + c = nI (i + j) := by rw [hc]; exact (Int32.ofNat_add i j).symm
  have e2 : (nI (i + j)).toNatClampNeg = i + j := nI_clamp (by omega)
  rw [e, e2]
  refine ⟨rfl, fun z => ?_⟩
  rcases z with z | z
  · exact nI_pos (by omega) z
  · omega
theorem lw_cmp {r : Int64} : lg_cmp r r = 0 := by unfold lg_cmp; simp
section LC
variable {Ls x i : Nat} {X : mj_X} {R : Option Value → mj_G → mj_M → Prop} {P : mj_K → Prop} {m : mj_M}
set_option maxRecDepth 20000 in
theorem lw_feed (hC : mj_cls false (mj_sh Ls) mj_rw mj_dv mj_cd_285 X R P) (hL : Ls ≤ 3072) (hi : i + 6 ≤ Ls) (H : LSI X 1 155 [.int (mj_I (m 0 (i + 1))), .int (mj_I (m 0 (i + 2))), .int (mj_I (m 0 (i + 3))), .int (mj_I (m 0 (i + 4))), .int (mj_I (m 0 (i + 5)))] x m) (K : ∀ m2, LI m2 → P (1696, LL i, [], (110, x), m2)) : P (232, LL i, [], (110, x), m) := by
  obtain ⟨r, m1, m2, h1, h2, e0, _, hI⟩ := H
  have a1 := lw_n (i := i) (c := 1) (j := 1) rfl hL (show i + 1 < Ls by omega)
  have a2 := lw_n (i := i) (c := 2) (j := 2) rfl hL (show i + 2 < Ls by omega)
  have a3 := lw_n (i := i) (c := 3) (j := 3) rfl hL (show i + 3 < Ls by omega)
  have a4 := lw_n (i := i) (c := 4) (j := 4) rfl hL (show i + 4 < Ls by omega)
  have a5 := lw_n (i := i) (c := 5) (j := 5) rfl hL (show i + 5 < Ls by omega)
  refine mj_gcp hC 5 ?_
  show P (238, LL i, [.int (nI i + 1), .ref 0, .ref 1], (110, x), m)
  refine mj_gcp hC 1 ?_
  refine ⟨a1.2, ?_⟩
  show P (239, LL i, [.int (mj_I (m 0 (nI i + 1).toNatClampNeg)), .ref 1], (110, x), m)
  rw [a1.1]
  refine mj_gcp hC 4 ?_
  show P (244, LL i, [.int (nI i + 2), .ref 0, .int (mj_I (m 0 (i + 1))), .ref 1], (110, x), m)
  refine mj_gcp hC 1 ?_
  refine ⟨a2.2, ?_⟩
  show P (245, LL i, [.int (mj_I (m 0 (nI i + 2).toNatClampNeg)), .int (mj_I (m 0 (i + 1))), .ref 1], (110, x), m)
  rw [a2.1]
  refine mj_gcp hC 4 ?_
  show P (250, LL i, [.int (nI i + 3), .ref 0, .int (mj_I (m 0 (i + 2))), .int (mj_I (m 0 (i + 1))), .ref 1], (110, x), m)
  refine mj_gcp hC 1 ?_
  refine ⟨a3.2, ?_⟩
  show P (251, LL i, [.int (mj_I (m 0 (nI i + 3).toNatClampNeg)), .int (mj_I (m 0 (i + 2))), .int (mj_I (m 0 (i + 1))), .ref 1], (110, x), m)
  rw [a3.1]
  refine mj_gcp hC 4 ?_
  show P (256, LL i, [.int (nI i + 4), .ref 0, .int (mj_I (m 0 (i + 3))), .int (mj_I (m 0 (i + 2))), .int (mj_I (m 0 (i + 1))), .ref 1], (110, x), m)
  refine mj_gcp hC 1 ?_
  refine ⟨a4.2, ?_⟩
  show P (257, LL i, [.int (mj_I (m 0 (nI i + 4).toNatClampNeg)), .int (mj_I (m 0 (i + 3))), .int (mj_I (m 0 (i + 2))), .int (mj_I (m 0 (i + 1))), .ref 1], (110, x), m)
  rw [a4.1]
  refine mj_gcp hC 4 ?_
  show P (262, LL i, [.int (nI i + 5), .ref 0, .int (mj_I (m 0 (i + 4))), .int (mj_I (m 0 (i + 3))), .int (mj_I (m 0 (i + 2))), .int (mj_I (m 0 (i + 1))), .ref 1], (110, x), m)
  refine mj_gcp hC 1 ?_
  refine ⟨a5.2, ?_⟩
  show P (263, LL i, [.int (mj_I (m 0 (nI i + 5).toNatClampNeg)), .int (mj_I (m 0 (i + 4))), .int (mj_I (m 0 (i + 3))), .int (mj_I (m 0 (i + 2))), .int (mj_I (m 0 (i + 1))), .ref 1], (110, x), m)
  rw [a5.1]
  refine mj_pcall hC rfl h1 ?_
  show P (266, LL i, [.int r], (110, x), m1)
  refine mj_gcp hC 5 ?_
  show P (272, LL i, [.int (nI i + 1), .ref 0, .ref 68, .int r], (110, x), m1)
  refine mj_gcp hC 1 ?_
  refine ⟨a1.2, ?_⟩
  show P (273, LL i, [.int (mj_I (m1 0 (nI i + 1).toNatClampNeg)), .ref 68, .int r], (110, x), m1)
  rw [e0]
  rw [a1.1]
  refine mj_gcp hC 4 ?_
  show P (278, LL i, [.int (nI i + 2), .ref 0, .int (mj_I (m 0 (i + 1))), .ref 68, .int r], (110, x), m1)
  refine mj_gcp hC 1 ?_
  refine ⟨a2.2, ?_⟩
  show P (279, LL i, [.int (mj_I (m1 0 (nI i + 2).toNatClampNeg)), .int (mj_I (m 0 (i + 1))), .ref 68, .int r], (110, x), m1)
  rw [e0]
  rw [a2.1]
  refine mj_gcp hC 4 ?_
  show P (284, LL i, [.int (nI i + 3), .ref 0, .int (mj_I (m 0 (i + 2))), .int (mj_I (m 0 (i + 1))), .ref 68, .int r], (110, x), m1)
  refine mj_gcp hC 1 ?_
  refine ⟨a3.2, ?_⟩
  show P (285, LL i, [.int (mj_I (m1 0 (nI i + 3).toNatClampNeg)), .int (mj_I (m 0 (i + 2))), .int (mj_I (m 0 (i + 1))), .ref 68, .int r], (110, x), m1)
  rw [e0]
  rw [a3.1]
  refine mj_gcp hC 4 ?_
  show P (290, LL i, [.int (nI i + 4), .ref 0, .int (mj_I (m 0 (i + 3))), .int (mj_I (m 0 (i + 2))), .int (mj_I (m 0 (i + 1))), .ref 68, .int r], (110, x), m1)
  refine mj_gcp hC 1 ?_
  refine ⟨a4.2, ?_⟩
  show P (291, LL i, [.int (mj_I (m1 0 (nI i + 4).toNatClampNeg)), .int (mj_I (m 0 (i + 3))), .int (mj_I (m 0 (i + 2))), .int (mj_I (m 0 (i + 1))), .ref 68, .int r], (110, x), m1)
  rw [e0]
  rw [a4.1]
  refine mj_gcp hC 4 ?_
  show P (296, LL i, [.int (nI i + 5), .ref 0, .int (mj_I (m 0 (i + 4))), .int (mj_I (m 0 (i + 3))), .int (mj_I (m 0 (i + 2))), .int (mj_I (m 0 (i + 1))), .ref 68, .int r], (110, x), m1)
  refine mj_gcp hC 1 ?_
  refine ⟨a5.2, ?_⟩
  show P (297, LL i, [.int (mj_I (m1 0 (nI i + 5).toNatClampNeg)), .int (mj_I (m 0 (i + 4))), .int (mj_I (m 0 (i + 3))), .int (mj_I (m 0 (i + 2))), .int (mj_I (m 0 (i + 1))), .ref 68, .int r], (110, x), m1)
  rw [e0]
  rw [a5.1]
  refine mj_pcall hC rfl h2 ?_
  show P (300, LL i, [.int r, .int r], (110, x), m2)
  refine mj_gcp hC 1 ?_
  show P (mj_pick 1696 303 (r = r), LL i, [], (110, x), m2)
  rw [mj_pick_t rfl]
  exact K m2 hI
set_option maxRecDepth 20000 in
theorem lw_text (hC : mj_cls false (mj_sh Ls) mj_rw mj_dv mj_cd_285 X R P) (hL : Ls ≤ 3072) (hi : i + 6 ≤ Ls) (H : LSI X 3 180 [.int (mj_I (m 0 (i + 1)))] x m) (K : ∀ m2, LI m2 → P (1696, LL i, [], (110, x), m2)) : P (305, LL i, [], (110, x), m) := by
  obtain ⟨r, m1, m2, h1, h2, e0, _, hI⟩ := H
  have a1 := lw_n (i := i) (c := 1) (j := 1) rfl hL (show i + 1 < Ls by omega)
  refine mj_gcp hC 5 ?_
  show P (311, LL i, [.int (nI i + 1), .ref 0, .ref 1], (110, x), m)
  refine mj_gcp hC 1 ?_
  refine ⟨a1.2, ?_⟩
  show P (312, LL i, [.int (mj_I (m 0 (nI i + 1).toNatClampNeg)), .ref 1], (110, x), m)
  rw [a1.1]
  refine mj_pcall hC rfl h1 ?_
  show P (315, LL i, [.int r], (110, x), m1)
  refine mj_gcp hC 5 ?_
  show P (321, LL i, [.int (nI i + 1), .ref 0, .ref 68, .int r], (110, x), m1)
  refine mj_gcp hC 1 ?_
  refine ⟨a1.2, ?_⟩
  show P (322, LL i, [.int (mj_I (m1 0 (nI i + 1).toNatClampNeg)), .ref 68, .int r], (110, x), m1)
  rw [e0]
  rw [a1.1]
  refine mj_pcall hC rfl h2 ?_
  show P (325, LL i, [.int r, .int r], (110, x), m2)
  refine mj_gcp hC 1 ?_
  show P (mj_pick 1696 328 (r = r), LL i, [], (110, x), m2)
  rw [mj_pick_t rfl]
  exact K m2 hI
set_option maxRecDepth 20000 in
theorem lw_fault (hC : mj_cls false (mj_sh Ls) mj_rw mj_dv mj_cd_285 X R P) (hL : Ls ≤ 3072) (hi : i + 6 ≤ Ls) (H : LSI X 4 181 [.int (mj_I (m 0 (i + 1)))] x m) (K : ∀ m2, LI m2 → P (1696, LL i, [], (110, x), m2)) : P (330, LL i, [], (110, x), m) := by
  obtain ⟨r, m1, m2, h1, h2, e0, _, hI⟩ := H
  have a1 := lw_n (i := i) (c := 1) (j := 1) rfl hL (show i + 1 < Ls by omega)
  refine mj_gcp hC 5 ?_
  show P (336, LL i, [.int (nI i + 1), .ref 0, .ref 1], (110, x), m)
  refine mj_gcp hC 1 ?_
  refine ⟨a1.2, ?_⟩
  show P (337, LL i, [.int (mj_I (m 0 (nI i + 1).toNatClampNeg)), .ref 1], (110, x), m)
  rw [a1.1]
  refine mj_pcall hC rfl h1 ?_
  show P (340, LL i, [.int r], (110, x), m1)
  refine mj_gcp hC 5 ?_
  show P (346, LL i, [.int (nI i + 1), .ref 0, .ref 68, .int r], (110, x), m1)
  refine mj_gcp hC 1 ?_
  refine ⟨a1.2, ?_⟩
  show P (347, LL i, [.int (mj_I (m1 0 (nI i + 1).toNatClampNeg)), .ref 68, .int r], (110, x), m1)
  rw [e0]
  rw [a1.1]
  refine mj_pcall hC rfl h2 ?_
  show P (350, LL i, [.int r, .int r], (110, x), m2)
  refine mj_gcp hC 1 ?_
  show P (mj_pick 1696 353 (r = r), LL i, [], (110, x), m2)
  rw [mj_pick_t rfl]
  exact K m2 hI
set_option maxRecDepth 20000 in
theorem lw_named (hC : mj_cls false (mj_sh Ls) mj_rw mj_dv mj_cd_285 X R P) (hL : Ls ≤ 3072) (hi : i + 6 ≤ Ls) (H : LSI X 5 182 [.int (mj_I (m 0 (i + 1))), .int (mj_I (m 0 (i + 2)))] x m) (K : ∀ m2, LI m2 → P (1696, LL i, [], (110, x), m2)) : P (355, LL i, [], (110, x), m) := by
  obtain ⟨r, m1, m2, h1, h2, e0, _, hI⟩ := H
  have a1 := lw_n (i := i) (c := 1) (j := 1) rfl hL (show i + 1 < Ls by omega)
  have a2 := lw_n (i := i) (c := 2) (j := 2) rfl hL (show i + 2 < Ls by omega)
  refine mj_gcp hC 5 ?_
  show P (361, LL i, [.int (nI i + 1), .ref 0, .ref 1], (110, x), m)
  refine mj_gcp hC 1 ?_
  refine ⟨a1.2, ?_⟩
  show P (362, LL i, [.int (mj_I (m 0 (nI i + 1).toNatClampNeg)), .ref 1], (110, x), m)
  rw [a1.1]
  refine mj_gcp hC 4 ?_
  show P (367, LL i, [.int (nI i + 2), .ref 0, .int (mj_I (m 0 (i + 1))), .ref 1], (110, x), m)
  refine mj_gcp hC 1 ?_
  refine ⟨a2.2, ?_⟩
  show P (368, LL i, [.int (mj_I (m 0 (nI i + 2).toNatClampNeg)), .int (mj_I (m 0 (i + 1))), .ref 1], (110, x), m)
  rw [a2.1]
  refine mj_pcall hC rfl h1 ?_
  show P (371, LL i, [.int r], (110, x), m1)
  refine mj_gcp hC 5 ?_
  show P (377, LL i, [.int (nI i + 1), .ref 0, .ref 68, .int r], (110, x), m1)
  refine mj_gcp hC 1 ?_
  refine ⟨a1.2, ?_⟩
  show P (378, LL i, [.int (mj_I (m1 0 (nI i + 1).toNatClampNeg)), .ref 68, .int r], (110, x), m1)
  rw [e0]
  rw [a1.1]
  refine mj_gcp hC 4 ?_
  show P (383, LL i, [.int (nI i + 2), .ref 0, .int (mj_I (m 0 (i + 1))), .ref 68, .int r], (110, x), m1)
  refine mj_gcp hC 1 ?_
  refine ⟨a2.2, ?_⟩
  show P (384, LL i, [.int (mj_I (m1 0 (nI i + 2).toNatClampNeg)), .int (mj_I (m 0 (i + 1))), .ref 68, .int r], (110, x), m1)
  rw [e0]
  rw [a2.1]
  refine mj_pcall hC rfl h2 ?_
  show P (387, LL i, [.int r, .int r], (110, x), m2)
  refine mj_gcp hC 1 ?_
  show P (mj_pick 1696 390 (r = r), LL i, [], (110, x), m2)
  rw [mj_pick_t rfl]
  exact K m2 hI
set_option maxRecDepth 20000 in
theorem lw_work (hC : mj_cls false (mj_sh Ls) mj_rw mj_dv mj_cd_285 X R P) (hL : Ls ≤ 3072) (hi : i + 6 ≤ Ls) (H : LSI X 8 224 [.int (mj_I (m 0 (i + 1))), .int (mj_I (m 0 (i + 2)))] x m) (K : ∀ m2, LI m2 → P (1696, LL i, [], (110, x), m2)) : P (460, LL i, [], (110, x), m) := by
  obtain ⟨r, m1, m2, h1, h2, e0, _, hI⟩ := H
  have a1 := lw_n (i := i) (c := 1) (j := 1) rfl hL (show i + 1 < Ls by omega)
  have a2 := lw_n (i := i) (c := 2) (j := 2) rfl hL (show i + 2 < Ls by omega)
  refine mj_gcp hC 5 ?_
  show P (466, LL i, [.int (nI i + 1), .ref 0, .ref 1], (110, x), m)
  refine mj_gcp hC 1 ?_
  refine ⟨a1.2, ?_⟩
  show P (467, LL i, [.int (mj_I (m 0 (nI i + 1).toNatClampNeg)), .ref 1], (110, x), m)
  rw [a1.1]
  refine mj_gcp hC 4 ?_
  show P (472, LL i, [.int (nI i + 2), .ref 0, .int (mj_I (m 0 (i + 1))), .ref 1], (110, x), m)
  refine mj_gcp hC 1 ?_
  refine ⟨a2.2, ?_⟩
  show P (473, LL i, [.int (mj_I (m 0 (nI i + 2).toNatClampNeg)), .int (mj_I (m 0 (i + 1))), .ref 1], (110, x), m)
  rw [a2.1]
  refine mj_pcall hC rfl h1 ?_
  show P (476, LL i, [.int r], (110, x), m1)
  refine mj_gcp hC 5 ?_
  show P (482, LL i, [.int (nI i + 1), .ref 0, .ref 68, .int r], (110, x), m1)
  refine mj_gcp hC 1 ?_
  refine ⟨a1.2, ?_⟩
  show P (483, LL i, [.int (mj_I (m1 0 (nI i + 1).toNatClampNeg)), .ref 68, .int r], (110, x), m1)
  rw [e0]
  rw [a1.1]
  refine mj_gcp hC 4 ?_
  show P (488, LL i, [.int (nI i + 2), .ref 0, .int (mj_I (m 0 (i + 1))), .ref 68, .int r], (110, x), m1)
  refine mj_gcp hC 1 ?_
  refine ⟨a2.2, ?_⟩
  show P (489, LL i, [.int (mj_I (m1 0 (nI i + 2).toNatClampNeg)), .int (mj_I (m 0 (i + 1))), .ref 68, .int r], (110, x), m1)
  rw [e0]
  rw [a2.1]
  refine mj_pcall hC rfl h2 ?_
  show P (492, LL i, [.int r, .int r], (110, x), m2)
  refine mj_gcp hC 1 ?_
  show P (mj_pick 1696 495 (r = r), LL i, [], (110, x), m2)
  rw [mj_pick_t rfl]
  exact K m2 hI
set_option maxRecDepth 20000 in
theorem lw_tie (hC : mj_cls false (mj_sh Ls) mj_rw mj_dv mj_cd_285 X R P) (hL : Ls ≤ 3072) (hi : i + 6 ≤ Ls) (H : LSI X 9 225 [.int (mj_I (m 0 (i + 1))), .int (mj_I (m 0 (i + 2)))] x m) (K : ∀ m2, LI m2 → P (1696, LL i, [], (110, x), m2)) : P (497, LL i, [], (110, x), m) := by
  obtain ⟨r, m1, m2, h1, h2, e0, _, hI⟩ := H
  have a1 := lw_n (i := i) (c := 1) (j := 1) rfl hL (show i + 1 < Ls by omega)
  have a2 := lw_n (i := i) (c := 2) (j := 2) rfl hL (show i + 2 < Ls by omega)
  refine mj_gcp hC 5 ?_
  show P (503, LL i, [.int (nI i + 1), .ref 0, .ref 1], (110, x), m)
  refine mj_gcp hC 1 ?_
  refine ⟨a1.2, ?_⟩
  show P (504, LL i, [.int (mj_I (m 0 (nI i + 1).toNatClampNeg)), .ref 1], (110, x), m)
  rw [a1.1]
  refine mj_gcp hC 4 ?_
  show P (509, LL i, [.int (nI i + 2), .ref 0, .int (mj_I (m 0 (i + 1))), .ref 1], (110, x), m)
  refine mj_gcp hC 1 ?_
  refine ⟨a2.2, ?_⟩
  show P (510, LL i, [.int (mj_I (m 0 (nI i + 2).toNatClampNeg)), .int (mj_I (m 0 (i + 1))), .ref 1], (110, x), m)
  rw [a2.1]
  refine mj_pcall hC rfl h1 ?_
  show P (513, LL i, [.int r], (110, x), m1)
  refine mj_gcp hC 5 ?_
  show P (519, LL i, [.int (nI i + 1), .ref 0, .ref 68, .int r], (110, x), m1)
  refine mj_gcp hC 1 ?_
  refine ⟨a1.2, ?_⟩
  show P (520, LL i, [.int (mj_I (m1 0 (nI i + 1).toNatClampNeg)), .ref 68, .int r], (110, x), m1)
  rw [e0]
  rw [a1.1]
  refine mj_gcp hC 4 ?_
  show P (525, LL i, [.int (nI i + 2), .ref 0, .int (mj_I (m 0 (i + 1))), .ref 68, .int r], (110, x), m1)
  refine mj_gcp hC 1 ?_
  refine ⟨a2.2, ?_⟩
  show P (526, LL i, [.int (mj_I (m1 0 (nI i + 2).toNatClampNeg)), .int (mj_I (m 0 (i + 1))), .ref 68, .int r], (110, x), m1)
  rw [e0]
  rw [a2.1]
  refine mj_pcall hC rfl h2 ?_
  show P (529, LL i, [.int r, .int r], (110, x), m2)
  refine mj_gcp hC 1 ?_
  show P (mj_pick 1696 532 (r = r), LL i, [], (110, x), m2)
  rw [mj_pick_t rfl]
  exact K m2 hI
set_option maxRecDepth 20000 in
theorem lw_beat (hC : mj_cls false (mj_sh Ls) mj_rw mj_dv mj_cd_285 X R P) (hL : Ls ≤ 3072) (hi : i + 6 ≤ Ls) (H : LSI X 10 226 [] x m) (K : ∀ m2, LI m2 → P (1696, LL i, [], (110, x), m2)) : P (534, LL i, [], (110, x), m) := by
  obtain ⟨r, m1, m2, h1, h2, e0, _, hI⟩ := H
  refine mj_gcp hC 1 ?_
  show P (535, LL i, [.ref 1], (110, x), m)
  refine mj_pcall hC rfl h1 ?_
  show P (538, LL i, [.int r], (110, x), m1)
  refine mj_gcp hC 1 ?_
  show P (539, LL i, [.ref 68, .int r], (110, x), m1)
  refine mj_pcall hC rfl h2 ?_
  show P (542, LL i, [.int r, .int r], (110, x), m2)
  refine mj_gcp hC 1 ?_
  show P (mj_pick 1696 545 (r = r), LL i, [], (110, x), m2)
  rw [mj_pick_t rfl]
  exact K m2 hI
set_option maxRecDepth 20000 in
theorem lw_law (hC : mj_cls false (mj_sh Ls) mj_rw mj_dv mj_cd_285 X R P) (hL : Ls ≤ 3072) (hi : i + 6 ≤ Ls) (H : LSJ X 11 227 [.int (mj_I (m 0 (i + 1))), .int (mj_I (m 0 (i + 2)))] x m) (K : ∀ m2, LI m2 → P (1696, LL i, [], (110, x), m2)) : P (547, LL i, [], (110, x), m) := by
  obtain ⟨r, m1, m2, h1, h2, e0, _, hI⟩ := H
  have a1 := lw_n (i := i) (c := 1) (j := 1) rfl hL (show i + 1 < Ls by omega)
  have a2 := lw_n (i := i) (c := 2) (j := 2) rfl hL (show i + 2 < Ls by omega)
  refine mj_gcp hC 5 ?_
  show P (553, LL i, [.int (nI i + 1), .ref 0, .ref 1], (110, x), m)
  refine mj_gcp hC 1 ?_
  refine ⟨a1.2, ?_⟩
  show P (554, LL i, [.int (mj_I (m 0 (nI i + 1).toNatClampNeg)), .ref 1], (110, x), m)
  rw [a1.1]
  refine mj_gcp hC 4 ?_
  show P (559, LL i, [.int (nI i + 2), .ref 0, .int (mj_I (m 0 (i + 1))), .ref 1], (110, x), m)
  refine mj_gcp hC 1 ?_
  refine ⟨a2.2, ?_⟩
  show P (560, LL i, [.int (mj_I (m 0 (nI i + 2).toNatClampNeg)), .int (mj_I (m 0 (i + 1))), .ref 1], (110, x), m)
  rw [a2.1]
  refine mj_pcall hC rfl h1 ?_
  show P (563, LL i, [.long r], (110, x), m1)
  refine mj_gcp hC 5 ?_
  show P (569, LL i, [.int (nI i + 1), .ref 0, .ref 68, .long r], (110, x), m1)
  refine mj_gcp hC 1 ?_
  refine ⟨a1.2, ?_⟩
  show P (570, LL i, [.int (mj_I (m1 0 (nI i + 1).toNatClampNeg)), .ref 68, .long r], (110, x), m1)
  rw [e0]
  rw [a1.1]
  refine mj_gcp hC 4 ?_
  show P (575, LL i, [.int (nI i + 2), .ref 0, .int (mj_I (m 0 (i + 1))), .ref 68, .long r], (110, x), m1)
  refine mj_gcp hC 1 ?_
  refine ⟨a2.2, ?_⟩
  show P (576, LL i, [.int (mj_I (m1 0 (nI i + 2).toNatClampNeg)), .int (mj_I (m 0 (i + 1))), .ref 68, .long r], (110, x), m1)
  rw [e0]
  rw [a2.1]
  refine mj_pcall hC rfl h2 ?_
  show P (579, LL i, [.long r, .long r], (110, x), m2)
  refine mj_gcp hC 1 ?_
  show P (580, LL i, [.int (lg_cmp r r)], (110, x), m2)
  rw [lw_cmp]
  refine mj_gcp hC 1 ?_
  show P (mj_pick 1696 583 ((0 : Int32) = 0), LL i, [], (110, x), m2)
  rw [mj_pick_t rfl]
  exact K m2 hI
set_option maxRecDepth 20000 in
theorem lw_shift (hC : mj_cls false (mj_sh Ls) mj_rw mj_dv mj_cd_285 X R P) (hL : Ls ≤ 3072) (hi : i + 6 ≤ Ls) (H : LSI X 12 228 [.int (mj_I (m 0 (i + 1)))] x m) (K : ∀ m2, LI m2 → P (1696, LL i, [], (110, x), m2)) : P (585, LL i, [], (110, x), m) := by
  obtain ⟨r, m1, m2, h1, h2, e0, _, hI⟩ := H
  have a1 := lw_n (i := i) (c := 1) (j := 1) rfl hL (show i + 1 < Ls by omega)
  refine mj_gcp hC 5 ?_
  show P (591, LL i, [.int (nI i + 1), .ref 0, .ref 1], (110, x), m)
  refine mj_gcp hC 1 ?_
  refine ⟨a1.2, ?_⟩
  show P (592, LL i, [.int (mj_I (m 0 (nI i + 1).toNatClampNeg)), .ref 1], (110, x), m)
  rw [a1.1]
  refine mj_pcall hC rfl h1 ?_
  show P (595, LL i, [.int r], (110, x), m1)
  refine mj_gcp hC 5 ?_
  show P (601, LL i, [.int (nI i + 1), .ref 0, .ref 68, .int r], (110, x), m1)
  refine mj_gcp hC 1 ?_
  refine ⟨a1.2, ?_⟩
  show P (602, LL i, [.int (mj_I (m1 0 (nI i + 1).toNatClampNeg)), .ref 68, .int r], (110, x), m1)
  rw [e0]
  rw [a1.1]
  refine mj_pcall hC rfl h2 ?_
  show P (605, LL i, [.int r, .int r], (110, x), m2)
  refine mj_gcp hC 1 ?_
  show P (mj_pick 1696 608 (r = r), LL i, [], (110, x), m2)
  rw [mj_pick_t rfl]
  exact K m2 hI
set_option maxRecDepth 20000 in
theorem lw_wind (hC : mj_cls false (mj_sh Ls) mj_rw mj_dv mj_cd_285 X R P) (hL : Ls ≤ 3072) (hi : i + 6 ≤ Ls) (H : LSI X 13 229 [.int (mj_I (m 0 (i + 1)))] x m) (K : ∀ m2, LI m2 → P (1696, LL i, [], (110, x), m2)) : P (610, LL i, [], (110, x), m) := by
  obtain ⟨r, m1, m2, h1, h2, e0, _, hI⟩ := H
  have a1 := lw_n (i := i) (c := 1) (j := 1) rfl hL (show i + 1 < Ls by omega)
  refine mj_gcp hC 5 ?_
  show P (616, LL i, [.int (nI i + 1), .ref 0, .ref 1], (110, x), m)
  refine mj_gcp hC 1 ?_
  refine ⟨a1.2, ?_⟩
  show P (617, LL i, [.int (mj_I (m 0 (nI i + 1).toNatClampNeg)), .ref 1], (110, x), m)
  rw [a1.1]
  refine mj_pcall hC rfl h1 ?_
  show P (620, LL i, [.int r], (110, x), m1)
  refine mj_gcp hC 5 ?_
  show P (626, LL i, [.int (nI i + 1), .ref 0, .ref 68, .int r], (110, x), m1)
  refine mj_gcp hC 1 ?_
  refine ⟨a1.2, ?_⟩
  show P (627, LL i, [.int (mj_I (m1 0 (nI i + 1).toNatClampNeg)), .ref 68, .int r], (110, x), m1)
  rw [e0]
  rw [a1.1]
  refine mj_pcall hC rfl h2 ?_
  show P (630, LL i, [.int r, .int r], (110, x), m2)
  refine mj_gcp hC 1 ?_
  show P (mj_pick 1696 633 (r = r), LL i, [], (110, x), m2)
  rw [mj_pick_t rfl]
  exact K m2 hI
set_option maxRecDepth 20000 in
theorem lw_hiccup (hC : mj_cls false (mj_sh Ls) mj_rw mj_dv mj_cd_285 X R P) (hL : Ls ≤ 3072) (hi : i + 6 ≤ Ls) (H : LSI X 14 230 [.int (mj_I (m 0 (i + 1))), .int (mj_I (m 0 (i + 2)))] x m) (K : ∀ m2, LI m2 → P (1696, LL i, [], (110, x), m2)) : P (635, LL i, [], (110, x), m) := by
  obtain ⟨r, m1, m2, h1, h2, e0, _, hI⟩ := H
  have a1 := lw_n (i := i) (c := 1) (j := 1) rfl hL (show i + 1 < Ls by omega)
  have a2 := lw_n (i := i) (c := 2) (j := 2) rfl hL (show i + 2 < Ls by omega)
  refine mj_gcp hC 5 ?_
  show P (641, LL i, [.int (nI i + 1), .ref 0, .ref 1], (110, x), m)
  refine mj_gcp hC 1 ?_
  refine ⟨a1.2, ?_⟩
  show P (642, LL i, [.int (mj_I (m 0 (nI i + 1).toNatClampNeg)), .ref 1], (110, x), m)
  rw [a1.1]
  refine mj_gcp hC 4 ?_
  show P (647, LL i, [.int (nI i + 2), .ref 0, .int (mj_I (m 0 (i + 1))), .ref 1], (110, x), m)
  refine mj_gcp hC 1 ?_
  refine ⟨a2.2, ?_⟩
  show P (648, LL i, [.int (mj_I (m 0 (nI i + 2).toNatClampNeg)), .int (mj_I (m 0 (i + 1))), .ref 1], (110, x), m)
  rw [a2.1]
  refine mj_pcall hC rfl h1 ?_
  show P (651, LL i, [.int r], (110, x), m1)
  refine mj_gcp hC 5 ?_
  show P (657, LL i, [.int (nI i + 1), .ref 0, .ref 68, .int r], (110, x), m1)
  refine mj_gcp hC 1 ?_
  refine ⟨a1.2, ?_⟩
  show P (658, LL i, [.int (mj_I (m1 0 (nI i + 1).toNatClampNeg)), .ref 68, .int r], (110, x), m1)
  rw [e0]
  rw [a1.1]
  refine mj_gcp hC 4 ?_
  show P (663, LL i, [.int (nI i + 2), .ref 0, .int (mj_I (m 0 (i + 1))), .ref 68, .int r], (110, x), m1)
  refine mj_gcp hC 1 ?_
  refine ⟨a2.2, ?_⟩
  show P (664, LL i, [.int (mj_I (m1 0 (nI i + 2).toNatClampNeg)), .int (mj_I (m 0 (i + 1))), .ref 68, .int r], (110, x), m1)
  rw [e0]
  rw [a2.1]
  refine mj_pcall hC rfl h2 ?_
  show P (667, LL i, [.int r, .int r], (110, x), m2)
  refine mj_gcp hC 1 ?_
  show P (mj_pick 1696 670 (r = r), LL i, [], (110, x), m2)
  rw [mj_pick_t rfl]
  exact K m2 hI
set_option maxRecDepth 20000 in
theorem lw_aunt (hC : mj_cls false (mj_sh Ls) mj_rw mj_dv mj_cd_285 X R P) (hL : Ls ≤ 3072) (hi : i + 6 ≤ Ls) (H : LSI X 15 231 [.int (mj_I (m 0 (i + 1))), .int (if (mj_I (m 0 (i + 2))) = 0 then 0 else 1)] x m) (K : ∀ m2, LI m2 → P (1696, LL i, [], (110, x), m2)) : P (672, LL i, [], (110, x), m) := by
  obtain ⟨r, m1, m2, h1, h2, e0, _, hI⟩ := H
  have a1 := lw_n (i := i) (c := 1) (j := 1) rfl hL (show i + 1 < Ls by omega)
  have a2 := lw_n (i := i) (c := 2) (j := 2) rfl hL (show i + 2 < Ls by omega)
  refine mj_gcp hC 5 ?_
  show P (678, LL i, [.int (nI i + 1), .ref 0, .ref 1], (110, x), m)
  refine mj_gcp hC 1 ?_
  refine ⟨a1.2, ?_⟩
  show P (679, LL i, [.int (mj_I (m 0 (nI i + 1).toNatClampNeg)), .ref 1], (110, x), m)
  rw [a1.1]
  refine mj_gcp hC 4 ?_
  show P (684, LL i, [.int (nI i + 2), .ref 0, .int (mj_I (m 0 (i + 1))), .ref 1], (110, x), m)
  refine mj_gcp hC 1 ?_
  refine ⟨a2.2, ?_⟩
  show P (685, LL i, [.int (mj_I (m 0 (nI i + 2).toNatClampNeg)), .int (mj_I (m 0 (i + 1))), .ref 1], (110, x), m)
  rw [a2.1]
  refine mj_gcp hC 1 ?_
  show P (mj_pick 692 688 ((mj_I (m 0 (i + 2))) = 0), LL i, [.int (mj_I (m 0 (i + 1))), .ref 1], (110, x), m)
  suffices J : P (693, LL i, [.int (if (mj_I (m 0 (i + 2))) = 0 then 0 else 1), .int (mj_I (m 0 (i + 1))), .ref 1], (110, x), m) by
    refine mj_pbr (fun c1 => ?_) (fun c1 => ?_)
    · rw [if_pos c1] at J
      refine mj_gcp hC 1 ?_
      exact J
    · rw [if_neg c1] at J
      refine mj_gcp hC 2 ?_
      exact J
  refine mj_pcall hC rfl h1 ?_
  show P (696, LL i, [.int r], (110, x), m1)
  refine mj_gcp hC 5 ?_
  show P (702, LL i, [.int (nI i + 1), .ref 0, .ref 68, .int r], (110, x), m1)
  refine mj_gcp hC 1 ?_
  refine ⟨a1.2, ?_⟩
  show P (703, LL i, [.int (mj_I (m1 0 (nI i + 1).toNatClampNeg)), .ref 68, .int r], (110, x), m1)
  rw [e0]
  rw [a1.1]
  refine mj_gcp hC 4 ?_
  show P (708, LL i, [.int (nI i + 2), .ref 0, .int (mj_I (m 0 (i + 1))), .ref 68, .int r], (110, x), m1)
  refine mj_gcp hC 1 ?_
  refine ⟨a2.2, ?_⟩
  show P (709, LL i, [.int (mj_I (m1 0 (nI i + 2).toNatClampNeg)), .int (mj_I (m 0 (i + 1))), .ref 68, .int r], (110, x), m1)
  rw [e0]
  rw [a2.1]
  refine mj_gcp hC 1 ?_
  show P (mj_pick 716 712 ((mj_I (m 0 (i + 2))) = 0), LL i, [.int (mj_I (m 0 (i + 1))), .ref 68, .int r], (110, x), m1)
  suffices J : P (717, LL i, [.int (if (mj_I (m 0 (i + 2))) = 0 then 0 else 1), .int (mj_I (m 0 (i + 1))), .ref 68, .int r], (110, x), m1) by
    refine mj_pbr (fun c1 => ?_) (fun c1 => ?_)
    · rw [if_pos c1] at J
      refine mj_gcp hC 1 ?_
      exact J
    · rw [if_neg c1] at J
      refine mj_gcp hC 2 ?_
      exact J
  refine mj_pcall hC rfl h2 ?_
  show P (720, LL i, [.int r, .int r], (110, x), m2)
  refine mj_gcp hC 1 ?_
  show P (mj_pick 1696 723 (r = r), LL i, [], (110, x), m2)
  rw [mj_pick_t rfl]
  exact K m2 hI
set_option maxRecDepth 20000 in
theorem lw_go (hC : mj_cls false (mj_sh Ls) mj_rw mj_dv mj_cd_285 X R P) (hL : Ls ≤ 3072) (hi : i + 6 ≤ Ls) (H : LSI X 16 232 [.int (mj_I (m 0 (i + 1)))] x m) (K : ∀ m2, LI m2 → P (1696, LL i, [], (110, x), m2)) : P (725, LL i, [], (110, x), m) := by
  obtain ⟨r, m1, m2, h1, h2, e0, _, hI⟩ := H
  have a1 := lw_n (i := i) (c := 1) (j := 1) rfl hL (show i + 1 < Ls by omega)
  refine mj_gcp hC 5 ?_
  show P (731, LL i, [.int (nI i + 1), .ref 0, .ref 1], (110, x), m)
  refine mj_gcp hC 1 ?_
  refine ⟨a1.2, ?_⟩
  show P (732, LL i, [.int (mj_I (m 0 (nI i + 1).toNatClampNeg)), .ref 1], (110, x), m)
  rw [a1.1]
  refine mj_pcall hC rfl h1 ?_
  show P (735, LL i, [.int r], (110, x), m1)
  refine mj_gcp hC 5 ?_
  show P (741, LL i, [.int (nI i + 1), .ref 0, .ref 68, .int r], (110, x), m1)
  refine mj_gcp hC 1 ?_
  refine ⟨a1.2, ?_⟩
  show P (742, LL i, [.int (mj_I (m1 0 (nI i + 1).toNatClampNeg)), .ref 68, .int r], (110, x), m1)
  rw [e0]
  rw [a1.1]
  refine mj_pcall hC rfl h2 ?_
  show P (745, LL i, [.int r, .int r], (110, x), m2)
  refine mj_gcp hC 1 ?_
  show P (mj_pick 1696 748 (r = r), LL i, [], (110, x), m2)
  rw [mj_pick_t rfl]
  exact K m2 hI
set_option maxRecDepth 20000 in
theorem lw_ahead (hC : mj_cls false (mj_sh Ls) mj_rw mj_dv mj_cd_285 X R P) (hL : Ls ≤ 3072) (hi : i + 6 ≤ Ls) (H : LSI X 17 233 [.int (mj_I (m 0 (i + 1))), .int (mj_I (m 0 (i + 2))), .int (mj_I (m 0 (i + 3)))] x m) (K : ∀ m2, LI m2 → P (1696, LL i, [], (110, x), m2)) : P (750, LL i, [], (110, x), m) := by
  obtain ⟨r, m1, m2, h1, h2, e0, _, hI⟩ := H
  have a1 := lw_n (i := i) (c := 1) (j := 1) rfl hL (show i + 1 < Ls by omega)
  have a2 := lw_n (i := i) (c := 2) (j := 2) rfl hL (show i + 2 < Ls by omega)
  have a3 := lw_n (i := i) (c := 3) (j := 3) rfl hL (show i + 3 < Ls by omega)
  refine mj_gcp hC 5 ?_
  show P (756, LL i, [.int (nI i + 1), .ref 0, .ref 1], (110, x), m)
  refine mj_gcp hC 1 ?_
  refine ⟨a1.2, ?_⟩
  show P (757, LL i, [.int (mj_I (m 0 (nI i + 1).toNatClampNeg)), .ref 1], (110, x), m)
  rw [a1.1]
  refine mj_gcp hC 4 ?_
  show P (762, LL i, [.int (nI i + 2), .ref 0, .int (mj_I (m 0 (i + 1))), .ref 1], (110, x), m)
  refine mj_gcp hC 1 ?_
  refine ⟨a2.2, ?_⟩
  show P (763, LL i, [.int (mj_I (m 0 (nI i + 2).toNatClampNeg)), .int (mj_I (m 0 (i + 1))), .ref 1], (110, x), m)
  rw [a2.1]
  refine mj_gcp hC 4 ?_
  show P (768, LL i, [.int (nI i + 3), .ref 0, .int (mj_I (m 0 (i + 2))), .int (mj_I (m 0 (i + 1))), .ref 1], (110, x), m)
  refine mj_gcp hC 1 ?_
  refine ⟨a3.2, ?_⟩
  show P (769, LL i, [.int (mj_I (m 0 (nI i + 3).toNatClampNeg)), .int (mj_I (m 0 (i + 2))), .int (mj_I (m 0 (i + 1))), .ref 1], (110, x), m)
  rw [a3.1]
  refine mj_pcall hC rfl h1 ?_
  show P (772, LL i, [.int r], (110, x), m1)
  refine mj_gcp hC 5 ?_
  show P (778, LL i, [.int (nI i + 1), .ref 0, .ref 68, .int r], (110, x), m1)
  refine mj_gcp hC 1 ?_
  refine ⟨a1.2, ?_⟩
  show P (779, LL i, [.int (mj_I (m1 0 (nI i + 1).toNatClampNeg)), .ref 68, .int r], (110, x), m1)
  rw [e0]
  rw [a1.1]
  refine mj_gcp hC 4 ?_
  show P (784, LL i, [.int (nI i + 2), .ref 0, .int (mj_I (m 0 (i + 1))), .ref 68, .int r], (110, x), m1)
  refine mj_gcp hC 1 ?_
  refine ⟨a2.2, ?_⟩
  show P (785, LL i, [.int (mj_I (m1 0 (nI i + 2).toNatClampNeg)), .int (mj_I (m 0 (i + 1))), .ref 68, .int r], (110, x), m1)
  rw [e0]
  rw [a2.1]
  refine mj_gcp hC 4 ?_
  show P (790, LL i, [.int (nI i + 3), .ref 0, .int (mj_I (m 0 (i + 2))), .int (mj_I (m 0 (i + 1))), .ref 68, .int r], (110, x), m1)
  refine mj_gcp hC 1 ?_
  refine ⟨a3.2, ?_⟩
  show P (791, LL i, [.int (mj_I (m1 0 (nI i + 3).toNatClampNeg)), .int (mj_I (m 0 (i + 2))), .int (mj_I (m 0 (i + 1))), .ref 68, .int r], (110, x), m1)
  rw [e0]
  rw [a3.1]
  refine mj_pcall hC rfl h2 ?_
  show P (794, LL i, [.int r, .int r], (110, x), m2)
  refine mj_gcp hC 1 ?_
  show P (mj_pick 1696 797 (r = r), LL i, [], (110, x), m2)
  rw [mj_pick_t rfl]
  exact K m2 hI
set_option maxRecDepth 20000 in
theorem lw_done (hC : mj_cls false (mj_sh Ls) mj_rw mj_dv mj_cd_285 X R P) (hL : Ls ≤ 3072) (hi : i + 6 ≤ Ls) (H : LSI X 19 234 [.int (mj_I (m 0 (i + 1)))] x m) (K : ∀ m2, LI m2 → P (1696, LL i, [], (110, x), m2)) : P (799, LL i, [], (110, x), m) := by
  obtain ⟨r, m1, m2, h1, h2, e0, _, hI⟩ := H
  have a1 := lw_n (i := i) (c := 1) (j := 1) rfl hL (show i + 1 < Ls by omega)
  refine mj_gcp hC 5 ?_
  show P (805, LL i, [.int (nI i + 1), .ref 0, .ref 1], (110, x), m)
  refine mj_gcp hC 1 ?_
  refine ⟨a1.2, ?_⟩
  show P (806, LL i, [.int (mj_I (m 0 (nI i + 1).toNatClampNeg)), .ref 1], (110, x), m)
  rw [a1.1]
  refine mj_pcall hC rfl h1 ?_
  show P (809, LL i, [.int r], (110, x), m1)
  refine mj_gcp hC 5 ?_
  show P (815, LL i, [.int (nI i + 1), .ref 0, .ref 68, .int r], (110, x), m1)
  refine mj_gcp hC 1 ?_
  refine ⟨a1.2, ?_⟩
  show P (816, LL i, [.int (mj_I (m1 0 (nI i + 1).toNatClampNeg)), .ref 68, .int r], (110, x), m1)
  rw [e0]
  rw [a1.1]
  refine mj_pcall hC rfl h2 ?_
  show P (819, LL i, [.int r, .int r], (110, x), m2)
  refine mj_gcp hC 1 ?_
  show P (mj_pick 1696 822 (r = r), LL i, [], (110, x), m2)
  rw [mj_pick_t rfl]
  exact K m2 hI
set_option maxRecDepth 20000 in
theorem lw_stops (hC : mj_cls false (mj_sh Ls) mj_rw mj_dv mj_cd_285 X R P) (hL : Ls ≤ 3072) (hi : i + 6 ≤ Ls) (H : LSI X 20 235 [] x m) (K : ∀ m2, LI m2 → P (1696, LL i, [], (110, x), m2)) : P (824, LL i, [], (110, x), m) := by
  obtain ⟨r, m1, m2, h1, h2, e0, _, hI⟩ := H
  refine mj_gcp hC 1 ?_
  show P (825, LL i, [.ref 1], (110, x), m)
  refine mj_pcall hC rfl h1 ?_
  show P (828, LL i, [.int r], (110, x), m1)
  refine mj_gcp hC 1 ?_
  show P (829, LL i, [.ref 68, .int r], (110, x), m1)
  refine mj_pcall hC rfl h2 ?_
  show P (832, LL i, [.int r, .int r], (110, x), m2)
  refine mj_gcp hC 1 ?_
  show P (mj_pick 1696 835 (r = r), LL i, [], (110, x), m2)
  rw [mj_pick_t rfl]
  exact K m2 hI
set_option maxRecDepth 20000 in
theorem lw_pace (hC : mj_cls false (mj_sh Ls) mj_rw mj_dv mj_cd_285 X R P) (hL : Ls ≤ 3072) (hi : i + 6 ≤ Ls) (H : LSI X 21 236 [.int (mj_I (m 0 (i + 1))), .int (mj_I (m 0 (i + 2)))] x m) (K : ∀ m2, LI m2 → P (1696, LL i, [], (110, x), m2)) : P (837, LL i, [], (110, x), m) := by
  obtain ⟨r, m1, m2, h1, h2, e0, _, hI⟩ := H
  have a1 := lw_n (i := i) (c := 1) (j := 1) rfl hL (show i + 1 < Ls by omega)
  have a2 := lw_n (i := i) (c := 2) (j := 2) rfl hL (show i + 2 < Ls by omega)
  refine mj_gcp hC 5 ?_
  show P (843, LL i, [.int (nI i + 1), .ref 0, .ref 1], (110, x), m)
  refine mj_gcp hC 1 ?_
  refine ⟨a1.2, ?_⟩
  show P (844, LL i, [.int (mj_I (m 0 (nI i + 1).toNatClampNeg)), .ref 1], (110, x), m)
  rw [a1.1]
  refine mj_gcp hC 4 ?_
  show P (849, LL i, [.int (nI i + 2), .ref 0, .int (mj_I (m 0 (i + 1))), .ref 1], (110, x), m)
  refine mj_gcp hC 1 ?_
  refine ⟨a2.2, ?_⟩
  show P (850, LL i, [.int (mj_I (m 0 (nI i + 2).toNatClampNeg)), .int (mj_I (m 0 (i + 1))), .ref 1], (110, x), m)
  rw [a2.1]
  refine mj_pcall hC rfl h1 ?_
  show P (853, LL i, [.int r], (110, x), m1)
  refine mj_gcp hC 5 ?_
  show P (859, LL i, [.int (nI i + 1), .ref 0, .ref 68, .int r], (110, x), m1)
  refine mj_gcp hC 1 ?_
  refine ⟨a1.2, ?_⟩
  show P (860, LL i, [.int (mj_I (m1 0 (nI i + 1).toNatClampNeg)), .ref 68, .int r], (110, x), m1)
  rw [e0]
  rw [a1.1]
  refine mj_gcp hC 4 ?_
  show P (865, LL i, [.int (nI i + 2), .ref 0, .int (mj_I (m 0 (i + 1))), .ref 68, .int r], (110, x), m1)
  refine mj_gcp hC 1 ?_
  refine ⟨a2.2, ?_⟩
  show P (866, LL i, [.int (mj_I (m1 0 (nI i + 2).toNatClampNeg)), .int (mj_I (m 0 (i + 1))), .ref 68, .int r], (110, x), m1)
  rw [e0]
  rw [a2.1]
  refine mj_pcall hC rfl h2 ?_
  show P (869, LL i, [.int r, .int r], (110, x), m2)
  refine mj_gcp hC 1 ?_
  show P (mj_pick 1696 872 (r = r), LL i, [], (110, x), m2)
  rw [mj_pick_t rfl]
  exact K m2 hI
set_option maxRecDepth 20000 in
theorem lw_bars (hC : mj_cls false (mj_sh Ls) mj_rw mj_dv mj_cd_285 X R P) (hL : Ls ≤ 3072) (hi : i + 6 ≤ Ls) (H : LSI X 23 238 [.int (mj_I (m 0 (i + 1)))] x m) (K : ∀ m2, LI m2 → P (1696, LL i, [], (110, x), m2)) : P (874, LL i, [], (110, x), m) := by
  obtain ⟨r, m1, m2, h1, h2, e0, _, hI⟩ := H
  have a1 := lw_n (i := i) (c := 1) (j := 1) rfl hL (show i + 1 < Ls by omega)
  refine mj_gcp hC 5 ?_
  show P (880, LL i, [.int (nI i + 1), .ref 0, .ref 1], (110, x), m)
  refine mj_gcp hC 1 ?_
  refine ⟨a1.2, ?_⟩
  show P (881, LL i, [.int (mj_I (m 0 (nI i + 1).toNatClampNeg)), .ref 1], (110, x), m)
  rw [a1.1]
  refine mj_pcall hC rfl h1 ?_
  show P (884, LL i, [.int r], (110, x), m1)
  refine mj_gcp hC 5 ?_
  show P (890, LL i, [.int (nI i + 1), .ref 0, .ref 68, .int r], (110, x), m1)
  refine mj_gcp hC 1 ?_
  refine ⟨a1.2, ?_⟩
  show P (891, LL i, [.int (mj_I (m1 0 (nI i + 1).toNatClampNeg)), .ref 68, .int r], (110, x), m1)
  rw [e0]
  rw [a1.1]
  refine mj_pcall hC rfl h2 ?_
  show P (894, LL i, [.int r, .int r], (110, x), m2)
  refine mj_gcp hC 1 ?_
  show P (mj_pick 1696 897 (r = r), LL i, [], (110, x), m2)
  rw [mj_pick_t rfl]
  exact K m2 hI
set_option maxRecDepth 20000 in
theorem lw_meet (hC : mj_cls false (mj_sh Ls) mj_rw mj_dv mj_cd_285 X R P) (hL : Ls ≤ 3072) (hi : i + 6 ≤ Ls) (H : LSI X 24 239 [.int (mj_I (m 0 (i + 1))), .int (mj_I (m 0 (i + 2))), .int (mj_I (m 0 (i + 3))), .int (mj_I (m 0 (i + 4)))] x m) (K : ∀ m2, LI m2 → P (1696, LL i, [], (110, x), m2)) : P (899, LL i, [], (110, x), m) := by
  obtain ⟨r, m1, m2, h1, h2, e0, _, hI⟩ := H
  have a1 := lw_n (i := i) (c := 1) (j := 1) rfl hL (show i + 1 < Ls by omega)
  have a2 := lw_n (i := i) (c := 2) (j := 2) rfl hL (show i + 2 < Ls by omega)
  have a3 := lw_n (i := i) (c := 3) (j := 3) rfl hL (show i + 3 < Ls by omega)
  have a4 := lw_n (i := i) (c := 4) (j := 4) rfl hL (show i + 4 < Ls by omega)
  refine mj_gcp hC 5 ?_
  show P (905, LL i, [.int (nI i + 1), .ref 0, .ref 1], (110, x), m)
  refine mj_gcp hC 1 ?_
  refine ⟨a1.2, ?_⟩
  show P (906, LL i, [.int (mj_I (m 0 (nI i + 1).toNatClampNeg)), .ref 1], (110, x), m)
  rw [a1.1]
  refine mj_gcp hC 4 ?_
  show P (911, LL i, [.int (nI i + 2), .ref 0, .int (mj_I (m 0 (i + 1))), .ref 1], (110, x), m)
  refine mj_gcp hC 1 ?_
  refine ⟨a2.2, ?_⟩
  show P (912, LL i, [.int (mj_I (m 0 (nI i + 2).toNatClampNeg)), .int (mj_I (m 0 (i + 1))), .ref 1], (110, x), m)
  rw [a2.1]
  refine mj_gcp hC 4 ?_
  show P (917, LL i, [.int (nI i + 3), .ref 0, .int (mj_I (m 0 (i + 2))), .int (mj_I (m 0 (i + 1))), .ref 1], (110, x), m)
  refine mj_gcp hC 1 ?_
  refine ⟨a3.2, ?_⟩
  show P (918, LL i, [.int (mj_I (m 0 (nI i + 3).toNatClampNeg)), .int (mj_I (m 0 (i + 2))), .int (mj_I (m 0 (i + 1))), .ref 1], (110, x), m)
  rw [a3.1]
  refine mj_gcp hC 4 ?_
  show P (923, LL i, [.int (nI i + 4), .ref 0, .int (mj_I (m 0 (i + 3))), .int (mj_I (m 0 (i + 2))), .int (mj_I (m 0 (i + 1))), .ref 1], (110, x), m)
  refine mj_gcp hC 1 ?_
  refine ⟨a4.2, ?_⟩
  show P (924, LL i, [.int (mj_I (m 0 (nI i + 4).toNatClampNeg)), .int (mj_I (m 0 (i + 3))), .int (mj_I (m 0 (i + 2))), .int (mj_I (m 0 (i + 1))), .ref 1], (110, x), m)
  rw [a4.1]
  refine mj_pcall hC rfl h1 ?_
  show P (927, LL i, [.int r], (110, x), m1)
  refine mj_gcp hC 5 ?_
  show P (933, LL i, [.int (nI i + 1), .ref 0, .ref 68, .int r], (110, x), m1)
  refine mj_gcp hC 1 ?_
  refine ⟨a1.2, ?_⟩
  show P (934, LL i, [.int (mj_I (m1 0 (nI i + 1).toNatClampNeg)), .ref 68, .int r], (110, x), m1)
  rw [e0]
  rw [a1.1]
  refine mj_gcp hC 4 ?_
  show P (939, LL i, [.int (nI i + 2), .ref 0, .int (mj_I (m 0 (i + 1))), .ref 68, .int r], (110, x), m1)
  refine mj_gcp hC 1 ?_
  refine ⟨a2.2, ?_⟩
  show P (940, LL i, [.int (mj_I (m1 0 (nI i + 2).toNatClampNeg)), .int (mj_I (m 0 (i + 1))), .ref 68, .int r], (110, x), m1)
  rw [e0]
  rw [a2.1]
  refine mj_gcp hC 4 ?_
  show P (945, LL i, [.int (nI i + 3), .ref 0, .int (mj_I (m 0 (i + 2))), .int (mj_I (m 0 (i + 1))), .ref 68, .int r], (110, x), m1)
  refine mj_gcp hC 1 ?_
  refine ⟨a3.2, ?_⟩
  show P (946, LL i, [.int (mj_I (m1 0 (nI i + 3).toNatClampNeg)), .int (mj_I (m 0 (i + 2))), .int (mj_I (m 0 (i + 1))), .ref 68, .int r], (110, x), m1)
  rw [e0]
  rw [a3.1]
  refine mj_gcp hC 4 ?_
  show P (951, LL i, [.int (nI i + 4), .ref 0, .int (mj_I (m 0 (i + 3))), .int (mj_I (m 0 (i + 2))), .int (mj_I (m 0 (i + 1))), .ref 68, .int r], (110, x), m1)
  refine mj_gcp hC 1 ?_
  refine ⟨a4.2, ?_⟩
  show P (952, LL i, [.int (mj_I (m1 0 (nI i + 4).toNatClampNeg)), .int (mj_I (m 0 (i + 3))), .int (mj_I (m 0 (i + 2))), .int (mj_I (m 0 (i + 1))), .ref 68, .int r], (110, x), m1)
  rw [e0]
  rw [a4.1]
  refine mj_pcall hC rfl h2 ?_
  show P (955, LL i, [.int r, .int r], (110, x), m2)
  refine mj_gcp hC 1 ?_
  show P (mj_pick 1696 958 (r = r), LL i, [], (110, x), m2)
  rw [mj_pick_t rfl]
  exact K m2 hI
set_option maxRecDepth 20000 in
theorem lw_cut (hC : mj_cls false (mj_sh Ls) mj_rw mj_dv mj_cd_285 X R P) (hL : Ls ≤ 3072) (hi : i + 6 ≤ Ls) (H : LSI X 25 243 [.int (mj_I (m 0 (i + 1))), .int (mj_I (m 0 (i + 2)))] x m) (K : ∀ m2, LI m2 → P (1696, LL i, [], (110, x), m2)) : P (960, LL i, [], (110, x), m) := by
  obtain ⟨r, m1, m2, h1, h2, e0, _, hI⟩ := H
  have a1 := lw_n (i := i) (c := 1) (j := 1) rfl hL (show i + 1 < Ls by omega)
  have a2 := lw_n (i := i) (c := 2) (j := 2) rfl hL (show i + 2 < Ls by omega)
  refine mj_gcp hC 5 ?_
  show P (966, LL i, [.int (nI i + 1), .ref 0, .ref 1], (110, x), m)
  refine mj_gcp hC 1 ?_
  refine ⟨a1.2, ?_⟩
  show P (967, LL i, [.int (mj_I (m 0 (nI i + 1).toNatClampNeg)), .ref 1], (110, x), m)
  rw [a1.1]
  refine mj_gcp hC 4 ?_
  show P (972, LL i, [.int (nI i + 2), .ref 0, .int (mj_I (m 0 (i + 1))), .ref 1], (110, x), m)
  refine mj_gcp hC 1 ?_
  refine ⟨a2.2, ?_⟩
  show P (973, LL i, [.int (mj_I (m 0 (nI i + 2).toNatClampNeg)), .int (mj_I (m 0 (i + 1))), .ref 1], (110, x), m)
  rw [a2.1]
  refine mj_pcall hC rfl h1 ?_
  show P (976, LL i, [.int r], (110, x), m1)
  refine mj_gcp hC 5 ?_
  show P (982, LL i, [.int (nI i + 1), .ref 0, .ref 68, .int r], (110, x), m1)
  refine mj_gcp hC 1 ?_
  refine ⟨a1.2, ?_⟩
  show P (983, LL i, [.int (mj_I (m1 0 (nI i + 1).toNatClampNeg)), .ref 68, .int r], (110, x), m1)
  rw [e0]
  rw [a1.1]
  refine mj_gcp hC 4 ?_
  show P (988, LL i, [.int (nI i + 2), .ref 0, .int (mj_I (m 0 (i + 1))), .ref 68, .int r], (110, x), m1)
  refine mj_gcp hC 1 ?_
  refine ⟨a2.2, ?_⟩
  show P (989, LL i, [.int (mj_I (m1 0 (nI i + 2).toNatClampNeg)), .int (mj_I (m 0 (i + 1))), .ref 68, .int r], (110, x), m1)
  rw [e0]
  rw [a2.1]
  refine mj_pcall hC rfl h2 ?_
  show P (992, LL i, [.int r, .int r], (110, x), m2)
  refine mj_gcp hC 1 ?_
  show P (mj_pick 1696 995 (r = r), LL i, [], (110, x), m2)
  rw [mj_pick_t rfl]
  exact K m2 hI
set_option maxRecDepth 20000 in
theorem lw_crowd (hC : mj_cls false (mj_sh Ls) mj_rw mj_dv mj_cd_285 X R P) (hL : Ls ≤ 3072) (hi : i + 6 ≤ Ls) (H : LSI X 26 247 [.int (mj_I (m 0 (i + 1)))] x m) (K : ∀ m2, LI m2 → P (1696, LL i, [], (110, x), m2)) : P (997, LL i, [], (110, x), m) := by
  obtain ⟨r, m1, m2, h1, h2, e0, _, hI⟩ := H
  have a1 := lw_n (i := i) (c := 1) (j := 1) rfl hL (show i + 1 < Ls by omega)
  refine mj_gcp hC 5 ?_
  show P (1003, LL i, [.int (nI i + 1), .ref 0, .ref 1], (110, x), m)
  refine mj_gcp hC 1 ?_
  refine ⟨a1.2, ?_⟩
  show P (1004, LL i, [.int (mj_I (m 0 (nI i + 1).toNatClampNeg)), .ref 1], (110, x), m)
  rw [a1.1]
  refine mj_pcall hC rfl h1 ?_
  show P (1007, LL i, [.int r], (110, x), m1)
  refine mj_gcp hC 5 ?_
  show P (1013, LL i, [.int (nI i + 1), .ref 0, .ref 68, .int r], (110, x), m1)
  refine mj_gcp hC 1 ?_
  refine ⟨a1.2, ?_⟩
  show P (1014, LL i, [.int (mj_I (m1 0 (nI i + 1).toNatClampNeg)), .ref 68, .int r], (110, x), m1)
  rw [e0]
  rw [a1.1]
  refine mj_pcall hC rfl h2 ?_
  show P (1017, LL i, [.int r, .int r], (110, x), m2)
  refine mj_gcp hC 1 ?_
  show P (mj_pick 1696 1020 (r = r), LL i, [], (110, x), m2)
  rw [mj_pick_t rfl]
  exact K m2 hI
set_option maxRecDepth 20000 in
theorem lw_off (hC : mj_cls false (mj_sh Ls) mj_rw mj_dv mj_cd_285 X R P) (hL : Ls ≤ 3072) (hi : i + 6 ≤ Ls) (H : LSI X 27 248 [.int (mj_I (m 0 (i + 1))), .int (mj_I (m 0 (i + 2))), .int (mj_I (m 0 (i + 3)))] x m) (K : ∀ m2, LI m2 → P (1696, LL i, [], (110, x), m2)) : P (1022, LL i, [], (110, x), m) := by
  obtain ⟨r, m1, m2, h1, h2, e0, _, hI⟩ := H
  have a1 := lw_n (i := i) (c := 1) (j := 1) rfl hL (show i + 1 < Ls by omega)
  have a2 := lw_n (i := i) (c := 2) (j := 2) rfl hL (show i + 2 < Ls by omega)
  have a3 := lw_n (i := i) (c := 3) (j := 3) rfl hL (show i + 3 < Ls by omega)
  refine mj_gcp hC 5 ?_
  show P (1028, LL i, [.int (nI i + 1), .ref 0, .ref 1], (110, x), m)
  refine mj_gcp hC 1 ?_
  refine ⟨a1.2, ?_⟩
  show P (1029, LL i, [.int (mj_I (m 0 (nI i + 1).toNatClampNeg)), .ref 1], (110, x), m)
  rw [a1.1]
  refine mj_gcp hC 4 ?_
  show P (1034, LL i, [.int (nI i + 2), .ref 0, .int (mj_I (m 0 (i + 1))), .ref 1], (110, x), m)
  refine mj_gcp hC 1 ?_
  refine ⟨a2.2, ?_⟩
  show P (1035, LL i, [.int (mj_I (m 0 (nI i + 2).toNatClampNeg)), .int (mj_I (m 0 (i + 1))), .ref 1], (110, x), m)
  rw [a2.1]
  refine mj_gcp hC 4 ?_
  show P (1040, LL i, [.int (nI i + 3), .ref 0, .int (mj_I (m 0 (i + 2))), .int (mj_I (m 0 (i + 1))), .ref 1], (110, x), m)
  refine mj_gcp hC 1 ?_
  refine ⟨a3.2, ?_⟩
  show P (1041, LL i, [.int (mj_I (m 0 (nI i + 3).toNatClampNeg)), .int (mj_I (m 0 (i + 2))), .int (mj_I (m 0 (i + 1))), .ref 1], (110, x), m)
  rw [a3.1]
  refine mj_pcall hC rfl h1 ?_
  show P (1044, LL i, [.int r], (110, x), m1)
  refine mj_gcp hC 5 ?_
  show P (1050, LL i, [.int (nI i + 1), .ref 0, .ref 68, .int r], (110, x), m1)
  refine mj_gcp hC 1 ?_
  refine ⟨a1.2, ?_⟩
  show P (1051, LL i, [.int (mj_I (m1 0 (nI i + 1).toNatClampNeg)), .ref 68, .int r], (110, x), m1)
  rw [e0]
  rw [a1.1]
  refine mj_gcp hC 4 ?_
  show P (1056, LL i, [.int (nI i + 2), .ref 0, .int (mj_I (m 0 (i + 1))), .ref 68, .int r], (110, x), m1)
  refine mj_gcp hC 1 ?_
  refine ⟨a2.2, ?_⟩
  show P (1057, LL i, [.int (mj_I (m1 0 (nI i + 2).toNatClampNeg)), .int (mj_I (m 0 (i + 1))), .ref 68, .int r], (110, x), m1)
  rw [e0]
  rw [a2.1]
  refine mj_gcp hC 4 ?_
  show P (1062, LL i, [.int (nI i + 3), .ref 0, .int (mj_I (m 0 (i + 2))), .int (mj_I (m 0 (i + 1))), .ref 68, .int r], (110, x), m1)
  refine mj_gcp hC 1 ?_
  refine ⟨a3.2, ?_⟩
  show P (1063, LL i, [.int (mj_I (m1 0 (nI i + 3).toNatClampNeg)), .int (mj_I (m 0 (i + 2))), .int (mj_I (m 0 (i + 1))), .ref 68, .int r], (110, x), m1)
  rw [e0]
  rw [a3.1]
  refine mj_pcall hC rfl h2 ?_
  show P (1066, LL i, [.int r, .int r], (110, x), m2)
  refine mj_gcp hC 1 ?_
  show P (mj_pick 1696 1069 (r = r), LL i, [], (110, x), m2)
  rw [mj_pick_t rfl]
  exact K m2 hI
set_option maxRecDepth 20000 in
theorem lw_rests (hC : mj_cls false (mj_sh Ls) mj_rw mj_dv mj_cd_285 X R P) (hL : Ls ≤ 3072) (hi : i + 6 ≤ Ls) (H : LSI X 28 252 [.int (mj_I (m 0 (i + 1))), .int (mj_I (m 0 (i + 2)))] x m) (K : ∀ m2, LI m2 → P (1696, LL i, [], (110, x), m2)) : P (1071, LL i, [], (110, x), m) := by
  obtain ⟨r, m1, m2, h1, h2, e0, _, hI⟩ := H
  have a1 := lw_n (i := i) (c := 1) (j := 1) rfl hL (show i + 1 < Ls by omega)
  have a2 := lw_n (i := i) (c := 2) (j := 2) rfl hL (show i + 2 < Ls by omega)
  refine mj_gcp hC 5 ?_
  show P (1077, LL i, [.int (nI i + 1), .ref 0, .ref 1], (110, x), m)
  refine mj_gcp hC 1 ?_
  refine ⟨a1.2, ?_⟩
  show P (1078, LL i, [.int (mj_I (m 0 (nI i + 1).toNatClampNeg)), .ref 1], (110, x), m)
  rw [a1.1]
  refine mj_gcp hC 4 ?_
  show P (1083, LL i, [.int (nI i + 2), .ref 0, .int (mj_I (m 0 (i + 1))), .ref 1], (110, x), m)
  refine mj_gcp hC 1 ?_
  refine ⟨a2.2, ?_⟩
  show P (1084, LL i, [.int (mj_I (m 0 (nI i + 2).toNatClampNeg)), .int (mj_I (m 0 (i + 1))), .ref 1], (110, x), m)
  rw [a2.1]
  refine mj_pcall hC rfl h1 ?_
  show P (1087, LL i, [.int r], (110, x), m1)
  refine mj_gcp hC 5 ?_
  show P (1093, LL i, [.int (nI i + 1), .ref 0, .ref 68, .int r], (110, x), m1)
  refine mj_gcp hC 1 ?_
  refine ⟨a1.2, ?_⟩
  show P (1094, LL i, [.int (mj_I (m1 0 (nI i + 1).toNatClampNeg)), .ref 68, .int r], (110, x), m1)
  rw [e0]
  rw [a1.1]
  refine mj_gcp hC 4 ?_
  show P (1099, LL i, [.int (nI i + 2), .ref 0, .int (mj_I (m 0 (i + 1))), .ref 68, .int r], (110, x), m1)
  refine mj_gcp hC 1 ?_
  refine ⟨a2.2, ?_⟩
  show P (1100, LL i, [.int (mj_I (m1 0 (nI i + 2).toNatClampNeg)), .int (mj_I (m 0 (i + 1))), .ref 68, .int r], (110, x), m1)
  rw [e0]
  rw [a2.1]
  refine mj_pcall hC rfl h2 ?_
  show P (1103, LL i, [.int r, .int r], (110, x), m2)
  refine mj_gcp hC 1 ?_
  show P (mj_pick 1696 1106 (r = r), LL i, [], (110, x), m2)
  rw [mj_pick_t rfl]
  exact K m2 hI
set_option maxRecDepth 20000 in
theorem lw_rest (hC : mj_cls false (mj_sh Ls) mj_rw mj_dv mj_cd_285 X R P) (hL : Ls ≤ 3072) (hi : i + 6 ≤ Ls) (H : LSI X 29 253 [.int (mj_I (m 0 (i + 1))), .int (mj_I (m 0 (i + 2))), .int (mj_I (m 0 (i + 3)))] x m) (K : ∀ m2, LI m2 → P (1696, LL i, [], (110, x), m2)) : P (1108, LL i, [], (110, x), m) := by
  obtain ⟨r, m1, m2, h1, h2, e0, _, hI⟩ := H
  have a1 := lw_n (i := i) (c := 1) (j := 1) rfl hL (show i + 1 < Ls by omega)
  have a2 := lw_n (i := i) (c := 2) (j := 2) rfl hL (show i + 2 < Ls by omega)
  have a3 := lw_n (i := i) (c := 3) (j := 3) rfl hL (show i + 3 < Ls by omega)
  refine mj_gcp hC 5 ?_
  show P (1114, LL i, [.int (nI i + 1), .ref 0, .ref 1], (110, x), m)
  refine mj_gcp hC 1 ?_
  refine ⟨a1.2, ?_⟩
  show P (1115, LL i, [.int (mj_I (m 0 (nI i + 1).toNatClampNeg)), .ref 1], (110, x), m)
  rw [a1.1]
  refine mj_gcp hC 4 ?_
  show P (1120, LL i, [.int (nI i + 2), .ref 0, .int (mj_I (m 0 (i + 1))), .ref 1], (110, x), m)
  refine mj_gcp hC 1 ?_
  refine ⟨a2.2, ?_⟩
  show P (1121, LL i, [.int (mj_I (m 0 (nI i + 2).toNatClampNeg)), .int (mj_I (m 0 (i + 1))), .ref 1], (110, x), m)
  rw [a2.1]
  refine mj_gcp hC 4 ?_
  show P (1126, LL i, [.int (nI i + 3), .ref 0, .int (mj_I (m 0 (i + 2))), .int (mj_I (m 0 (i + 1))), .ref 1], (110, x), m)
  refine mj_gcp hC 1 ?_
  refine ⟨a3.2, ?_⟩
  show P (1127, LL i, [.int (mj_I (m 0 (nI i + 3).toNatClampNeg)), .int (mj_I (m 0 (i + 2))), .int (mj_I (m 0 (i + 1))), .ref 1], (110, x), m)
  rw [a3.1]
  refine mj_pcall hC rfl h1 ?_
  show P (1130, LL i, [.int r], (110, x), m1)
  refine mj_gcp hC 5 ?_
  show P (1136, LL i, [.int (nI i + 1), .ref 0, .ref 68, .int r], (110, x), m1)
  refine mj_gcp hC 1 ?_
  refine ⟨a1.2, ?_⟩
  show P (1137, LL i, [.int (mj_I (m1 0 (nI i + 1).toNatClampNeg)), .ref 68, .int r], (110, x), m1)
  rw [e0]
  rw [a1.1]
  refine mj_gcp hC 4 ?_
  show P (1142, LL i, [.int (nI i + 2), .ref 0, .int (mj_I (m 0 (i + 1))), .ref 68, .int r], (110, x), m1)
  refine mj_gcp hC 1 ?_
  refine ⟨a2.2, ?_⟩
  show P (1143, LL i, [.int (mj_I (m1 0 (nI i + 2).toNatClampNeg)), .int (mj_I (m 0 (i + 1))), .ref 68, .int r], (110, x), m1)
  rw [e0]
  rw [a2.1]
  refine mj_gcp hC 4 ?_
  show P (1148, LL i, [.int (nI i + 3), .ref 0, .int (mj_I (m 0 (i + 2))), .int (mj_I (m 0 (i + 1))), .ref 68, .int r], (110, x), m1)
  refine mj_gcp hC 1 ?_
  refine ⟨a3.2, ?_⟩
  show P (1149, LL i, [.int (mj_I (m1 0 (nI i + 3).toNatClampNeg)), .int (mj_I (m 0 (i + 2))), .int (mj_I (m 0 (i + 1))), .ref 68, .int r], (110, x), m1)
  rw [e0]
  rw [a3.1]
  refine mj_pcall hC rfl h2 ?_
  show P (1152, LL i, [.int r, .int r], (110, x), m2)
  refine mj_gcp hC 1 ?_
  show P (mj_pick 1696 1155 (r = r), LL i, [], (110, x), m2)
  rw [mj_pick_t rfl]
  exact K m2 hI
set_option maxRecDepth 20000 in
theorem lw_reaches (hC : mj_cls false (mj_sh Ls) mj_rw mj_dv mj_cd_285 X R P) (hL : Ls ≤ 3072) (hi : i + 6 ≤ Ls) (H : LSI X 32 244 [.int (mj_I (m 0 (i + 1)))] x m) (K : ∀ m2, LI m2 → P (1696, LL i, [], (110, x), m2)) : P (1157, LL i, [], (110, x), m) := by
  obtain ⟨r, m1, m2, h1, h2, e0, _, hI⟩ := H
  have a1 := lw_n (i := i) (c := 1) (j := 1) rfl hL (show i + 1 < Ls by omega)
  refine mj_gcp hC 5 ?_
  show P (1163, LL i, [.int (nI i + 1), .ref 0, .ref 1], (110, x), m)
  refine mj_gcp hC 1 ?_
  refine ⟨a1.2, ?_⟩
  show P (1164, LL i, [.int (mj_I (m 0 (nI i + 1).toNatClampNeg)), .ref 1], (110, x), m)
  rw [a1.1]
  refine mj_pcall hC rfl h1 ?_
  show P (1167, LL i, [.int r], (110, x), m1)
  refine mj_gcp hC 5 ?_
  show P (1173, LL i, [.int (nI i + 1), .ref 0, .ref 68, .int r], (110, x), m1)
  refine mj_gcp hC 1 ?_
  refine ⟨a1.2, ?_⟩
  show P (1174, LL i, [.int (mj_I (m1 0 (nI i + 1).toNatClampNeg)), .ref 68, .int r], (110, x), m1)
  rw [e0]
  rw [a1.1]
  refine mj_pcall hC rfl h2 ?_
  show P (1177, LL i, [.int r, .int r], (110, x), m2)
  refine mj_gcp hC 1 ?_
  show P (mj_pick 1696 1180 (r = r), LL i, [], (110, x), m2)
  rw [mj_pick_t rfl]
  exact K m2 hI
set_option maxRecDepth 20000 in
theorem lw_slowest (hC : mj_cls false (mj_sh Ls) mj_rw mj_dv mj_cd_285 X R P) (hL : Ls ≤ 3072) (hi : i + 6 ≤ Ls) (H : LSI X 33 254 [] x m) (K : ∀ m2, LI m2 → P (1696, LL i, [], (110, x), m2)) : P (1182, LL i, [], (110, x), m) := by
  obtain ⟨r, m1, m2, h1, h2, e0, _, hI⟩ := H
  refine mj_gcp hC 1 ?_
  show P (1183, LL i, [.ref 1], (110, x), m)
  refine mj_pcall hC rfl h1 ?_
  show P (1186, LL i, [.int r], (110, x), m1)
  refine mj_gcp hC 1 ?_
  show P (1187, LL i, [.ref 68, .int r], (110, x), m1)
  refine mj_pcall hC rfl h2 ?_
  show P (1190, LL i, [.int r, .int r], (110, x), m2)
  refine mj_gcp hC 1 ?_
  show P (mj_pick 1696 1193 (r = r), LL i, [], (110, x), m2)
  rw [mj_pick_t rfl]
  exact K m2 hI
set_option maxRecDepth 20000 in
theorem lw_pack (hC : mj_cls false (mj_sh Ls) mj_rw mj_dv mj_cd_285 X R P) (hL : Ls ≤ 3072) (hi : i + 6 ≤ Ls) (H : LSI X 34 245 [.int (mj_I (m 0 (i + 1)))] x m) (K : ∀ m2, LI m2 → P (1696, LL i, [], (110, x), m2)) : P (1195, LL i, [], (110, x), m) := by
  obtain ⟨r, m1, m2, h1, h2, e0, _, hI⟩ := H
  have a1 := lw_n (i := i) (c := 1) (j := 1) rfl hL (show i + 1 < Ls by omega)
  refine mj_gcp hC 5 ?_
  show P (1201, LL i, [.int (nI i + 1), .ref 0, .ref 1], (110, x), m)
  refine mj_gcp hC 1 ?_
  refine ⟨a1.2, ?_⟩
  show P (1202, LL i, [.int (mj_I (m 0 (nI i + 1).toNatClampNeg)), .ref 1], (110, x), m)
  rw [a1.1]
  refine mj_pcall hC rfl h1 ?_
  show P (1205, LL i, [.int r], (110, x), m1)
  refine mj_gcp hC 5 ?_
  show P (1211, LL i, [.int (nI i + 1), .ref 0, .ref 68, .int r], (110, x), m1)
  refine mj_gcp hC 1 ?_
  refine ⟨a1.2, ?_⟩
  show P (1212, LL i, [.int (mj_I (m1 0 (nI i + 1).toNatClampNeg)), .ref 68, .int r], (110, x), m1)
  rw [e0]
  rw [a1.1]
  refine mj_pcall hC rfl h2 ?_
  show P (1215, LL i, [.int r, .int r], (110, x), m2)
  refine mj_gcp hC 1 ?_
  show P (mj_pick 1696 1218 (r = r), LL i, [], (110, x), m2)
  rw [mj_pick_t rfl]
  exact K m2 hI
set_option maxRecDepth 20000 in
theorem lw_canon (hC : mj_cls false (mj_sh Ls) mj_rw mj_dv mj_cd_285 X R P) (hL : Ls ≤ 3072) (hi : i + 6 ≤ Ls) (H : LSI X 36 246 [.int (mj_I (m 0 (i + 1))), .int (mj_I (m 0 (i + 2)))] x m) (K : ∀ m2, LI m2 → P (1696, LL i, [], (110, x), m2)) : P (1220, LL i, [], (110, x), m) := by
  obtain ⟨r, m1, m2, h1, h2, e0, _, hI⟩ := H
  have a1 := lw_n (i := i) (c := 1) (j := 1) rfl hL (show i + 1 < Ls by omega)
  have a2 := lw_n (i := i) (c := 2) (j := 2) rfl hL (show i + 2 < Ls by omega)
  refine mj_gcp hC 5 ?_
  show P (1226, LL i, [.int (nI i + 1), .ref 0, .ref 1], (110, x), m)
  refine mj_gcp hC 1 ?_
  refine ⟨a1.2, ?_⟩
  show P (1227, LL i, [.int (mj_I (m 0 (nI i + 1).toNatClampNeg)), .ref 1], (110, x), m)
  rw [a1.1]
  refine mj_gcp hC 4 ?_
  show P (1232, LL i, [.int (nI i + 2), .ref 0, .int (mj_I (m 0 (i + 1))), .ref 1], (110, x), m)
  refine mj_gcp hC 1 ?_
  refine ⟨a2.2, ?_⟩
  show P (1233, LL i, [.int (mj_I (m 0 (nI i + 2).toNatClampNeg)), .int (mj_I (m 0 (i + 1))), .ref 1], (110, x), m)
  rw [a2.1]
  refine mj_pcall hC rfl h1 ?_
  show P (1236, LL i, [.int r], (110, x), m1)
  refine mj_gcp hC 5 ?_
  show P (1242, LL i, [.int (nI i + 1), .ref 0, .ref 68, .int r], (110, x), m1)
  refine mj_gcp hC 1 ?_
  refine ⟨a1.2, ?_⟩
  show P (1243, LL i, [.int (mj_I (m1 0 (nI i + 1).toNatClampNeg)), .ref 68, .int r], (110, x), m1)
  rw [e0]
  rw [a1.1]
  refine mj_gcp hC 4 ?_
  show P (1248, LL i, [.int (nI i + 2), .ref 0, .int (mj_I (m 0 (i + 1))), .ref 68, .int r], (110, x), m1)
  refine mj_gcp hC 1 ?_
  refine ⟨a2.2, ?_⟩
  show P (1249, LL i, [.int (mj_I (m1 0 (nI i + 2).toNatClampNeg)), .int (mj_I (m 0 (i + 1))), .ref 68, .int r], (110, x), m1)
  rw [e0]
  rw [a2.1]
  refine mj_pcall hC rfl h2 ?_
  show P (1252, LL i, [.int r, .int r], (110, x), m2)
  refine mj_gcp hC 1 ?_
  show P (mj_pick 1696 1255 (r = r), LL i, [], (110, x), m2)
  rw [mj_pick_t rfl]
  exact K m2 hI
set_option maxRecDepth 20000 in
theorem lw_strange (hC : mj_cls false (mj_sh Ls) mj_rw mj_dv mj_cd_285 X R P) (hL : Ls ≤ 3072) (hi : i + 6 ≤ Ls) (H : LSI X 37 255 [.int (mj_I (m 0 (i + 1))), .int (mj_I (m 0 (i + 2)))] x m) (K : ∀ m2, LI m2 → P (1696, LL i, [], (110, x), m2)) : P (1257, LL i, [], (110, x), m) := by
  obtain ⟨r, m1, m2, h1, h2, e0, _, hI⟩ := H
  have a1 := lw_n (i := i) (c := 1) (j := 1) rfl hL (show i + 1 < Ls by omega)
  have a2 := lw_n (i := i) (c := 2) (j := 2) rfl hL (show i + 2 < Ls by omega)
  refine mj_gcp hC 5 ?_
  show P (1263, LL i, [.int (nI i + 1), .ref 0, .ref 1], (110, x), m)
  refine mj_gcp hC 1 ?_
  refine ⟨a1.2, ?_⟩
  show P (1264, LL i, [.int (mj_I (m 0 (nI i + 1).toNatClampNeg)), .ref 1], (110, x), m)
  rw [a1.1]
  refine mj_gcp hC 4 ?_
  show P (1269, LL i, [.int (nI i + 2), .ref 0, .int (mj_I (m 0 (i + 1))), .ref 1], (110, x), m)
  refine mj_gcp hC 1 ?_
  refine ⟨a2.2, ?_⟩
  show P (1270, LL i, [.int (mj_I (m 0 (nI i + 2).toNatClampNeg)), .int (mj_I (m 0 (i + 1))), .ref 1], (110, x), m)
  rw [a2.1]
  refine mj_pcall hC rfl h1 ?_
  show P (1273, LL i, [.int r], (110, x), m1)
  refine mj_gcp hC 5 ?_
  show P (1279, LL i, [.int (nI i + 1), .ref 0, .ref 68, .int r], (110, x), m1)
  refine mj_gcp hC 1 ?_
  refine ⟨a1.2, ?_⟩
  show P (1280, LL i, [.int (mj_I (m1 0 (nI i + 1).toNatClampNeg)), .ref 68, .int r], (110, x), m1)
  rw [e0]
  rw [a1.1]
  refine mj_gcp hC 4 ?_
  show P (1285, LL i, [.int (nI i + 2), .ref 0, .int (mj_I (m 0 (i + 1))), .ref 68, .int r], (110, x), m1)
  refine mj_gcp hC 1 ?_
  refine ⟨a2.2, ?_⟩
  show P (1286, LL i, [.int (mj_I (m1 0 (nI i + 2).toNatClampNeg)), .int (mj_I (m 0 (i + 1))), .ref 68, .int r], (110, x), m1)
  rw [e0]
  rw [a2.1]
  refine mj_pcall hC rfl h2 ?_
  show P (1289, LL i, [.int r, .int r], (110, x), m2)
  refine mj_gcp hC 1 ?_
  show P (mj_pick 1696 1292 (r = r), LL i, [], (110, x), m2)
  rw [mj_pick_t rfl]
  exact K m2 hI
set_option maxRecDepth 20000 in
theorem lw_firstSlip (hC : mj_cls false (mj_sh Ls) mj_rw mj_dv mj_cd_285 X R P) (hL : Ls ≤ 3072) (hi : i + 6 ≤ Ls) (H : LSI X 38 256 [.int (mj_I (m 0 (i + 1))), .int (mj_I (m 0 (i + 2)))] x m) (K : ∀ m2, LI m2 → P (1696, LL i, [], (110, x), m2)) : P (1294, LL i, [], (110, x), m) := by
  obtain ⟨r, m1, m2, h1, h2, e0, _, hI⟩ := H
  have a1 := lw_n (i := i) (c := 1) (j := 1) rfl hL (show i + 1 < Ls by omega)
  have a2 := lw_n (i := i) (c := 2) (j := 2) rfl hL (show i + 2 < Ls by omega)
  refine mj_gcp hC 5 ?_
  show P (1300, LL i, [.int (nI i + 1), .ref 0, .ref 1], (110, x), m)
  refine mj_gcp hC 1 ?_
  refine ⟨a1.2, ?_⟩
  show P (1301, LL i, [.int (mj_I (m 0 (nI i + 1).toNatClampNeg)), .ref 1], (110, x), m)
  rw [a1.1]
  refine mj_gcp hC 4 ?_
  show P (1306, LL i, [.int (nI i + 2), .ref 0, .int (mj_I (m 0 (i + 1))), .ref 1], (110, x), m)
  refine mj_gcp hC 1 ?_
  refine ⟨a2.2, ?_⟩
  show P (1307, LL i, [.int (mj_I (m 0 (nI i + 2).toNatClampNeg)), .int (mj_I (m 0 (i + 1))), .ref 1], (110, x), m)
  rw [a2.1]
  refine mj_pcall hC rfl h1 ?_
  show P (1310, LL i, [.int r], (110, x), m1)
  refine mj_gcp hC 5 ?_
  show P (1316, LL i, [.int (nI i + 1), .ref 0, .ref 68, .int r], (110, x), m1)
  refine mj_gcp hC 1 ?_
  refine ⟨a1.2, ?_⟩
  show P (1317, LL i, [.int (mj_I (m1 0 (nI i + 1).toNatClampNeg)), .ref 68, .int r], (110, x), m1)
  rw [e0]
  rw [a1.1]
  refine mj_gcp hC 4 ?_
  show P (1322, LL i, [.int (nI i + 2), .ref 0, .int (mj_I (m 0 (i + 1))), .ref 68, .int r], (110, x), m1)
  refine mj_gcp hC 1 ?_
  refine ⟨a2.2, ?_⟩
  show P (1323, LL i, [.int (mj_I (m1 0 (nI i + 2).toNatClampNeg)), .int (mj_I (m 0 (i + 1))), .ref 68, .int r], (110, x), m1)
  rw [e0]
  rw [a2.1]
  refine mj_pcall hC rfl h2 ?_
  show P (1326, LL i, [.int r, .int r], (110, x), m2)
  refine mj_gcp hC 1 ?_
  show P (mj_pick 1696 1329 (r = r), LL i, [], (110, x), m2)
  rw [mj_pick_t rfl]
  exact K m2 hI
set_option maxRecDepth 20000 in
theorem lw_goOn (hC : mj_cls false (mj_sh Ls) mj_rw mj_dv mj_cd_285 X R P) (hL : Ls ≤ 3072) (hi : i + 6 ≤ Ls) (H : LSI X 39 259 [] x m) (K : ∀ m2, LI m2 → P (1696, LL i, [], (110, x), m2)) : P (1331, LL i, [], (110, x), m) := by
  obtain ⟨r, m1, m2, h1, h2, e0, _, hI⟩ := H
  refine mj_gcp hC 1 ?_
  show P (1332, LL i, [.ref 1], (110, x), m)
  refine mj_pcall hC rfl h1 ?_
  show P (1335, LL i, [.int r], (110, x), m1)
  refine mj_gcp hC 1 ?_
  show P (1336, LL i, [.ref 68, .int r], (110, x), m1)
  refine mj_pcall hC rfl h2 ?_
  show P (1339, LL i, [.int r, .int r], (110, x), m2)
  refine mj_gcp hC 1 ?_
  show P (mj_pick 1696 1342 (r = r), LL i, [], (110, x), m2)
  rw [mj_pick_t rfl]
  exact K m2 hI
set_option maxRecDepth 20000 in
theorem lw_startBy (hC : mj_cls false (mj_sh Ls) mj_rw mj_dv mj_cd_285 X R P) (hL : Ls ≤ 3072) (hi : i + 6 ≤ Ls) (H : LSI X 40 257 [.int (mj_I (m 0 (i + 1))), .int (mj_I (m 0 (i + 2)))] x m) (K : ∀ m2, LI m2 → P (1696, LL i, [], (110, x), m2)) : P (1344, LL i, [], (110, x), m) := by
  obtain ⟨r, m1, m2, h1, h2, e0, _, hI⟩ := H
  have a1 := lw_n (i := i) (c := 1) (j := 1) rfl hL (show i + 1 < Ls by omega)
  have a2 := lw_n (i := i) (c := 2) (j := 2) rfl hL (show i + 2 < Ls by omega)
  refine mj_gcp hC 5 ?_
  show P (1350, LL i, [.int (nI i + 1), .ref 0, .ref 1], (110, x), m)
  refine mj_gcp hC 1 ?_
  refine ⟨a1.2, ?_⟩
  show P (1351, LL i, [.int (mj_I (m 0 (nI i + 1).toNatClampNeg)), .ref 1], (110, x), m)
  rw [a1.1]
  refine mj_gcp hC 4 ?_
  show P (1356, LL i, [.int (nI i + 2), .ref 0, .int (mj_I (m 0 (i + 1))), .ref 1], (110, x), m)
  refine mj_gcp hC 1 ?_
  refine ⟨a2.2, ?_⟩
  show P (1357, LL i, [.int (mj_I (m 0 (nI i + 2).toNatClampNeg)), .int (mj_I (m 0 (i + 1))), .ref 1], (110, x), m)
  rw [a2.1]
  refine mj_pcall hC rfl h1 ?_
  show P (1360, LL i, [.int r], (110, x), m1)
  refine mj_gcp hC 5 ?_
  show P (1366, LL i, [.int (nI i + 1), .ref 0, .ref 68, .int r], (110, x), m1)
  refine mj_gcp hC 1 ?_
  refine ⟨a1.2, ?_⟩
  show P (1367, LL i, [.int (mj_I (m1 0 (nI i + 1).toNatClampNeg)), .ref 68, .int r], (110, x), m1)
  rw [e0]
  rw [a1.1]
  refine mj_gcp hC 4 ?_
  show P (1372, LL i, [.int (nI i + 2), .ref 0, .int (mj_I (m 0 (i + 1))), .ref 68, .int r], (110, x), m1)
  refine mj_gcp hC 1 ?_
  refine ⟨a2.2, ?_⟩
  show P (1373, LL i, [.int (mj_I (m1 0 (nI i + 2).toNatClampNeg)), .int (mj_I (m 0 (i + 1))), .ref 68, .int r], (110, x), m1)
  rw [e0]
  rw [a2.1]
  refine mj_pcall hC rfl h2 ?_
  show P (1376, LL i, [.int r, .int r], (110, x), m2)
  refine mj_gcp hC 1 ?_
  show P (mj_pick 1696 1379 (r = r), LL i, [], (110, x), m2)
  rw [mj_pick_t rfl]
  exact K m2 hI
set_option maxRecDepth 20000 in
theorem lw_idle (hC : mj_cls false (mj_sh Ls) mj_rw mj_dv mj_cd_285 X R P) (hL : Ls ≤ 3072) (hi : i + 6 ≤ Ls) (H : LSI X 41 258 [] x m) (K : ∀ m2, LI m2 → P (1696, LL i, [], (110, x), m2)) : P (1381, LL i, [], (110, x), m) := by
  obtain ⟨r, m1, m2, h1, h2, e0, _, hI⟩ := H
  refine mj_gcp hC 1 ?_
  show P (1382, LL i, [.ref 1], (110, x), m)
  refine mj_pcall hC rfl h1 ?_
  show P (1385, LL i, [.int r], (110, x), m1)
  refine mj_gcp hC 1 ?_
  show P (1386, LL i, [.ref 68, .int r], (110, x), m1)
  refine mj_pcall hC rfl h2 ?_
  show P (1389, LL i, [.int r, .int r], (110, x), m2)
  refine mj_gcp hC 1 ?_
  show P (mj_pick 1696 1392 (r = r), LL i, [], (110, x), m2)
  rw [mj_pick_t rfl]
  exact K m2 hI
set_option maxRecDepth 20000 in
theorem lw_see (hC : mj_cls false (mj_sh Ls) mj_rw mj_dv mj_cd_285 X R P) (hL : Ls ≤ 3072) (hi : i + 6 ≤ Ls) (H : LSI X 42 261 [.int (mj_I (m 0 (i + 1))), .int (mj_I (m 0 (i + 2))), .int (mj_I (m 0 (i + 3))), .int (if (mj_I (m 0 (i + 4))) = 0 then 0 else 1)] x m) (K : ∀ m2, LI m2 → P (1696, LL i, [], (110, x), m2)) : P (1394, LL i, [], (110, x), m) := by
  obtain ⟨r, m1, m2, h1, h2, e0, _, hI⟩ := H
  have a1 := lw_n (i := i) (c := 1) (j := 1) rfl hL (show i + 1 < Ls by omega)
  have a2 := lw_n (i := i) (c := 2) (j := 2) rfl hL (show i + 2 < Ls by omega)
  have a3 := lw_n (i := i) (c := 3) (j := 3) rfl hL (show i + 3 < Ls by omega)
  have a4 := lw_n (i := i) (c := 4) (j := 4) rfl hL (show i + 4 < Ls by omega)
  refine mj_gcp hC 5 ?_
  show P (1400, LL i, [.int (nI i + 1), .ref 0, .ref 1], (110, x), m)
  refine mj_gcp hC 1 ?_
  refine ⟨a1.2, ?_⟩
  show P (1401, LL i, [.int (mj_I (m 0 (nI i + 1).toNatClampNeg)), .ref 1], (110, x), m)
  rw [a1.1]
  refine mj_gcp hC 4 ?_
  show P (1406, LL i, [.int (nI i + 2), .ref 0, .int (mj_I (m 0 (i + 1))), .ref 1], (110, x), m)
  refine mj_gcp hC 1 ?_
  refine ⟨a2.2, ?_⟩
  show P (1407, LL i, [.int (mj_I (m 0 (nI i + 2).toNatClampNeg)), .int (mj_I (m 0 (i + 1))), .ref 1], (110, x), m)
  rw [a2.1]
  refine mj_gcp hC 4 ?_
  show P (1412, LL i, [.int (nI i + 3), .ref 0, .int (mj_I (m 0 (i + 2))), .int (mj_I (m 0 (i + 1))), .ref 1], (110, x), m)
  refine mj_gcp hC 1 ?_
  refine ⟨a3.2, ?_⟩
  show P (1413, LL i, [.int (mj_I (m 0 (nI i + 3).toNatClampNeg)), .int (mj_I (m 0 (i + 2))), .int (mj_I (m 0 (i + 1))), .ref 1], (110, x), m)
  rw [a3.1]
  refine mj_gcp hC 4 ?_
  show P (1418, LL i, [.int (nI i + 4), .ref 0, .int (mj_I (m 0 (i + 3))), .int (mj_I (m 0 (i + 2))), .int (mj_I (m 0 (i + 1))), .ref 1], (110, x), m)
  refine mj_gcp hC 1 ?_
  refine ⟨a4.2, ?_⟩
  show P (1419, LL i, [.int (mj_I (m 0 (nI i + 4).toNatClampNeg)), .int (mj_I (m 0 (i + 3))), .int (mj_I (m 0 (i + 2))), .int (mj_I (m 0 (i + 1))), .ref 1], (110, x), m)
  rw [a4.1]
  refine mj_gcp hC 1 ?_
  show P (mj_pick 1426 1422 ((mj_I (m 0 (i + 4))) = 0), LL i, [.int (mj_I (m 0 (i + 3))), .int (mj_I (m 0 (i + 2))), .int (mj_I (m 0 (i + 1))), .ref 1], (110, x), m)
  suffices J : P (1427, LL i, [.int (if (mj_I (m 0 (i + 4))) = 0 then 0 else 1), .int (mj_I (m 0 (i + 3))), .int (mj_I (m 0 (i + 2))), .int (mj_I (m 0 (i + 1))), .ref 1], (110, x), m) by
    refine mj_pbr (fun c1 => ?_) (fun c1 => ?_)
    · rw [if_pos c1] at J
      refine mj_gcp hC 1 ?_
      exact J
    · rw [if_neg c1] at J
      refine mj_gcp hC 2 ?_
      exact J
  refine mj_pcall hC rfl h1 ?_
  show P (1430, LL i, [.int r], (110, x), m1)
  refine mj_gcp hC 5 ?_
  show P (1436, LL i, [.int (nI i + 1), .ref 0, .ref 68, .int r], (110, x), m1)
  refine mj_gcp hC 1 ?_
  refine ⟨a1.2, ?_⟩
  show P (1437, LL i, [.int (mj_I (m1 0 (nI i + 1).toNatClampNeg)), .ref 68, .int r], (110, x), m1)
  rw [e0]
  rw [a1.1]
  refine mj_gcp hC 4 ?_
  show P (1442, LL i, [.int (nI i + 2), .ref 0, .int (mj_I (m 0 (i + 1))), .ref 68, .int r], (110, x), m1)
  refine mj_gcp hC 1 ?_
  refine ⟨a2.2, ?_⟩
  show P (1443, LL i, [.int (mj_I (m1 0 (nI i + 2).toNatClampNeg)), .int (mj_I (m 0 (i + 1))), .ref 68, .int r], (110, x), m1)
  rw [e0]
  rw [a2.1]
  refine mj_gcp hC 4 ?_
  show P (1448, LL i, [.int (nI i + 3), .ref 0, .int (mj_I (m 0 (i + 2))), .int (mj_I (m 0 (i + 1))), .ref 68, .int r], (110, x), m1)
  refine mj_gcp hC 1 ?_
  refine ⟨a3.2, ?_⟩
  show P (1449, LL i, [.int (mj_I (m1 0 (nI i + 3).toNatClampNeg)), .int (mj_I (m 0 (i + 2))), .int (mj_I (m 0 (i + 1))), .ref 68, .int r], (110, x), m1)
  rw [e0]
  rw [a3.1]
  refine mj_gcp hC 4 ?_
  show P (1454, LL i, [.int (nI i + 4), .ref 0, .int (mj_I (m 0 (i + 3))), .int (mj_I (m 0 (i + 2))), .int (mj_I (m 0 (i + 1))), .ref 68, .int r], (110, x), m1)
  refine mj_gcp hC 1 ?_
  refine ⟨a4.2, ?_⟩
  show P (1455, LL i, [.int (mj_I (m1 0 (nI i + 4).toNatClampNeg)), .int (mj_I (m 0 (i + 3))), .int (mj_I (m 0 (i + 2))), .int (mj_I (m 0 (i + 1))), .ref 68, .int r], (110, x), m1)
  rw [e0]
  rw [a4.1]
  refine mj_gcp hC 1 ?_
  show P (mj_pick 1462 1458 ((mj_I (m 0 (i + 4))) = 0), LL i, [.int (mj_I (m 0 (i + 3))), .int (mj_I (m 0 (i + 2))), .int (mj_I (m 0 (i + 1))), .ref 68, .int r], (110, x), m1)
  suffices J : P (1463, LL i, [.int (if (mj_I (m 0 (i + 4))) = 0 then 0 else 1), .int (mj_I (m 0 (i + 3))), .int (mj_I (m 0 (i + 2))), .int (mj_I (m 0 (i + 1))), .ref 68, .int r], (110, x), m1) by
    refine mj_pbr (fun c1 => ?_) (fun c1 => ?_)
    · rw [if_pos c1] at J
      refine mj_gcp hC 1 ?_
      exact J
    · rw [if_neg c1] at J
      refine mj_gcp hC 2 ?_
      exact J
  refine mj_pcall hC rfl h2 ?_
  show P (1466, LL i, [.int r, .int r], (110, x), m2)
  refine mj_gcp hC 1 ?_
  show P (mj_pick 1696 1469 (r = r), LL i, [], (110, x), m2)
  rw [mj_pick_t rfl]
  exact K m2 hI
set_option maxRecDepth 20000 in
theorem lw_strike (hC : mj_cls false (mj_sh Ls) mj_rw mj_dv mj_cd_285 X R P) (hL : Ls ≤ 3072) (hi : i + 6 ≤ Ls) (H : LSI X 43 262 [.int (mj_I (m 0 (i + 1)))] x m) (K : ∀ m2, LI m2 → P (1696, LL i, [], (110, x), m2)) : P (1471, LL i, [], (110, x), m) := by
  obtain ⟨r, m1, m2, h1, h2, e0, _, hI⟩ := H
  have a1 := lw_n (i := i) (c := 1) (j := 1) rfl hL (show i + 1 < Ls by omega)
  refine mj_gcp hC 5 ?_
  show P (1477, LL i, [.int (nI i + 1), .ref 0, .ref 1], (110, x), m)
  refine mj_gcp hC 1 ?_
  refine ⟨a1.2, ?_⟩
  show P (1478, LL i, [.int (mj_I (m 0 (nI i + 1).toNatClampNeg)), .ref 1], (110, x), m)
  rw [a1.1]
  refine mj_pcall hC rfl h1 ?_
  show P (1481, LL i, [.int r], (110, x), m1)
  refine mj_gcp hC 5 ?_
  show P (1487, LL i, [.int (nI i + 1), .ref 0, .ref 68, .int r], (110, x), m1)
  refine mj_gcp hC 1 ?_
  refine ⟨a1.2, ?_⟩
  show P (1488, LL i, [.int (mj_I (m1 0 (nI i + 1).toNatClampNeg)), .ref 68, .int r], (110, x), m1)
  rw [e0]
  rw [a1.1]
  refine mj_pcall hC rfl h2 ?_
  show P (1491, LL i, [.int r, .int r], (110, x), m2)
  refine mj_gcp hC 1 ?_
  show P (mj_pick 1696 1494 (r = r), LL i, [], (110, x), m2)
  rw [mj_pick_t rfl]
  exact K m2 hI
set_option maxRecDepth 20000 in
theorem lw_known (hC : mj_cls false (mj_sh Ls) mj_rw mj_dv mj_cd_285 X R P) (hL : Ls ≤ 3072) (hi : i + 6 ≤ Ls) (H : LSI X 44 263 [.int (mj_I (m 0 (i + 1)))] x m) (K : ∀ m2, LI m2 → P (1696, LL i, [], (110, x), m2)) : P (1496, LL i, [], (110, x), m) := by
  obtain ⟨r, m1, m2, h1, h2, e0, _, hI⟩ := H
  have a1 := lw_n (i := i) (c := 1) (j := 1) rfl hL (show i + 1 < Ls by omega)
  refine mj_gcp hC 5 ?_
  show P (1502, LL i, [.int (nI i + 1), .ref 0, .ref 1], (110, x), m)
  refine mj_gcp hC 1 ?_
  refine ⟨a1.2, ?_⟩
  show P (1503, LL i, [.int (mj_I (m 0 (nI i + 1).toNatClampNeg)), .ref 1], (110, x), m)
  rw [a1.1]
  refine mj_pcall hC rfl h1 ?_
  show P (1506, LL i, [.int r], (110, x), m1)
  refine mj_gcp hC 5 ?_
  show P (1512, LL i, [.int (nI i + 1), .ref 0, .ref 68, .int r], (110, x), m1)
  refine mj_gcp hC 1 ?_
  refine ⟨a1.2, ?_⟩
  show P (1513, LL i, [.int (mj_I (m1 0 (nI i + 1).toNatClampNeg)), .ref 68, .int r], (110, x), m1)
  rw [e0]
  rw [a1.1]
  refine mj_pcall hC rfl h2 ?_
  show P (1516, LL i, [.int r, .int r], (110, x), m2)
  refine mj_gcp hC 1 ?_
  show P (mj_pick 1696 1519 (r = r), LL i, [], (110, x), m2)
  rw [mj_pick_t rfl]
  exact K m2 hI
set_option maxRecDepth 20000 in
theorem lw_shifts (hC : mj_cls false (mj_sh Ls) mj_rw mj_dv mj_cd_285 X R P) (hL : Ls ≤ 3072) (hi : i + 6 ≤ Ls) (H : LSI X 45 267 [] x m) (K : ∀ m2, LI m2 → P (1696, LL i, [], (110, x), m2)) : P (1521, LL i, [], (110, x), m) := by
  obtain ⟨r, m1, m2, h1, h2, e0, _, hI⟩ := H
  refine mj_gcp hC 1 ?_
  show P (1522, LL i, [.ref 1], (110, x), m)
  refine mj_pcall hC rfl h1 ?_
  show P (1525, LL i, [.int r], (110, x), m1)
  refine mj_gcp hC 1 ?_
  show P (1526, LL i, [.ref 68, .int r], (110, x), m1)
  refine mj_pcall hC rfl h2 ?_
  show P (1529, LL i, [.int r, .int r], (110, x), m2)
  refine mj_gcp hC 1 ?_
  show P (mj_pick 1696 1532 (r = r), LL i, [], (110, x), m2)
  rw [mj_pick_t rfl]
  exact K m2 hI
set_option maxRecDepth 20000 in
theorem lw_chance (hC : mj_cls false (mj_sh Ls) mj_rw mj_dv mj_cd_285 X R P) (hL : Ls ≤ 3072) (hi : i + 6 ≤ Ls) (H : LSI X 47 268 [.int (mj_I (m 0 (i + 1))), .int (mj_I (m 0 (i + 2))), .int (mj_I (m 0 (i + 3)))] x m) (K : ∀ m2, LI m2 → P (1696, LL i, [], (110, x), m2)) : P (1534, LL i, [], (110, x), m) := by
  obtain ⟨r, m1, m2, h1, h2, e0, _, hI⟩ := H
  have a1 := lw_n (i := i) (c := 1) (j := 1) rfl hL (show i + 1 < Ls by omega)
  have a2 := lw_n (i := i) (c := 2) (j := 2) rfl hL (show i + 2 < Ls by omega)
  have a3 := lw_n (i := i) (c := 3) (j := 3) rfl hL (show i + 3 < Ls by omega)
  refine mj_gcp hC 5 ?_
  show P (1540, LL i, [.int (nI i + 1), .ref 0, .ref 1], (110, x), m)
  refine mj_gcp hC 1 ?_
  refine ⟨a1.2, ?_⟩
  show P (1541, LL i, [.int (mj_I (m 0 (nI i + 1).toNatClampNeg)), .ref 1], (110, x), m)
  rw [a1.1]
  refine mj_gcp hC 4 ?_
  show P (1546, LL i, [.int (nI i + 2), .ref 0, .int (mj_I (m 0 (i + 1))), .ref 1], (110, x), m)
  refine mj_gcp hC 1 ?_
  refine ⟨a2.2, ?_⟩
  show P (1547, LL i, [.int (mj_I (m 0 (nI i + 2).toNatClampNeg)), .int (mj_I (m 0 (i + 1))), .ref 1], (110, x), m)
  rw [a2.1]
  refine mj_gcp hC 4 ?_
  show P (1552, LL i, [.int (nI i + 3), .ref 0, .int (mj_I (m 0 (i + 2))), .int (mj_I (m 0 (i + 1))), .ref 1], (110, x), m)
  refine mj_gcp hC 1 ?_
  refine ⟨a3.2, ?_⟩
  show P (1553, LL i, [.int (mj_I (m 0 (nI i + 3).toNatClampNeg)), .int (mj_I (m 0 (i + 2))), .int (mj_I (m 0 (i + 1))), .ref 1], (110, x), m)
  rw [a3.1]
  refine mj_pcall hC rfl h1 ?_
  show P (1556, LL i, [.int r], (110, x), m1)
  refine mj_gcp hC 5 ?_
  show P (1562, LL i, [.int (nI i + 1), .ref 0, .ref 68, .int r], (110, x), m1)
  refine mj_gcp hC 1 ?_
  refine ⟨a1.2, ?_⟩
  show P (1563, LL i, [.int (mj_I (m1 0 (nI i + 1).toNatClampNeg)), .ref 68, .int r], (110, x), m1)
  rw [e0]
  rw [a1.1]
  refine mj_gcp hC 4 ?_
  show P (1568, LL i, [.int (nI i + 2), .ref 0, .int (mj_I (m 0 (i + 1))), .ref 68, .int r], (110, x), m1)
  refine mj_gcp hC 1 ?_
  refine ⟨a2.2, ?_⟩
  show P (1569, LL i, [.int (mj_I (m1 0 (nI i + 2).toNatClampNeg)), .int (mj_I (m 0 (i + 1))), .ref 68, .int r], (110, x), m1)
  rw [e0]
  rw [a2.1]
  refine mj_gcp hC 4 ?_
  show P (1574, LL i, [.int (nI i + 3), .ref 0, .int (mj_I (m 0 (i + 2))), .int (mj_I (m 0 (i + 1))), .ref 68, .int r], (110, x), m1)
  refine mj_gcp hC 1 ?_
  refine ⟨a3.2, ?_⟩
  show P (1575, LL i, [.int (mj_I (m1 0 (nI i + 3).toNatClampNeg)), .int (mj_I (m 0 (i + 2))), .int (mj_I (m 0 (i + 1))), .ref 68, .int r], (110, x), m1)
  rw [e0]
  rw [a3.1]
  refine mj_pcall hC rfl h2 ?_
  show P (1578, LL i, [.int r, .int r], (110, x), m2)
  refine mj_gcp hC 1 ?_
  show P (mj_pick 1696 1581 (r = r), LL i, [], (110, x), m2)
  rw [mj_pick_t rfl]
  exact K m2 hI
set_option maxRecDepth 20000 in
theorem lw_tried (hC : mj_cls false (mj_sh Ls) mj_rw mj_dv mj_cd_285 X R P) (hL : Ls ≤ 3072) (hi : i + 6 ≤ Ls) (H : LSI X 48 269 [.int (mj_I (m 0 (i + 1))), .int (mj_I (m 0 (i + 2))), .int (mj_I (m 0 (i + 3)))] x m) (K : ∀ m2, LI m2 → P (1696, LL i, [], (110, x), m2)) : P (1583, LL i, [], (110, x), m) := by
  obtain ⟨r, m1, m2, h1, h2, e0, _, hI⟩ := H
  have a1 := lw_n (i := i) (c := 1) (j := 1) rfl hL (show i + 1 < Ls by omega)
  have a2 := lw_n (i := i) (c := 2) (j := 2) rfl hL (show i + 2 < Ls by omega)
  have a3 := lw_n (i := i) (c := 3) (j := 3) rfl hL (show i + 3 < Ls by omega)
  refine mj_gcp hC 5 ?_
  show P (1589, LL i, [.int (nI i + 1), .ref 0, .ref 1], (110, x), m)
  refine mj_gcp hC 1 ?_
  refine ⟨a1.2, ?_⟩
  show P (1590, LL i, [.int (mj_I (m 0 (nI i + 1).toNatClampNeg)), .ref 1], (110, x), m)
  rw [a1.1]
  refine mj_gcp hC 4 ?_
  show P (1595, LL i, [.int (nI i + 2), .ref 0, .int (mj_I (m 0 (i + 1))), .ref 1], (110, x), m)
  refine mj_gcp hC 1 ?_
  refine ⟨a2.2, ?_⟩
  show P (1596, LL i, [.int (mj_I (m 0 (nI i + 2).toNatClampNeg)), .int (mj_I (m 0 (i + 1))), .ref 1], (110, x), m)
  rw [a2.1]
  refine mj_gcp hC 4 ?_
  show P (1601, LL i, [.int (nI i + 3), .ref 0, .int (mj_I (m 0 (i + 2))), .int (mj_I (m 0 (i + 1))), .ref 1], (110, x), m)
  refine mj_gcp hC 1 ?_
  refine ⟨a3.2, ?_⟩
  show P (1602, LL i, [.int (mj_I (m 0 (nI i + 3).toNatClampNeg)), .int (mj_I (m 0 (i + 2))), .int (mj_I (m 0 (i + 1))), .ref 1], (110, x), m)
  rw [a3.1]
  refine mj_pcall hC rfl h1 ?_
  show P (1605, LL i, [.int r], (110, x), m1)
  refine mj_gcp hC 5 ?_
  show P (1611, LL i, [.int (nI i + 1), .ref 0, .ref 68, .int r], (110, x), m1)
  refine mj_gcp hC 1 ?_
  refine ⟨a1.2, ?_⟩
  show P (1612, LL i, [.int (mj_I (m1 0 (nI i + 1).toNatClampNeg)), .ref 68, .int r], (110, x), m1)
  rw [e0]
  rw [a1.1]
  refine mj_gcp hC 4 ?_
  show P (1617, LL i, [.int (nI i + 2), .ref 0, .int (mj_I (m 0 (i + 1))), .ref 68, .int r], (110, x), m1)
  refine mj_gcp hC 1 ?_
  refine ⟨a2.2, ?_⟩
  show P (1618, LL i, [.int (mj_I (m1 0 (nI i + 2).toNatClampNeg)), .int (mj_I (m 0 (i + 1))), .ref 68, .int r], (110, x), m1)
  rw [e0]
  rw [a2.1]
  refine mj_gcp hC 4 ?_
  show P (1623, LL i, [.int (nI i + 3), .ref 0, .int (mj_I (m 0 (i + 2))), .int (mj_I (m 0 (i + 1))), .ref 68, .int r], (110, x), m1)
  refine mj_gcp hC 1 ?_
  refine ⟨a3.2, ?_⟩
  show P (1624, LL i, [.int (mj_I (m1 0 (nI i + 3).toNatClampNeg)), .int (mj_I (m 0 (i + 2))), .int (mj_I (m 0 (i + 1))), .ref 68, .int r], (110, x), m1)
  rw [e0]
  rw [a3.1]
  refine mj_pcall hC rfl h2 ?_
  show P (1627, LL i, [.int r, .int r], (110, x), m2)
  refine mj_gcp hC 1 ?_
  show P (mj_pick 1696 1630 (r = r), LL i, [], (110, x), m2)
  rw [mj_pick_t rfl]
  exact K m2 hI
set_option maxRecDepth 20000 in
theorem lw_undo (hC : mj_cls false (mj_sh Ls) mj_rw mj_dv mj_cd_285 X R P) (hL : Ls ≤ 3072) (hi : i + 6 ≤ Ls) (H : LSI X 49 273 [] x m) (K : ∀ m2, LI m2 → P (1696, LL i, [], (110, x), m2)) : P (1632, LL i, [], (110, x), m) := by
  obtain ⟨r, m1, m2, h1, h2, e0, _, hI⟩ := H
  refine mj_gcp hC 1 ?_
  show P (1633, LL i, [.ref 1], (110, x), m)
  refine mj_pcall hC rfl h1 ?_
  show P (1636, LL i, [.int r], (110, x), m1)
  refine mj_gcp hC 1 ?_
  show P (1637, LL i, [.ref 68, .int r], (110, x), m1)
  refine mj_pcall hC rfl h2 ?_
  show P (1640, LL i, [.int r, .int r], (110, x), m2)
  refine mj_gcp hC 1 ?_
  show P (mj_pick 1696 1643 (r = r), LL i, [], (110, x), m2)
  rw [mj_pick_t rfl]
  exact K m2 hI
set_option maxRecDepth 20000 in
theorem lw_keep (hC : mj_cls false (mj_sh Ls) mj_rw mj_dv mj_cd_285 X R P) (hL : Ls ≤ 3072) (hi : i + 6 ≤ Ls) (H : LSI X 50 274 [] x m) (K : ∀ m2, LI m2 → P (1696, LL i, [], (110, x), m2)) : P (1645, LL i, [], (110, x), m) := by
  obtain ⟨r, m1, m2, h1, h2, e0, _, hI⟩ := H
  refine mj_gcp hC 1 ?_
  show P (1646, LL i, [.ref 1], (110, x), m)
  refine mj_pcall hC rfl h1 ?_
  show P (1649, LL i, [.int r], (110, x), m1)
  refine mj_gcp hC 1 ?_
  show P (1650, LL i, [.ref 68, .int r], (110, x), m1)
  refine mj_pcall hC rfl h2 ?_
  show P (1653, LL i, [.int r, .int r], (110, x), m2)
  refine mj_gcp hC 1 ?_
  show P (mj_pick 1696 1656 (r = r), LL i, [], (110, x), m2)
  rw [mj_pick_t rfl]
  exact K m2 hI
set_option maxRecDepth 20000 in
theorem lw_back (hC : mj_cls false (mj_sh Ls) mj_rw mj_dv mj_cd_285 X R P) (hL : Ls ≤ 3072) (hi : i + 6 ≤ Ls) (H : LSI X 51 275 [] x m) (K : ∀ m2, LI m2 → P (1696, LL i, [], (110, x), m2)) : P (1658, LL i, [], (110, x), m) := by
  obtain ⟨r, m1, m2, h1, h2, e0, _, hI⟩ := H
  refine mj_gcp hC 1 ?_
  show P (1659, LL i, [.ref 1], (110, x), m)
  refine mj_pcall hC rfl h1 ?_
  show P (1662, LL i, [.int r], (110, x), m1)
  refine mj_gcp hC 1 ?_
  show P (1663, LL i, [.ref 68, .int r], (110, x), m1)
  refine mj_pcall hC rfl h2 ?_
  show P (1666, LL i, [.int r, .int r], (110, x), m2)
  refine mj_gcp hC 1 ?_
  show P (mj_pick 1696 1669 (r = r), LL i, [], (110, x), m2)
  rw [mj_pick_t rfl]
  exact K m2 hI
set_option maxRecDepth 20000 in
theorem lw_count (hC : mj_cls false (mj_sh Ls) mj_rw mj_dv mj_cd_285 X R P) (hL : Ls ≤ 3072) (hi : i + 6 ≤ Ls) (H : LSI X 52 276 [.int (mj_I (m 0 (i + 1)))] x m) (K : ∀ m2, LI m2 → P (1696, LL i, [], (110, x), m2)) : P (1671, LL i, [], (110, x), m) := by
  obtain ⟨r, m1, m2, h1, h2, e0, _, hI⟩ := H
  have a1 := lw_n (i := i) (c := 1) (j := 1) rfl hL (show i + 1 < Ls by omega)
  refine mj_gcp hC 5 ?_
  show P (1677, LL i, [.int (nI i + 1), .ref 0, .ref 1], (110, x), m)
  refine mj_gcp hC 1 ?_
  refine ⟨a1.2, ?_⟩
  show P (1678, LL i, [.int (mj_I (m 0 (nI i + 1).toNatClampNeg)), .ref 1], (110, x), m)
  rw [a1.1]
  refine mj_pcall hC rfl h1 ?_
  show P (1681, LL i, [.int r], (110, x), m1)
  refine mj_gcp hC 5 ?_
  show P (1687, LL i, [.int (nI i + 1), .ref 0, .ref 68, .int r], (110, x), m1)
  refine mj_gcp hC 1 ?_
  refine ⟨a1.2, ?_⟩
  show P (1688, LL i, [.int (mj_I (m1 0 (nI i + 1).toNatClampNeg)), .ref 68, .int r], (110, x), m1)
  rw [e0]
  rw [a1.1]
  refine mj_pcall hC rfl h2 ?_
  show P (1691, LL i, [.int r, .int r], (110, x), m2)
  refine mj_gcp hC 1 ?_
  show P (mj_pick 1696 1694 (r = r), LL i, [], (110, x), m2)
  rw [mj_pick_t rfl]
  exact K m2 hI
end LC
