/-! CALLS THAT CHANGE WHAT WAS SEEN, 4: see (own work) -/
def rowE (h w b l : Nat) : Nat → Nat := fun k => if k = 0 then 0 else if k = 1 then h else if k = 2 then w else if k = 3 then b else l
theorem ne01 : ¬ (0 : Nat) = 1 := by decide
section SEE
variable {t : Nat} {m : mj_M}
theorem q_see (ht : t = 3 ∨ t = 17) (h : REL t m) {v1 v2 v3 v4 : Int32} : ∃ x m1 m2, bp_see t v1 v2 v3 v4 m = some (x, m1) ∧ md_see v1 v2 v3 v4 m1 = some (x, m2) ∧ REL t m2 := by
  obtain ⟨T, S, n, us, I, E, B, F, hC, hR, hW⟩ := h
  have hc := hW.se.cnt
  have hnw := hW.T.nw
  have z24 : nI E.1.1 = 24 ↔ E.1.1 = 24 := nI_eq (b := 24) (by omega) (by decide)
  have l24 : nI E.1.1 < 24 ↔ E.1.1 < 24 := lt_nn (b := 24) (by omega) (by decide)
  have no : REL t (mj_up m 68 2 (.int 0)) := REL_Q ht ⟨T, S, n, us, I, E, B, F, hC, hR, hW⟩ frQ_2
  have i1 : ∀ M, bp_isWithin v1 1 40 M = if v1 < 1 then 0 else if 40 < v1 then 0 else 1 := fun _ => rfl
  have i1' : ∀ M, md_isIn v1 1 40 M = if v1 < 1 then 0 else if 40 < v1 then 0 else 1 := fun _ => rfl
  have i3 : ∀ M, bp_isWithin v3 0 999 M = if v3 < 0 then 0 else if 999 < v3 then 0 else 1 := fun _ => rfl
  have i3' : ∀ M, md_isIn v3 0 999 M = if v3 < 0 then 0 else if 999 < v3 then 0 else 1 := fun _ => rfl
  unfold bp_see md_see
  simp only [i1, i1', i3, i3']
  by_cases a : v1 < 1
  · refine ⟨-1, m, mj_up m 68 2 (.int 0), by simp only [if_pos a]; rfl, ?_, no⟩
    simp only [if_pos a]
    split <;> rfl
  by_cases a' : 40 < v1
  · refine ⟨-1, m, mj_up m 68 2 (.int 0), by simp only [if_neg a, if_pos a']; rfl, ?_, no⟩
    simp only [if_neg a, if_pos a']
    split <;> rfl
  simp only [if_neg a, if_neg a', if_neg not01]
  rcases isWork_M (v := v2) hR hW with ⟨h1, h2⟩ | ⟨w, hw, rfl, h1, h2⟩
  · refine ⟨-1, m, mj_up m 68 2 (.int 0), by rw [h2 t m hC.T.nw, if_pos rfl], ?_, no⟩
    rw [h1]
    split <;> rfl
  rw [h2 t m hC.T.nw, if_neg not01]
  by_cases b : v3 < 0
  · refine ⟨-1, m, mj_up m 68 2 (.int 0), by simp only [if_pos b]; rfl, ?_, no⟩
    simp only [if_pos b, h1, if_neg not01]
    split <;> rfl
  by_cases b' : 999 < v3
  · refine ⟨-1, m, mj_up m 68 2 (.int 0), by simp only [if_neg b, if_pos b']; rfl, ?_, no⟩
    simp only [if_neg b, if_pos b', h1, if_neg not01]
    split <;> rfl
  simp only [if_neg b, if_neg b', if_neg not01]
  unfold si_add
  rw [hC.se.cnt]
  simp only [l24]
  by_cases q : E.1.1 < 24
  case neg =>
    refine ⟨-1, m, mj_up m 68 2 (.int 0), by rw [if_neg q]; rfl, ?_, no⟩
    rw [hR.se.cnt, if_pos (z24.mpr (by omega))]
  obtain ⟨hh, p1, p2, rfl⟩ := isIn_n (v := v1) (a := 1) (b := 40) (by decide) (by decide) a a'
  obtain ⟨be, _, p3, rfl⟩ := isIn_n (v := v3) (a := 0) (b := 999) (by decide) (by decide) b b'
  have z62 : mj_siz 62 ≤ 5000 ∧ 24 ≤ mj_siz 62 := by decide
  have z63 : mj_siz 63 ≤ 5000 ∧ 24 ≤ mj_siz 63 := by decide
  have z64 : mj_siz 64 ≤ 5000 ∧ 24 ≤ mj_siz 64 := by decide
  have z65 : mj_siz 65 ≤ 5000 ∧ 24 ≤ mj_siz 65 := by decide
  have es : nI E.1.1 + 1 = nI (E.1.1 + 1) := nI_add _ 1
  have r1 : nI (E.1.1 + 1) - 1 = nI E.1.1 := by rw [show (1 : Int32) = nI 1 from rfl, pk_sub (by omega), Nat.add_sub_cancel]
  rw [if_pos q, na_put z62.1 (by omega), na_put z63.1 (by omega), na_put z64.1 (by omega), na_put z65.1 (by omega)]
  -- what both lead to
  have fin : ∀ (l : Nat) (m1 : mj_M), l ≤ 1 → (∀ a j, 61 ≤ a → a ≤ 65 → ¬ (a = 61 ∧ (j = 0 ∨ j = 6)) → ¬ (62 ≤ a ∧ j = E.1.1) → m1 a j = m a j) → (∀ a, a < 61 ∨ 65 < a → m1 a = m a) → mj_I (m1 61 0) = nI (E.1.1 + 1) → mj_I (m1 61 6) = nI (if l = 1 then bz (fun i => decide (E.2 i 0 = 0 ∧ E.2 i 4 = 1)) E.1.1 ||| 2 ^ E.1.1 else bz (fun i => decide (E.2 i 0 = 0 ∧ E.2 i 4 = 1)) E.1.1) → (mj_I (m1 62 E.1.1) = -1 ∧ mj_I (m1 63 E.1.1) = nI hh ∧ mj_I (m1 64 E.1.1) = nI w ∧ mj_I (m1 65 E.1.1) = nI be) → ∃ m2, md_see_j61 (nI hh) (nI w) (nI be) (nI l) (mj_up m1 68 2 (.int 0)) = some (nI E.1.1, m2) ∧ REL t m2 ∧ mj_I (m1 68 71) = nI E.1.1 ∧ md_isWork (nI w) (mj_up m1 68 2 (.int 0)) = 1 := by
    intro l m1 hl g1 g2 g3 g4 g5
    have hR1 : RV m1 T S n us I E B F := hR.setE (fun a j h1 _ _ => by rw [g2 a (by omega)]) (by unfold seR; rw [g2 68 (by omega), g2 104 (by omega)]; exact hR.se)
    have hR2 : RV (mj_up m1 68 2 (.int 0)) T S n us I E B F := RV_Q hR1 hW.T frQ_2
    have hwk : md_isWork (nI w) (mj_up m1 68 2 (.int 0)) = 1 := by
      unfold md_isWork
      rw [hR2.T.nw, if_neg (show ¬ nI w < 0 from nI_pos (by omega)), if_neg (nI_ge hw (by omega))]
    refine ⟨mj_up (mj_up (mj_up (mj_up (mj_up (mj_up m1 68 2 (.int 0)) 104 (4 * E.1.1) (.int (nI hh))) 104 (4 * E.1.1 + 1) (.int (nI w))) 104 (4 * E.1.1 + 2) (.int (nI be))) 104 (4 * E.1.1 + 3) (.int (nI l))) 68 71 (.int (nI (E.1.1 + 1))), ?_, ⟨T, S, n, us, I, addE E (rowE hh w be l), B, F, ?_, ?_, ?_⟩, hR1.se.cnt, hwk⟩
    · unfold md_see_j61
      rw [noted_e hR2.se q]
      rfl
    · have e : ∀ a j, a < 68 → mj_up (mj_up (mj_up (mj_up (mj_up (mj_up m1 68 2 (.int 0)) 104 (4 * E.1.1) (.int (nI hh))) 104 (4 * E.1.1 + 1) (.int (nI w))) 104 (4 * E.1.1 + 2) (.int (nI be))) 104 (4 * E.1.1 + 3) (.int (nI l))) 68 71 (.int (nI (E.1.1 + 1))) a j = m1 a j := fun a j h => by rw [na_upN (by omega), na_upN (by omega), na_upN (by omega), na_upN (by omega), na_upN (by omega), na_upN (by omega)]
      refine hC.setE ht (fun k hk => funext fun j => by rw [e _ _ (by omega), g2 k (by omega)]) ?_
      refine addE_seC hC.se (fun k j h1 h2 h3 h4 => by rw [e _ _ (by omega), g1 _ _ h1 h2 h3 h4]) (by rw [e _ _ (by omega)]; exact g3) ?_ (fun _ => ?_) (fun z => absurd z ne01)
      · rw [e _ _ (by omega), g4]
        have : (rowE hh w be l 0 = 0 ∧ rowE hh w be l 4 = 1) ↔ l = 1 := ⟨fun z => z.2, fun z => ⟨rfl, z⟩⟩
        simp only [this]
      · rw [e _ _ (by omega), e _ _ (by omega), e _ _ (by omega), e _ _ (by omega)]
        exact g5
    · refine hR1.setE (fun a j h1 h2 h3 => by rw [na_upN (by omega), na_upN (by omega), na_upN (by omega), na_upN (by omega), na_upN (by omega), na_upN (by omega)]) ?_
      refine addE_seR hR1.se (fun j hj => by rw [na_upN (by omega), na_upN (by omega), na_upN (by omega), na_upN (by omega), na_upN (by omega), na_upN (by omega)]) (by rw [na_upS]; rfl) (by rw [na_upN (by omega), na_upN (by omega), na_upN (by omega), na_upN (by omega), na_upN (by omega), na_upN (by omega)]) (fun _ => ⟨?_, ?_, ?_, ?_⟩) (fun z => absurd z ne01)
      · rw [na_upN (by omega), na_upN (by omega), na_upN (by omega), na_upN (by omega), na_upS]; rfl
      · rw [na_upN (by omega), na_upN (by omega), na_upN (by omega), na_upS]; rfl
      · rw [na_upN (by omega), na_upN (by omega), na_upS]; rfl
      · rw [na_upN (by omega), na_upS]; rfl
    · exact hW.setE (addE_WE hW.se q (fun _ => ⟨p1, p2, hw, p3, hl⟩) (fun z => absurd z ne01) (Or.inl rfl))
  have cX : ∀ (X : mj_M), (∀ a j, a = 61 → X a j = m a j) → si_add_j79 X = some (nI E.1.1, mj_up X 61 0 (.int (nI (E.1.1 + 1)))) := fun X hX => by
    unfold si_add_j79
    rw [hX 61 0 rfl, hC.se.cnt, es, r1]
  have c4 : ∀ (X : mj_M), mj_I (X 61 0) = nI E.1.1 → si_add_j79 X = some (nI E.1.1, mj_up X 61 0 (.int (nI (E.1.1 + 1)))) := fun X hX => by
    unfold si_add_j79
    rw [hX, es, r1]
  generalize hX : mj_up (mj_up (mj_up (mj_up m 62 E.1.1 (.int (-1))) 63 E.1.1 (.int (nI hh))) 64 E.1.1 (.int (nI w))) 65 E.1.1 (.int (nI be)) = X
  have x0 : ∀ a j, ¬ (62 ≤ a ∧ a ≤ 65 ∧ j = E.1.1) → X a j = m a j := fun a j h => by
    rw [← hX, na_upN (by omega), na_upN (by omega), na_upN (by omega), na_upN (by omega)]
  have xr : ∀ a, a < 61 ∨ 65 < a → X a = m a := fun a h => funext fun j => x0 a j (by omega)
  have x5 : mj_I (X 62 E.1.1) = -1 ∧ mj_I (X 63 E.1.1) = nI hh ∧ mj_I (X 64 E.1.1) = nI w ∧ mj_I (X 65 E.1.1) = nI be := by
    rw [← hX]
    refine ⟨?_, ?_, ?_, ?_⟩
    · rw [na_upN (by omega), na_upN (by omega), na_upN (by omega), na_upS]; rfl
    · rw [na_upN (by omega), na_upN (by omega), na_upS]; rfl
    · rw [na_upN (by omega), na_upS]; rfl
    · rw [na_upS]; rfl
  have n24 : ¬ nI E.1.1 = 24 := fun z => by have := z24.mp z; omega
  by_cases v0 : v4 = 0
  · obtain ⟨m2, s1, s2, s3, s4⟩ := fin 0 (mj_up X 61 0 (.int (nI (E.1.1 + 1)))) (by decide) (fun a j h1 h2 h3 h4 => by rw [na_upN (by omega)]; exact x0 a j (by omega)) (fun a h => funext fun j => by rw [na_upN (by omega), xr a h]) (by rw [na_upS]; rfl) (by rw [na_upN (by omega), x0 _ _ (by omega), if_neg ne01]; exact hC.se.least) (by rw [na_upN (by omega), na_upN (by omega), na_upN (by omega), na_upN (by omega)]; exact x5)
    refine ⟨nI E.1.1, mj_up X 61 0 (.int (nI (E.1.1 + 1))), m2, ?_, ?_, s2⟩
    · rw [if_pos v0, c4 X (by rw [x0 _ _ (by omega)]; exact hC.se.cnt)]
      rfl
    · rw [s3, if_neg n24, s4, if_neg not01, if_pos v0]
      exact s1
  · have hl6 : mj_I (X 61 6) = nI (bz (fun i => decide (E.2 i 0 = 0 ∧ E.2 i 4 = 1)) E.1.1) := by rw [x0 _ _ (by omega)]; exact hC.se.least
    have h60 : mj_I (X 61 0) = nI E.1.1 := by rw [x0 _ _ (by omega)]; exact hC.se.cnt
    obtain ⟨m2, s1, s2, s3, s4⟩ := fin 1 (mj_up (mj_up X 61 6 (.int (nI (bz (fun i => decide (E.2 i 0 = 0 ∧ E.2 i 4 = 1)) E.1.1 ||| 2 ^ E.1.1)))) 61 0 (.int (nI (E.1.1 + 1)))) (by decide) (fun a j h1 h2 h3 h4 => by rw [na_upN (by omega), na_upN (by omega)]; exact x0 a j (by omega)) (fun a h => funext fun j => by rw [na_upN (by omega), na_upN (by omega), xr a h]) (by rw [na_upS]; rfl) (by rw [na_upN (by omega), na_upS, if_pos rfl]; rfl) (by rw [na_upN (by omega), na_upN (by omega), na_upN (by omega), na_upN (by omega), na_upN (by omega), na_upN (by omega), na_upN (by omega), na_upN (by omega)]; exact x5)
    refine ⟨nI E.1.1, mj_up (mj_up X 61 6 (.int (nI (bz (fun i => decide (E.2 i 0 = 0 ∧ E.2 i 4 = 1)) E.1.1 ||| 2 ^ E.1.1)))) 61 0 (.int (nI (E.1.1 + 1))), m2, ?_, ?_, s2⟩
    · rw [if_neg v0, hC.se.least, na_set (by omega), c4 _ (by rw [na_upN (by omega)]; exact h60)]
      rfl
    · rw [s3, if_neg n24, s4, if_neg not01, if_neg v0]
      exact s1
end SEE
