/-! CALLS THAT CHANGE WHAT WAS SEEN, 3: strike (own work) -/
theorem ne10 : ¬ (1 : Nat) = 0 := by decide
section STRIKE
variable {t : Nat} {m : mj_M}
theorem q_strike (ht : t = 3 ∨ t = 17) (h : REL t m) {v : Int32} : ∃ x m1 m2, bp_strike v m = some (x, m1) ∧ md_strike v m1 = some (x, m2) ∧ REL t m2 := by
  obtain ⟨T, S, n, us, I, E, B, F, hC, hR, hW⟩ := h
  have hc := hW.se.cnt
  have z24 : nI E.1.1 = 24 ↔ E.1.1 = 24 := nI_eq (b := 24) (by omega) (by decide)
  have l24 : nI E.1.1 < 24 ↔ E.1.1 < 24 := lt_nn (b := 24) (by omega) (by decide)
  have no : REL t (mj_up m 68 2 (.int 0)) := REL_Q ht ⟨T, S, n, us, I, E, B, F, hC, hR, hW⟩ frQ_2
  unfold bp_strike si_addStrike md_strike
  rw [hC.se.cnt]
  by_cases c : v < 0
  · refine ⟨-1, m, mj_up m 68 2 (.int 0), by rw [if_pos c]; rfl, ?_, no⟩
    rw [if_pos c]
    split <;> rfl
  rw [if_neg c]
  by_cases d : nI E.1.1 ≤ v
  · have d2 : ¬ v < nI E.1.1 := by rw [na_ltI]; rw [na_leI] at d; omega
    refine ⟨-1, m, mj_up m 68 2 (.int 0), by rw [if_pos d]; rfl, ?_, no⟩
    rw [if_neg c, hR.se.cnt, if_neg d2]
    split <;> rfl
  have d2 : v < nI E.1.1 := by rw [na_ltI]; rw [na_leI] at d; omega
  rw [if_neg d]
  simp only [l24]
  by_cases q : E.1.1 < 24
  case neg =>
    refine ⟨-1, m, mj_up m 68 2 (.int 0), by rw [if_neg q]; rfl, ?_, no⟩
    rw [hR.se.cnt, if_pos (z24.mpr (by omega))]
  obtain ⟨x, hx, rfl⟩ : ∃ x, x < E.1.1 ∧ v = nI x := by
    have h0 : ((0 : Int32)).toInt = 0 := rfl
    rw [na_ltI, h0] at c
    rw [na_ltI, nI_toInt (by omega)] at d2
    refine ⟨v.toInt.toNat, by omega, ?_⟩
    apply Int32.toInt_inj.mp
    rw [nI_toInt (by omega)]
    omega
  have z62 : mj_siz 62 ≤ 5000 ∧ 24 ≤ mj_siz 62 := by decide
  have es : nI E.1.1 + 1 = nI (E.1.1 + 1) := nI_add _ 1
  have r1 : nI (E.1.1 + 1) - 1 = nI E.1.1 := by rw [show (1 : Int32) = nI 1 from rfl, pk_sub (by omega), Nat.add_sub_cancel]
  have k1 : ∀ a j, a < 68 → ¬ (a = 61 ∧ j = 0) → ¬ (a = 62 ∧ j = E.1.1) → mj_up (mj_up m 62 E.1.1 (.int (nI x))) 61 0 (.int (nI (E.1.1 + 1))) a j = m a j := fun a j h1 h2 h3 => by rw [na_upN (by omega), na_upN (by omega)]
  have f1 : ∀ a, 68 ≤ a → mj_up (mj_up m 62 E.1.1 (.int (nI x))) 61 0 (.int (nI (E.1.1 + 1))) a = m a := fun a h1 => funext fun j => by rw [na_upN (by omega), na_upN (by omega)]
  generalize hm1 : mj_up (mj_up m 62 E.1.1 (.int (nI x))) 61 0 (.int (nI (E.1.1 + 1))) = m1 at k1 f1
  have hR1 : RV m1 T S n us I E B F := hR.setE (fun a j h1 _ _ => by rw [f1 a h1]) (by unfold seR; rw [f1 68 (by omega), f1 104 (by omega)]; exact hR.se)
  have hR2 : RV (mj_up m1 68 2 (.int 0)) T S n us I E B F := RV_Q hR1 hW.T frQ_2
  refine ⟨nI E.1.1, m1, mj_up (mj_up (mj_up (mj_up (mj_up (mj_up m1 68 2 (.int 0)) 104 (4 * E.1.1) (.int (-1))) 104 (4 * E.1.1 + 1) (.int (nI x))) 104 (4 * E.1.1 + 2) (.int 0)) 104 (4 * E.1.1 + 3) (.int 0)) 68 71 (.int (nI (E.1.1 + 1))), ?_, ?_, T, S, n, us, I, addE E (fun k => if k = 0 then 1 else if k = 1 then x else 0), B, F, ?_, ?_, ?_⟩
  · rw [if_pos q, es, r1, na_put z62.1 (by omega), hm1]
    rfl
  · rw [hR1.se.cnt, if_neg (fun z => by have := z24.mp z; omega), if_neg c, if_pos d2, noted_e hR2.se q]
    rfl
  · refine hC.setE ht (fun k hk => funext fun j => by rw [na_upN (by omega), na_upN (by omega), na_upN (by omega), na_upN (by omega), na_upN (by omega), na_upN (by omega), k1 _ _ (by omega) (by omega) (by omega)]) ?_
    have e : ∀ a j, a < 68 → mj_up (mj_up (mj_up (mj_up (mj_up (mj_up m1 68 2 (.int 0)) 104 (4 * E.1.1) (.int (-1))) 104 (4 * E.1.1 + 1) (.int (nI x))) 104 (4 * E.1.1 + 2) (.int 0)) 104 (4 * E.1.1 + 3) (.int 0)) 68 71 (.int (nI (E.1.1 + 1))) a j = m1 a j := fun a j h => by rw [na_upN (by omega), na_upN (by omega), na_upN (by omega), na_upN (by omega), na_upN (by omega), na_upN (by omega)]
    refine addE_seC hC.se (fun k j h1 h2 h3 h4 => by rw [e _ _ (by omega), k1 _ _ (by omega) (by omega) (by omega)]) ?_ ?_ (fun z => absurd z ne10) (fun _ => ?_)
    · rw [e _ _ (by omega), ← hm1, na_upS]; rfl
    · rw [e _ _ (by omega), k1 _ _ (by omega) (by omega) (by omega), if_neg (fun z => absurd z.1 ne10)]
      exact hC.se.least
    · rw [e _ _ (by omega), ← hm1, na_upN (by omega), na_upS]; rfl
  · refine hR1.setE (fun a j h1 h2 h3 => by rw [na_upN (by omega), na_upN (by omega), na_upN (by omega), na_upN (by omega), na_upN (by omega), na_upN (by omega)]) ?_
    refine addE_seR hR1.se (fun j hj => by rw [na_upN (by omega), na_upN (by omega), na_upN (by omega), na_upN (by omega), na_upN (by omega), na_upN (by omega)]) (by rw [na_upS]; rfl) (by rw [na_upN (by omega), na_upN (by omega), na_upN (by omega), na_upN (by omega), na_upN (by omega), na_upN (by omega)]) (fun z => absurd z ne10) (fun _ => ⟨?_, ?_⟩)
    · rw [na_upN (by omega), na_upN (by omega), na_upN (by omega), na_upN (by omega), na_upS]; rfl
    · rw [na_upN (by omega), na_upN (by omega), na_upN (by omega), na_upS]; rfl
  · exact hW.setE (addE_WE hW.se q (fun z => absurd z ne10) (fun _ => hx) (Or.inr rfl))
end STRIKE
