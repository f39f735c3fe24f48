/-! WHAT IS REMEMBERED: the reference's put (own work) -/
theorem put_l22 {uq i : Nat} {T : zT} {S : zS} {m : mj_M} {H : Nat} (hw : WT T) (hS : SR T 0 m S) (hW : WS T H S) (hq : uq = 106 ∨ uq = 107) (hi : i + 14 ≤ mj_siz uq) (hz : mj_siz uq ≤ 5000) : ∃ t s, mj_loop (md_put_l22 uq (nI i)) mj_F (0, m) = some (t, s) ∧ (∀ a j, ¬ (a = uq ∧ i + 2 ≤ j ∧ j < i + 14) → s.2 a j = m a j) ∧ ∀ p, p < T 0 0 → mj_I (s.2 uq (i + 2 + p)) = nI (S.1 2 p) ∧ mj_I (s.2 uq (i + 8 + p)) = nI (S.1 5 p) := by
  have hnp := hw.np
  refine lp_up (body := md_put_l22 uq (nI i)) (s := (0, m)) (fun k s => s.1 = nI k ∧ (∀ a j, ¬ (a = uq ∧ i + 2 ≤ j ∧ j < i + 14) → s.2 a j = m a j) ∧ ∀ p, p < k → p < T 0 0 → mj_I (s.2 uq (i + 2 + p)) = nI (S.1 2 p) ∧ mj_I (s.2 uq (i + 8 + p)) = nI (S.1 5 p)) (fun _ s => (∀ a j, ¬ (a = uq ∧ i + 2 ≤ j ∧ j < i + 14) → s.2 a j = m a j) ∧ ∀ p, p < T 0 0 → mj_I (s.2 uq (i + 2 + p)) = nI (S.1 2 p) ∧ mj_I (s.2 uq (i + 8 + p)) = nI (S.1 5 p)) 6 (by decide) ⟨rfl, fun _ _ _ => rfl, fun p hp => absurd hp (Nat.not_lt_zero p)⟩
    (by
      intro k s hk ⟨g1, g2, g3⟩
      obtain ⟨x, M⟩ := s
      dsimp only at g1 g2 g3
      subst g1
      have x0 : (nI k < 0) = False := eq_false (nI_pos (by omega))
      have x0' : (12 ≤ k) = False := eq_false (by omega)
      have x02 : (nI k).toNatClampNeg = k := nI_clamp (by omega)
      have e2 : nI i + 2 + nI k = nI (i + 2 + k) := by rw [show (2 : Int32) = nI 2 from rfl, nI_add, nI_add]
      have e8 : nI i + 8 + nI k = nI (i + 8 + k) := by rw [show (8 : Int32) = nI 8 from rfl, nI_add, nI_add]
      have y1 : (nI (i + 2 + k) < 0) = False := eq_false (nI_pos (by omega))
      have y1' : (mj_siz uq ≤ i + 2 + k) = False := eq_false (by omega)
      have y2 : (nI (i + 2 + k)).toNatClampNeg = i + 2 + k := nI_clamp (by omega)
      have w1 : (nI (i + 8 + k) < 0) = False := eq_false (nI_pos (by omega))
      have w1' : (mj_siz uq ≤ i + 8 + k) = False := eq_false (by omega)
      have w2 : (nI (i + 8 + k)).toNatClampNeg = i + 8 + k := nI_clamp (by omega)
      unfold md_put_l22 md_put_j62l22
      dsimp only
      rw [if_neg (show ¬ (6 : Int32) ≤ nI k from nI_ge (b := 6) (by omega) (by decide))]
      simp only [x0, x0', x02, e2, e8, y1, y1', y2, w1, w1', w2, or_self, if_false]
      have cM : ∀ j, M 97 j = m 97 j ∧ M 96 j = m 96 j := fun j => ⟨g2 _ _ (by omega), g2 _ _ (by omega)⟩
      have key : ∀ b : Int32, (k < T 0 0 → b = nI (S.1 5 k)) → ∃ s1, some (0, (nI k + 1, mj_up (mj_up M uq (i + 2 + k) (.int (mj_I (M 96 k)))) uq (i + 8 + k) (.int b))) = some (0, s1) ∧ s1.1 = nI (k + 1) ∧ (∀ a j, ¬ (a = uq ∧ i + 2 ≤ j ∧ j < i + 14) → s1.2 a j = m a j) ∧ ∀ p, p < k + 1 → p < T 0 0 → mj_I (s1.2 uq (i + 2 + p)) = nI (S.1 2 p) ∧ mj_I (s1.2 uq (i + 8 + p)) = nI (S.1 5 p) := by
        intro b hb
        refine ⟨_, rfl, (nI_succ _).symm, fun a j h => ?_, fun p hp hpp => ?_⟩
        · dsimp only
          rw [na_upN (by omega), na_upN (by omega)]
          exact g2 a j h
        · dsimp only
          by_cases c : p = k
          · subst c
            rw [na_upN (by omega), na_upS, na_upS, (cM p).2]
            have h6 := hS.hic p hpp
            rw [show 6 * 0 + p = p by omega] at h6
            exact ⟨h6, hb hpp⟩
          · rw [na_upN (by omega), na_upN (by omega), na_upN (by omega), na_upN (by omega)]
            exact g3 p (by omega) hpp
      have h7 : k < T 0 0 → mj_I (M 97 k) = nI (S.1 5 k) ∧ S.1 5 k ≤ 1 := fun h => by
        have h7 := hS.here k h
        rw [show 6 * 0 + k = k by omega] at h7
        exact ⟨by rw [(cM k).1]; exact h7, hW.here k h⟩
      by_cases c : mj_I (M 97 k) = 0
      · rw [if_pos c]
        refine key 0 (fun h => ?_)
        rw [← c]
        exact (h7 h).1
      · rw [if_neg c]
        refine key 1 (fun h => ?_)
        have h8 := h7 h
        have : S.1 5 k = 1 := by
          have : S.1 5 k ≠ 0 := fun z => c (by rw [h8.1, z]; rfl)
          omega
        rw [this]
        rfl)
    (by
      intro s ⟨g1, g2, g3⟩
      obtain ⟨x, M⟩ := s
      dsimp only at g1 g2 g3
      subst g1
      exact ⟨0, (nI 6, M), rfl, g2, fun p hp => g3 p (by omega) hp⟩)
theorem md_put_e {uq i : Nat} {T : zT} {S : zS} {m : mj_M} {H : Nat} (hw : WT T) (hS : SR T 0 m S) (hW : WS T H S) (hq : uq = 106 ∨ uq = 107) (hi : i + 14 ≤ mj_siz uq) (hz : mj_siz uq ≤ 5000) : ∃ m1, md_put uq (nI i) m = some m1 ∧ snap T m1 uq i S ∧ ∀ a j, ¬ (a = uq ∧ i ≤ j ∧ j < i + 14) → m1 a j = m a j := by
  have x0 : (nI i < 0) = False := eq_false (nI_pos (by omega))
  have x0' : (mj_siz uq ≤ i) = False := eq_false (by omega)
  have x02 : (nI i).toNatClampNeg = i := nI_clamp (by omega)
  have e1 : nI i + 1 = nI (i + 1) := nI_add _ 1
  have y1 : (nI (i + 1) < 0) = False := eq_false (nI_pos (by omega))
  have y1' : (mj_siz uq ≤ i + 1) = False := eq_false (by omega)
  have y2 : (nI (i + 1)).toNatClampNeg = i + 1 := nI_clamp (by omega)
  have t0 : ((0 : Int32)).toNatClampNeg = 0 := rfl
  unfold md_put
  simp only [e1, x0, x0', x02, y1, y1', y2, t0, or_self, if_false]
  have hS2 : SR T 0 (mj_up (mj_up m uq i (.int (mj_I (m 99 0)))) uq (i + 1) (.int (mj_I (m 98 0)))) S := hS.cong (fun k j h1 h2 => by rw [na_upN (by omega), na_upN (by omega)])
  obtain ⟨tt, s, e, q1, q2⟩ := put_l22 hw hS2 hW hq hi hz
  rw [e, Option.bind_some]
  refine ⟨_, rfl, ⟨?_, ?_, q2⟩, fun a j h => ?_⟩
  · rw [q1 _ _ (by omega), na_upN (by omega), na_upS]
    exact hS.shift
  · rw [q1 _ _ (by omega), na_upS]
    exact hS.coil
  · rw [q1 _ _ (by omega), na_upN (by omega), na_upN (by omega)]
