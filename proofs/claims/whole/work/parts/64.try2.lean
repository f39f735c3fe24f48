/-! CALLS THAT TRY, 2: ahead, crowd, firstSlip (own work) -/
theorem ntz_e : ∀ v : Nat, v < 64 → ∀ p : Nat, p < 6 → v.testBit p = true → (∀ j : Nat, j < p → v.testBit j = false) → ig_numberOfTrailingZeros (nI v) m_0 = nI p := by decide +kernel
theorem bit6 : ∀ v : Nat, v < 64 → v ≠ 0 → ∃ p, p < 6 ∧ v.testBit p = true ∧ ∀ j, j < p → v.testBit j = false := by decide +kernel
theorem z31 : ((0 : Int32)).toInt = 0 := rfl
section TRY2
variable {t : Nat} {m : mj_M} {T : zT} {S : zS} {n : Nat} {us : List zS} {I : Option (zS × Nat)} {E : zE} {B : zB} {F : Int32 × Int32}
theorem md_doneAll_1 {M0 M : mj_M} {R : zS} {H : Nat} (hR : RV M0 T S n us I E B F) (hW : WV T S n us I E B F) (hK : KR T n M0 M R) (hRw : WS T H R) : md_doneAll 1 M = some (nI (cnt (fun w => decide (R.1 3 w = 0)) (T 0 5))) ∧ md_doneAll 0 M = some (nI (cnt (fun w => decide (S.1 3 w = 0)) (T 0 5))) := by
  have hR1 := RV_Q hR hW.T hK.1
  have e1 := md_doneAll_e (b := 1) (by decide) hW.T hR1.T hK.2.1 hRw
  have e0 := md_doneAll_e (b := 0) (by decide) hW.T hR1.T hR1.S hW.S
  exact ⟨e1, e0⟩
theorem md_slipsAll_1 {M0 M : mj_M} {R : zS} (hR : RV M0 T S n us I E B F) (hW : WV T S n us I E B F) (hK : KR T n M0 M R) : md_slipsAll 1 M = some (sumI (R.2 1) (T 0 0)) ∧ md_slipsAll 0 M = some (sumI (S.2 1) (T 0 0)) := by
  have hR1 := RV_Q hR hW.T hK.1
  have e1 := md_slipsAll_e (b := 1) (by decide) hW.T hR1.T hK.2.1
  have e0 := md_slipsAll_e (b := 0) (by decide) hW.T hR1.T hR1.S
  exact ⟨e1, e0⟩
theorem q_ahead (ht : t = 3 ∨ t = 17) (hC : CV t m T S n us I E B F) (hR : RV m T S n us I E B F) (hW : WV T S n us I E B F) {h v w : Int32} : ∃ x m1 m2, bp_ahead t h v w m = some (x, m1) ∧ frT m m1 ∧ md_ahead h v w m1 = some (x, m2) ∧ frQ m1 m2 := by
  have hnw := hW.T.nw
  have hnp := hW.T.np
  -- the way that both go
  have main : ∀ a : Nat, a ≤ 200 → (v = 0 → ∃ p, p < T 0 5 ∧ w = nI p) → (v = 1 → ∃ p, p < T 0 0 ∧ w = nI p) → ∃ x m1 m2, bp_ahead_j55 t (nI a) v w m = some (x, m1) ∧ frT m m1 ∧ md_ahead_j52 (nI a) v w (mj_up m1 68 2 (.int 0)) = some (x, m2) ∧ frQ m1 m2 := by
    intro a ha h0 h1
    obtain ⟨m1, e1, k1⟩ := try_C hC hW
    obtain ⟨m2, e2, k2⟩ := hours_C (h := a) ht hC hW k1 (by omega)
    have hR2 := RV_T hR hW.T k2.1
    have hC2 := hC.cong ht (frT_K k2.1)
    obtain ⟨M1, e3, k3⟩ := try_R hR2 hW
    obtain ⟨M2, e4, k4⟩ := hours_R (h := a) hR2 hW k3 (by omega)
    have hR4 := RV_Q hR2 hW.T k4.1
    unfold bp_ahead_j55 md_ahead_j52
    rw [e1, Option.bind_some, e2, Option.bind_some]
    by_cases c0 : v = 0
    · obtain ⟨p, hp, rfl⟩ := h0 c0
      have x1 : (nI (8 + p) < 0) = False := eq_false (nI_pos (by omega))
      have x1' : (16 ≤ 8 + p) = False := eq_false (by omega)
      have x2 : (nI (8 + p)).toNatClampNeg = 8 + p := nI_clamp (by omega)
      have e8 : (8 : Int32) + nI p = nI (8 + p) := by rw [show (8 : Int32) = nI 8 from rfl, nI_add]
      refine ⟨_, m2, M2, by rw [if_pos c0], k2.1, ?_, k4.1⟩
      rw [e3, Option.bind_some, e4, Option.bind_some, if_pos c0]
      simp only [e8, x1, x1', x2, or_self, if_false]
      rw [KR_left k4 hp, KC_left hW k2 hp]
    by_cases c1 : v = 1
    · obtain ⟨p, hp, rfl⟩ := h1 c1
      have x1 : (nI (6 + p) < 0) = False := eq_false (nI_pos (by omega))
      have x1' : (12 ≤ 6 + p) = False := eq_false (by omega)
      have x2 : (nI (6 + p)).toNatClampNeg = 6 + p := nI_clamp (by omega)
      have y1 : (nI p < 0) = False := eq_false (nI_pos (by omega))
      have y1' : (12 ≤ p) = False := eq_false (by omega)
      have y2 : (nI p).toNatClampNeg = p := nI_clamp (by omega)
      have e6 : (6 : Int32) + nI p = nI (6 + p) := by rw [show (6 : Int32) = nI 6 from rfl, nI_add]
      have s1 : mj_I (M2 95 (6 + p)) = (aH T S n a).2 1 p := k4.2.1.slips p hp
      have s0 := hR4.S.slips p hp
      rw [show 6 * 0 + p = p by omega] at s0
      have d1 : fx_at m2 48 (nI p) = (aH T S n a).2 1 p := (SC_at k2.2.1 (Or.inr (Or.inl rfl)) hW.T).1 p hp
      have d0 : fx_at m2 43 (nI p) = S.2 1 p := (SC_at hC2.S (Or.inl rfl) hW.T).1 p hp
      refine ⟨_, m2, M2, by rw [if_neg c0, if_pos c1], k2.1, ?_, k4.1⟩
      rw [e3, Option.bind_some, e4, Option.bind_some, if_neg c0, if_pos c1]
      simp only [e6, x1, x1', x2, y1, y1', y2, or_self, if_false]
      rw [s1, s0, d1, d0]
    by_cases c2 : v = 2
    · have t1 : ((1 : Int32)).toNatClampNeg = 1 := rfl
      refine ⟨_, m2, M2, by rw [if_neg c0, if_neg c1, if_pos c2], k2.1, ?_, k4.1⟩
      rw [e3, Option.bind_some, e4, Option.bind_some, if_neg c0, if_neg c1, if_pos c2, t1, k4.2.1.coil, k2.2.1.coil]
    · obtain ⟨g1, g0⟩ := md_doneAll_1 hR2 hW k4 (aH_WS hW.T hW.S a)
      refine ⟨nI (cnt (fun w => decide ((aH T S n a).1 3 w = 0)) (T 0 5)) - nI (cnt (fun w => decide (S.1 3 w = 0)) (T 0 5)), m2, M2, ?_, k2.1, ?_, k4.1⟩
      · rw [if_neg c0, if_neg c1, if_neg c2, hC2.T.nw, sa_doneCount_e (Or.inr (Or.inl rfl)) hW.T k2.2.1 (aH_WS hW.T hW.S a), Option.bind_some, sa_doneCount_e (Or.inl rfl) hW.T hC2.S hW.S]
        rfl
      · rw [e3, Option.bind_some, e4, Option.bind_some, if_neg c0, if_neg c1, if_neg c2, g1, Option.bind_some, g0]
        rfl
  have i1 : ∀ M, md_isIn h 0 200 M = if h < 0 then 0 else if 200 < h then 0 else 1 := fun _ => rfl
  have i2 : ∀ M, md_isIn v 0 3 M = if v < 0 then 0 else if 3 < v then 0 else 1 := fun _ => rfl
  unfold bp_ahead md_ahead
  by_cases c : h < 0
  · refine ⟨_, m, _, by rw [if_pos c], frT_rfl, by rw [i1, if_pos c, if_pos rfl], frQ_2⟩
  by_cases c' : 200 < h
  · refine ⟨_, m, _, by rw [if_neg c, if_pos c'], frT_rfl, by rw [i1, if_neg c, if_pos c', if_pos rfl], frQ_2⟩
  by_cases d : v < 0
  · refine ⟨_, m, _, by rw [if_neg c, if_neg c', if_pos d], frT_rfl, by rw [i1, if_neg c, if_neg c', if_neg not01, i2, if_pos d, if_pos rfl], frQ_2⟩
  by_cases d' : v ≤ 3
  case neg =>
    have d2 : (3 : Int32) < v := by rw [na_ltI]; rw [na_leI] at d'; omega
    exact ⟨_, m, _, by rw [if_neg c, if_neg c', if_neg d, if_neg d'], frT_rfl, by rw [i1, if_neg c, if_neg c', if_neg not01, i2, if_neg d, if_pos d2, if_pos rfl], frQ_2⟩
  have d2 : ¬ (3 : Int32) < v := by rw [na_ltI]; rw [na_leI] at d'; omega
  obtain ⟨a, ha, rfl⟩ : ∃ a, a ≤ 200 ∧ h = nI a := na_ofN (n := 200) (by decide) (by rw [na_leI]; rw [na_ltI] at c; omega) (by show h ≤ 200; rw [na_leI]; rw [na_ltI] at c'; omega)
  have pre : ∀ M, (if md_isIn (nI a) 0 200 (mj_up M 68 2 (.int 0)) = 0 then some ((-1 : Int32), mj_up M 68 2 (.int 0)) else if md_isIn v 0 3 (mj_up M 68 2 (.int 0)) = 0 then some (-1, mj_up M 68 2 (.int 0)) else if v = 0 then (if md_isWork w (mj_up M 68 2 (.int 0)) = 0 then some (-1, mj_up M 68 2 (.int 0)) else md_ahead_j37 (nI a) v w (mj_up M 68 2 (.int 0))) else md_ahead_j37 (nI a) v w (mj_up M 68 2 (.int 0))) = (if v = 0 then (if md_isWork w (mj_up M 68 2 (.int 0)) = 0 then some (-1, mj_up M 68 2 (.int 0)) else md_ahead_j37 (nI a) v w (mj_up M 68 2 (.int 0))) else md_ahead_j37 (nI a) v w (mj_up M 68 2 (.int 0))) := by
    intro M
    rw [i1, if_neg c, if_neg c', if_neg not01, i2, if_neg d, if_neg d2, if_neg not01]
  simp only [pre]
  rw [if_neg c, if_neg c', if_neg d, if_pos d']
  by_cases v0 : v = 0
  · have v1 : ¬ v = 1 := by rw [v0]; decide
    rcases isWork_M (v := w) hR hW with ⟨h1, h2⟩ | ⟨p, hp, hw, h1, h2⟩
    · exact ⟨_, m, _, by rw [if_pos v0, h2 t m hC.T.nw, if_pos rfl], frT_rfl, by rw [if_pos v0, h1, if_pos rfl], frQ_2⟩
    · obtain ⟨x, m1, m2, e1, f1, e2, f2⟩ := main a ha (fun _ => ⟨p, hp, hw⟩) (fun z => absurd z v1)
      have hR1 := RV_T hR hW.T f1
      have hwk : md_isWork w (mj_up m1 68 2 (.int 0)) = 1 := by
        rcases isWork_M (v := w) hR1 hW with ⟨g1, g2⟩ | ⟨p', _, _, g1, _⟩
        · have z1 := h2 t m hC.T.nw
          have z2 := g2 t m hC.T.nw
          rw [z1] at z2
          exact absurd z2 (by decide)
        · exact g1
      refine ⟨x, m1, m2, ?_, f1, ?_, f2⟩
      · unfold bp_ahead_j37
        rw [if_pos v0, h2 t m hC.T.nw, if_neg not01, if_neg v1]
        exact e1
      · unfold md_ahead_j37
        rw [if_pos v0, hwk, if_neg not01, if_neg v1]
        exact e2
  · by_cases v1 : v = 1
    · rcases isMan_M (v := w) hR hW with ⟨h1, h2⟩ | ⟨p, hp, hw, h1, h2⟩
      · refine ⟨-1, m, mj_up m 68 2 (.int 0), ?_, frT_rfl, ?_, frQ_2⟩
        · unfold bp_ahead_j37
          rw [if_neg v0, if_pos v1, h2 t m hC.T.np, if_pos rfl]
        · unfold md_ahead_j37
          rw [if_neg v0, if_pos v1, h1, if_pos rfl]
      · obtain ⟨x, m1, m2, e1, f1, e2, f2⟩ := main a ha (fun z => absurd z v0) (fun _ => ⟨p, hp, hw⟩)
        have hR1 := RV_T hR hW.T f1
        have hwk : md_isMan w (mj_up m1 68 2 (.int 0)) = 1 := by
          rcases isMan_M (v := w) hR1 hW with ⟨g1, g2⟩ | ⟨p', _, _, g1, _⟩
          · have z1 := h2 t m hC.T.np
            have z2 := g2 t m hC.T.np
            rw [z1] at z2
            exact absurd z2 (by decide)
          · exact g1
        refine ⟨x, m1, m2, ?_, f1, ?_, f2⟩
        · unfold bp_ahead_j37
          rw [if_neg v0, if_pos v1, h2 t m hC.T.np, if_neg not01]
          exact e1
        · unfold md_ahead_j37
          rw [if_neg v0, if_pos v1, hwk, if_neg not01]
          exact e2
    · obtain ⟨x, m1, m2, e1, f1, e2, f2⟩ := main a ha (fun z => absurd z v0) (fun z => absurd z v1)
      refine ⟨x, m1, m2, ?_, f1, ?_, f2⟩
      · unfold bp_ahead_j37
        rw [if_neg v0, if_neg v1]
        exact e1
      · unfold md_ahead_j37
        rw [if_neg v0, if_neg v1]
        exact e2
theorem q_crowd (ht : t = 3 ∨ t = 17) (hC : CV t m T S n us I E B F) (hR : RV m T S n us I E B F) (hW : WV T S n us I E B F) {h : Int32} : ∃ x m1 m2, bp_crowd t h m = some (x, m1) ∧ frT m m1 ∧ md_crowd h m1 = some (x, m2) ∧ frQ m1 m2 := by
  have hnw := hW.T.nw
  have i1 : ∀ M, md_isIn h 0 200 M = if h < 0 then 0 else if 200 < h then 0 else 1 := fun _ => rfl
  unfold bp_crowd md_crowd
  by_cases c : h < 0
  · exact ⟨_, m, _, by rw [if_pos c], frT_rfl, by rw [i1, if_pos c, if_pos rfl], frQ_2⟩
  by_cases c' : h ≤ 200
  case neg =>
    have d2 : (200 : Int32) < h := by rw [na_ltI]; rw [na_leI] at c'; omega
    exact ⟨_, m, _, by rw [if_neg c, if_neg c'], frT_rfl, by rw [i1, if_neg c, if_pos d2, if_pos rfl], frQ_2⟩
  have d2 : ¬ (200 : Int32) < h := by rw [na_ltI]; rw [na_leI] at c'; omega
  obtain ⟨a, ha, rfl⟩ : ∃ a, a ≤ 200 ∧ h = nI a := na_ofN (n := 200) (by decide) (by rw [na_leI]; rw [na_ltI] at c; omega) c'
  obtain ⟨m1, e1, k1⟩ := try_C hC hW
  obtain ⟨m2, e2, k2⟩ := hours_C (h := a) ht hC hW k1 (by omega)
  have hR2 := RV_T hR hW.T k2.1
  have hC2 := hC.cong ht (frT_K k2.1)
  obtain ⟨M1, e3, k3⟩ := try_R hR2 hW
  obtain ⟨M2, e4, k4⟩ := hours_R (h := a) hR2 hW k3 (by omega)
  have hR4 := RV_Q hR2 hW.T k4.1
  rw [if_neg c, if_pos c', e1, Option.bind_some, e2, Option.bind_some, hC2.T.nw, sa_doneBits_e (Or.inr (Or.inl rfl)) hW.T k2.2.1 (aH_WS hW.T hW.S a), Option.bind_some, sa_doneBits_e (Or.inl rfl) hW.T hC2.S hW.S, Option.bind_some, na_not (bz_le (k := 31) (by omega)) (bz_le (k := 31) (by omega))]
  have hw1 := aH_WS (n := n) hW.T hW.S a
  have e5 : mj_loop md_crowd_l31 mj_F (0, 0, M2) = some (0, (nI (bz (fun w => decide (0 < S.1 3 w ∧ (aH T S n a).1 3 w = 0)) (T 0 5)), nI (T 0 5), M2)) := by
    refine lp_eq (fun i => (nI (bz (fun w => decide (0 < S.1 3 w ∧ (aH T S n a).1 3 w = 0)) i), nI i, M2)) (T 0 5) (by unfold mj_F; omega) (fun i hi => ?_) ?_
    · have l0 := hR4.S.left i hi
      rw [show 8 * 0 + i = i by omega] at l0
      have b0 := hW.S.left i hi
      have b1 := hw1.left i hi
      have o1 : (nI i < 0) = False := eq_false (nI_pos (by omega))
      have o1' : (16 ≤ i) = False := eq_false (by omega)
      have o2 : (nI i).toNatClampNeg = i := nI_clamp (by omega)
      have x1 : (nI (8 + i) < 0) = False := eq_false (nI_pos (by omega))
      have x1' : (16 ≤ 8 + i) = False := eq_false (by omega)
      have x2 : (nI (8 + i)).toNatClampNeg = 8 + i := nI_clamp (by omega)
      have e8 : (8 : Int32) + nI i = nI (8 + i) := by rw [show (8 : Int32) = nI 8 from rfl, nI_add]
      have z0 : nI (S.1 3 i) ≤ 0 ↔ ¬ 0 < S.1 3 i := by rw [show (0 : Int32) = nI 0 from rfl, nI_leI (by omega) (by decide)]; omega
      have z1 : nI ((aH T S n a).1 3 i) = 0 ↔ (aH T S n a).1 3 i = 0 := nI_eq (b := 0) (by omega) (by decide)
      have eb : bz (fun w => decide (0 < S.1 3 w ∧ (aH T S n a).1 3 w = 0)) (i + 1) = if decide (0 < S.1 3 i ∧ (aH T S n a).1 3 i = 0) = true then bz (fun w => decide (0 < S.1 3 w ∧ (aH T S n a).1 3 w = 0)) i ||| 2 ^ i else bz (fun w => decide (0 < S.1 3 w ∧ (aH T S n a).1 3 w = 0)) i := rfl
      unfold md_crowd_l31 md_crowd_j67l31 md_crowd_j68l31
      dsimp only
      rw [hR4.T.nw, if_neg (nI_ge hi (by omega))]
      simp only [o1, o1', o2, e8, x1, x1', x2, or_self, if_false, l0, KR_left k4 hi, z0, z1]
      have e0 : nI (bz (fun w => decide (0 < S.1 3 w ∧ (aH T S n a).1 3 w = 0)) i) ||| (0 : Int32) = nI (bz (fun w => decide (0 < S.1 3 w ∧ (aH T S n a).1 3 w = 0)) i) := Int32.or_zero
      rw [na_set (by omega), ← nI_succ, eb, e0]
      by_cases q0 : 0 < S.1 3 i
      · rw [if_neg (fun z => z q0)]
        by_cases q1 : (aH T S n a).1 3 i = 0
        · rw [if_pos q1, if_pos (decide_eq_true ⟨q0, q1⟩)]
        · rw [if_neg q1, if_neg (by rw [decide_eq_false (fun z => q1 z.2)]; decide)]
      · rw [if_pos q0, if_neg (by rw [decide_eq_false (fun z => q0 z.1)]; decide)]
    · unfold md_crowd_l31
      dsimp only
      rw [hR4.T.nw, if_pos (nI_le (Nat.le_refl _) (by omega))]
  have ev : bz (fun w => decide ((aH T S n a).1 3 w = 0)) (T 0 5) &&& (2147483647 ^^^ bz (fun w => decide (S.1 3 w = 0)) (T 0 5)) = bz (fun w => decide (0 < S.1 3 w ∧ (aH T S n a).1 3 w = 0)) (T 0 5) := by
    refine bz_of (Nat.lt_of_le_of_lt Nat.and_le_left bz_lt) (fun i hi => ?_)
    rw [na_dif_bit _ _ _ (by omega), bz_bit, bz_bit, decide_eq_true hi]
    by_cases q0 : S.1 3 i = 0
    · have : ¬ 0 < S.1 3 i := by omega
      simp [q0]
    · have : 0 < S.1 3 i := by omega
      simp [q0, this]
  rw [ev]
  refine ⟨_, m2, M2, rfl, k2.1, ?_, k4.1⟩
  rw [i1, if_neg c, if_neg d2, if_neg not01, e3, Option.bind_some, e4, Option.bind_some, e5]
  rfl
end TRY2
