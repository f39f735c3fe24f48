/-! AT FIRST, on both sides (own work) -/
def sF (T : zT) : zS := (fun a p => if a = 0 then (if p = 1 then T 0 13 else 0) else if a = 5 then 1 else if a = 3 then T 7 p else 0, fun a _ => if a = 4 then -1 else 0)
theorem sF_WS {T : zT} (hw : WT T) : WS T 0 (sF T) := by
  have := hw.spring
  refine ⟨Nat.le_refl _, hw.spring, (show -99 ≤ ((0 : Int32)).toInt ∧ ((0 : Int32)).toInt ≤ 99 from by decide), fun p _ => Nat.le_refl _, fun p _ => Nat.zero_le _, fun w hww => ?_⟩
  show T 7 w ≤ 999
  exact (hw.beats w hww).2
theorem bits_all : ∀ n : Nat, n ≤ 6 → ((1 : Int32) <<< (nI n &&& 31)) - 1 = nI (bz (fun _ => decide ((1 : Nat) = 1)) n) := by decide +kernel
theorem sa_begin_e {t sp : Nat} {T : zT} {m : mj_M} (ht : t = 3 ∨ t = 17) (hsp : sp = 42 ∨ sp = 47 ∨ sp = 52) (hT : TC t m T) (hw : WT T) : ∃ m1, sa_begin t sp m = some m1 ∧ frC sp m m1 ∧ SC T sp m1 (sF T) ∧ mj_I (m1 sp 3) = nI (T 0 15) := by
  have hnp := hw.np
  have hnw := hw.nw
  have hz : mj_siz (sp + 1) = 6 ∧ mj_siz (sp + 2) = 6 ∧ mj_siz (sp + 3) = 8 ∧ mj_siz (sp + 4) = 8 := by rcases hsp with rfl | rfl | rfl <;> decide
  unfold sa_begin
  generalize hm0 : fx_fill (fx_fill (fx_fill (fx_fill (mj_up (mj_up (mj_up (mj_up (mj_up m sp 0 (.int 0)) sp 1 (.int (mj_I (m t 13)))) sp 2 (.int 0)) sp 3 (.int (mj_I (m t 15)))) sp 4 (.int (((1 : Int32) <<< ((mj_I (m t 0)) &&& 31)) - 1))) (sp + 1) 0) (sp + 2) 0) (sp + 3) 0) (sp + 4) (-1) = m0
  have a0 : ∀ k j, (k < sp ∨ sp + 4 < k) → m0 k j = m k j := fun k j h => by
    rw [← hm0, na_fill, if_neg (by omega), na_fill, if_neg (by omega), na_fill, if_neg (by omega), na_fill, if_neg (by omega), na_upN (by omega), na_upN (by omega), na_upN (by omega), na_upN (by omega), na_upN (by omega)]
  have aS : ∀ j, m0 sp j = mj_up (mj_up (mj_up (mj_up (mj_up m sp 0 (.int 0)) sp 1 (.int (mj_I (m t 13)))) sp 2 (.int 0)) sp 3 (.int (mj_I (m t 15)))) sp 4 (.int (((1 : Int32) <<< ((mj_I (m t 0)) &&& 31)) - 1)) sp j := fun j => by
    rw [← hm0, na_fill, if_neg (by omega), na_fill, if_neg (by omega), na_fill, if_neg (by omega), na_fill, if_neg (by omega)]
  have b1 : ∀ j, j < 6 → mj_I (m0 (sp + 1) j) = 0 := fun j hj => by
    rw [← hm0, na_fill, if_neg (by omega), na_fill, if_neg (by omega), na_fill, if_neg (by omega), na_fill, if_pos ⟨rfl, by rw [hz.1]; exact hj⟩]
    rfl
  have b2 : ∀ j, j < 6 → mj_I (m0 (sp + 2) j) = 0 := fun j hj => by
    rw [← hm0, na_fill, if_neg (by omega), na_fill, if_neg (by omega), na_fill, if_pos ⟨rfl, by rw [hz.2.1]; exact hj⟩]
    rfl
  have b4 : ∀ j, j < 8 → mj_I (m0 (sp + 4) j) = -1 := fun j hj => by
    rw [← hm0, na_fill, if_pos ⟨rfl, by rw [hz.2.2.2]; exact hj⟩]
    rfl
  obtain ⟨ta, sa, e, q1, q2⟩ := lp_up (body := sa_begin_l72 t sp) (s := (0, m0)) (fun i s => s.1 = nI i ∧ (∀ k j, k ≠ sp + 3 → s.2 k j = m0 k j) ∧ ∀ j, j < i → mj_I (s.2 (sp + 3) j) = nI (T 7 j)) (fun _ s => (∀ k j, k ≠ sp + 3 → s.2 k j = m0 k j) ∧ ∀ j, j < T 0 5 → mj_I (s.2 (sp + 3) j) = nI (T 7 j)) (T 0 5) (by unfold mj_F; omega) ⟨rfl, fun _ _ _ => rfl, fun j hj => absurd hj (Nat.not_lt_zero j)⟩
    (by
      intro i s hi ⟨g1, g2, g3⟩
      obtain ⟨x, M⟩ := s
      dsimp only at g1 g2 g3
      subst g1
      have hT1 : TC t M T := hT.cong (fun i hi => funext fun j => by rw [g2 _ _ (by omega), a0 _ _ (by omega)])
      unfold sa_begin_l72
      dsimp only
      rw [hT1.nw, if_neg (nI_ge hi (by omega)), hT1.r ht hw (i := 7) (by decide) (by decide) (show i < cntT T 7 from hi), na_put (by omega) (by omega)]
      refine ⟨_, rfl, (nI_succ _).symm, fun k j h => ?_, fun j hj => ?_⟩
      · dsimp only
        rw [na_upN (by omega)]
        exact g2 k j h
      · dsimp only
        by_cases c : j = i
        · rw [c, na_upS]; rfl
        · rw [na_upN (by omega)]
          exact g3 j (by omega))
    (by
      intro s ⟨g1, g2, g3⟩
      obtain ⟨x, M⟩ := s
      dsimp only at g1 g2 g3
      subst g1
      refine ⟨0, (nI (T 0 5), M), ?_, g2, g3⟩
      have hT1 : TC t M T := hT.cong (fun i hi => funext fun j => by rw [g2 _ _ (by omega), a0 _ _ (by omega)])
      unfold sa_begin_l72
      dsimp only
      rw [hT1.nw, if_pos (nI_le (Nat.le_refl _) (by omega))])
  rw [e, Option.bind_some]
  have u : ∀ k j, ¬ (k = sp ∧ (j = 9 ∨ j = 10)) → mj_up (mj_up sa.2 sp 9 (.int 0)) sp 10 (.int 0) k j = sa.2 k j := fun k j h => by rw [na_upN (by omega), na_upN (by omega)]
  refine ⟨_, rfl, fun k h1 h2 h3 h4 h5 => funext fun j => by rw [u _ _ (by omega), q1 _ _ (by omega), a0 _ _ h5], ⟨?_, ?_, ?_, ?_, ?_, ?_, ?_, ?_, ?_, ?_⟩, ?_⟩
  · rw [u _ _ (by omega), q1 _ _ (by omega), aS, na_upN (by omega), na_upN (by omega), na_upN (by omega), na_upN (by omega), na_upS]; rfl
  · rw [u _ _ (by omega), q1 _ _ (by omega), aS, na_upN (by omega), na_upN (by omega), na_upN (by omega), na_upS]; exact hT.spring
  · rw [u _ _ (by omega), q1 _ _ (by omega), aS, na_upN (by omega), na_upN (by omega), na_upS]; rfl
  · rw [u _ _ (by omega), q1 _ _ (by omega), aS, na_upS, hT.np]; exact bits_all _ hnp
  · intro p hp; rw [u _ _ (by omega), q1 _ _ (by omega)]; exact b1 p (by omega)
  · intro p hp h6; rw [u _ _ (by omega), q1 _ _ (by omega)]; exact b1 p h6
  · intro p hp; rw [u _ _ (by omega), q1 _ _ (by omega)]; exact b2 p (by omega)
  · intro p hp h6; rw [u _ _ (by omega), q1 _ _ (by omega)]; exact b2 p h6
  · intro w hww; rw [u _ _ (by omega)]; exact q2 w hww
  · intro w hww; rw [u _ _ (by omega), q1 _ _ (by omega)]; exact b4 w (by omega)
  · rw [u _ _ (by omega), q1 _ _ (by omega), aS, na_upN (by omega), na_upS]; exact hT.seed
/-- what the beginning of half b may change -/
def okf (b a j : Nat) : Prop := ((a = 93 ∨ a = 94) ∧ 8 * b ≤ j ∧ j < 8 * b + 8) ∨ ((a = 95 ∨ a = 96 ∨ a = 97) ∧ 6 * b ≤ j ∧ j < 6 * b + 6) ∨ ((a = 98 ∨ a = 99 ∨ a = 100) ∧ j = b)
theorem md_atFirst_e {b : Nat} {T : zT} {m : mj_M} (hb : b < 2) (hT : TR m T) (hw : WT T) : ∃ m1, md_atFirst (nI b) m = some m1 ∧ SR T b m1 (sF T) ∧ ∀ a j, ¬ okf b a j → m1 a j = m a j := by
  have hnp := hw.np
  have hnw := hw.nw
  unfold md_atFirst
  have sz : ∀ i, i < 8 → (nI i < 0) = False ∧ (16 ≤ i) = False ∧ (nI i).toNatClampNeg = i := fun i hi => ⟨eq_false (nI_pos (by omega)), eq_false (by omega), nI_clamp (by omega)⟩
  obtain ⟨t1, s1, e1, q1, q2⟩ := lp_up (body := md_atFirst_l2 (nI b)) (s := (0, m)) (fun i s => s.1 = nI i ∧ (∀ k j, ¬ ((k = 93 ∨ k = 94) ∧ 8 * b ≤ j ∧ j < 8 * b + 8) → s.2 k j = m k j) ∧ ∀ j, j < i → mj_I (s.2 93 (8 * b + j)) = mj_I (m 79 j) ∧ mj_I (s.2 94 (8 * b + j)) = -1) (fun _ s => (∀ k j, ¬ ((k = 93 ∨ k = 94) ∧ 8 * b ≤ j ∧ j < 8 * b + 8) → s.2 k j = m k j) ∧ ∀ j, j < 8 → mj_I (s.2 93 (8 * b + j)) = mj_I (m 79 j) ∧ mj_I (s.2 94 (8 * b + j)) = -1) 8 (by decide) ⟨rfl, fun _ _ _ => rfl, fun j hj => absurd hj (Nat.not_lt_zero j)⟩
    (by
      intro i s hi ⟨g1, g2, g3⟩
      obtain ⟨x, M⟩ := s
      dsimp only at g1 g2 g3
      subst g1
      have x0 : (nI i < 0) = False := eq_false (nI_pos (by omega))
      have x0' : (16 ≤ i) = False := eq_false (by omega)
      have x02 : (nI i).toNatClampNeg = i := nI_clamp (by omega)
      have x1 : (nI (8 * b + i) < 0) = False := eq_false (nI_pos (by omega))
      have x1' : (16 ≤ 8 * b + i) = False := eq_false (by omega)
      have x2 : (nI (8 * b + i)).toNatClampNeg = 8 * b + i := nI_clamp (by omega)
      unfold md_atFirst_l2
      dsimp only
      rw [if_neg (show ¬ (8 : Int32) ≤ nI i from nI_ge (b := 8) (by omega) (by decide))]
      simp only [ix8, x0, x0', x02, x1, x1', x2, or_self, if_false]
      refine ⟨_, rfl, (nI_succ _).symm, fun k j h => ?_, fun j hj => ?_⟩
      · dsimp only
        rw [na_upN (by omega), na_upN (by omega)]
        exact g2 k j h
      · dsimp only
        by_cases c : j = i
        · rw [c, na_upS, na_upN (by omega), na_upS, g2 79 i (by omega)]
          exact ⟨rfl, rfl⟩
        · rw [na_upN (by omega), na_upN (by omega), na_upN (by omega), na_upN (by omega)]
          exact g3 j (by omega))
    (by
      intro s ⟨g1, g2, g3⟩
      obtain ⟨x, M⟩ := s
      dsimp only at g1 g2 g3
      subst g1
      exact ⟨0, (nI 8, M), rfl, g2, g3⟩)
  rw [e1, Option.bind_some]
  obtain ⟨t2, s2, e2, p1, p2⟩ := lp_up (body := md_atFirst_l45 (nI b)) (s := (0, s1.2)) (fun i s => s.1 = nI i ∧ (∀ k j, ¬ ((k = 95 ∨ k = 96 ∨ k = 97) ∧ 6 * b ≤ j ∧ j < 6 * b + 6) → s.2 k j = s1.2 k j) ∧ ∀ j, j < i → mj_I (s.2 95 (6 * b + j)) = 0 ∧ mj_I (s.2 96 (6 * b + j)) = 0 ∧ mj_I (s.2 97 (6 * b + j)) = 1) (fun _ s => (∀ k j, ¬ ((k = 95 ∨ k = 96 ∨ k = 97) ∧ 6 * b ≤ j ∧ j < 6 * b + 6) → s.2 k j = s1.2 k j) ∧ ∀ j, j < 6 → mj_I (s.2 95 (6 * b + j)) = 0 ∧ mj_I (s.2 96 (6 * b + j)) = 0 ∧ mj_I (s.2 97 (6 * b + j)) = 1) 6 (by decide) ⟨rfl, fun _ _ _ => rfl, fun j hj => absurd hj (Nat.not_lt_zero j)⟩
    (by
      intro i s hi ⟨g1, g2, g3⟩
      obtain ⟨x, M⟩ := s
      dsimp only at g1 g2 g3
      subst g1
      have x1 : (nI (6 * b + i) < 0) = False := eq_false (nI_pos (by omega))
      have x1' : (12 ≤ 6 * b + i) = False := eq_false (by omega)
      have x2 : (nI (6 * b + i)).toNatClampNeg = 6 * b + i := nI_clamp (by omega)
      unfold md_atFirst_l45
      dsimp only
      rw [if_neg (show ¬ (6 : Int32) ≤ nI i from nI_ge (b := 6) (by omega) (by decide))]
      simp only [ix6, x1, x1', x2, or_self, if_false]
      refine ⟨_, rfl, (nI_succ _).symm, fun k j h => ?_, fun j hj => ?_⟩
      · dsimp only
        rw [na_upN (by omega), na_upN (by omega), na_upN (by omega)]
        exact g2 k j h
      · dsimp only
        by_cases c : j = i
        · rw [c, na_upS, na_upN (by omega), na_upN (by omega), na_upS, na_upN (by omega), na_upS]
          exact ⟨rfl, rfl, rfl⟩
        · rw [na_upN (by omega), na_upN (by omega), na_upN (by omega), na_upN (by omega), na_upN (by omega), na_upN (by omega), na_upN (by omega), na_upN (by omega), na_upN (by omega)]
          exact g3 j (by omega))
    (by
      intro s ⟨g1, g2, g3⟩
      obtain ⟨x, M⟩ := s
      dsimp only at g1 g2 g3
      subst g1
      exact ⟨0, (nI 6, M), rfl, g2, g3⟩)
  have y1 : (nI b < 0) = False := eq_false (nI_pos (by omega))
  have y1' : (2 ≤ b) = False := eq_false (by omega)
  have y2 : (nI b).toNatClampNeg = b := nI_clamp (by omega)
  have t0 : ((0 : Int32)).toNatClampNeg = 0 := rfl
  rw [e2, Option.bind_some]
  simp only [y1, y1', y2, or_self, if_false, t0]
  refine ⟨_, rfl, ⟨?_, ?_, ?_, ?_, ?_, ?_, ?_, ?_⟩, fun a j h => ?_⟩
  · rw [na_upS]; rfl
  · rw [na_upN (by omega), na_upN (by omega), na_upS]
    show mj_I (s2.2 72 0) = _
    rw [p1 _ _ (by omega), q1 _ _ (by omega)]
    exact hT.spring
  · rw [na_upN (by omega), na_upS]; rfl
  · intro p hp; rw [na_upN (by omega), na_upN (by omega), na_upN (by omega), (p2 p (by omega)).2.2]; rfl
  · intro p hp; rw [na_upN (by omega), na_upN (by omega), na_upN (by omega), (p2 p (by omega)).1]; rfl
  · intro p hp; rw [na_upN (by omega), na_upN (by omega), na_upN (by omega), (p2 p (by omega)).2.1]; rfl
  · intro w hww
    rw [na_upN (by omega), na_upN (by omega), na_upN (by omega), p1 _ _ (by omega), (q2 w (by omega)).1]
    exact hT.row 7 w (by decide) (by decide) (by decide) hww
  · intro w hww
    rw [na_upN (by omega), na_upN (by omega), na_upN (by omega), p1 _ _ (by omega), (q2 w (by omega)).2]
    rfl
  · unfold okf at h
    rw [na_upN (by omega), na_upN (by omega), na_upN (by omega), p1 _ _ (by omega), q1 _ _ (by omega)]
