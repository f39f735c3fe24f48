/-! A TRIAL: a state copied, begun; hours one behind another (own work) -/
theorem sa_copy_e {sp sp2 : Nat} {T : zT} {S : zS} {m : mj_M} (h1 : sp = 42 ∨ sp = 47 ∨ sp = 52) (h2 : sp2 = 42 ∨ sp2 = 47 ∨ sp2 = 52) (hn : sp ≠ sp2) (hw : WT T) (hS : SC T sp2 m S) : ∃ m1, sa_copy sp sp2 m = some m1 ∧ SC T sp m1 S ∧ mj_I (m1 sp 3) = mj_I (m sp2 3) ∧ ∀ k, k < sp ∨ sp + 4 < k → m1 k = m k := by
  have hnp := hw.np
  have hnw := hw.nw
  have hz : mj_siz (sp + 1) = 6 ∧ mj_siz (sp + 2) = 6 ∧ mj_siz (sp + 3) = 8 ∧ mj_siz (sp + 4) = 8 := by rcases h1 with rfl | rfl | rfl <;> decide
  have hz2 : mj_siz (sp2 + 1) = 6 ∧ mj_siz (sp2 + 2) = 6 ∧ mj_siz (sp2 + 3) = 8 ∧ mj_siz (sp2 + 4) = 8 := by rcases h2 with rfl | rfl | rfl <;> decide
  unfold sa_copy
  generalize hM : mj_up (mj_up (mj_up (mj_up (mj_up m sp 0 (.int (mj_I (m sp2 0)))) sp 1 (.int (mj_I (m sp2 1)))) sp 2 (.int (mj_I (m sp2 2)))) sp 3 (.int (mj_I (m sp2 3)))) sp 4 (.int (mj_I (m sp2 4))) = M
  have kM : ∀ k, k ≠ sp → M k = m k := fun k hk => by rw [← hM, fr_up hk, fr_up hk, fr_up hk, fr_up hk, fr_up hk]
  have sM : ∀ j, j < 5 → mj_I (M sp j) = mj_I (m sp2 j) := by
    intro j hj
    rw [← hM]
    rcases (show j = 0 ∨ j = 1 ∨ j = 2 ∨ j = 3 ∨ j = 4 by omega) with rfl | rfl | rfl | rfl | rfl
    · rw [na_upN (by omega), na_upN (by omega), na_upN (by omega), na_upN (by omega), na_upS]; rfl
    · rw [na_upN (by omega), na_upN (by omega), na_upN (by omega), na_upS]; rfl
    · rw [na_upN (by omega), na_upN (by omega), na_upS]; rfl
    · rw [na_upN (by omega), na_upS]; rfl
    · rw [na_upS]; rfl
  generalize hC : fx_copy (fx_copy (fx_copy (fx_copy M (sp2 + 1) (sp + 1)) (sp2 + 2) (sp + 2)) (sp2 + 3) (sp + 3)) (sp2 + 4) (sp + 4) = C
  have kC : ∀ k, (k ≤ sp ∨ sp + 4 < k) → C k = M k := fun k hk => by rw [← hC, fr_copy (by omega), fr_copy (by omega), fr_copy (by omega), fr_copy (by omega)]
  have c4 : ∀ j, j < 8 → mj_I (C (sp + 4) j) = mj_I (m (sp2 + 4) j) := fun j hj => by
    rw [← hC, na_copy, if_pos ⟨rfl, by omega, by omega⟩, fr_copy (by omega), fr_copy (by omega), fr_copy (by omega), kM _ (by omega)]; rfl
  have c3 : ∀ j, j < 8 → mj_I (C (sp + 3) j) = mj_I (m (sp2 + 3) j) := fun j hj => by
    rw [← hC, fr_copy (by omega), na_copy, if_pos ⟨rfl, by omega, by omega⟩, fr_copy (by omega), fr_copy (by omega), kM _ (by omega)]; rfl
  have c2 : ∀ j, j < 6 → mj_I (C (sp + 2) j) = mj_I (m (sp2 + 2) j) := fun j hj => by
    rw [← hC, fr_copy (by omega), fr_copy (by omega), na_copy, if_pos ⟨rfl, by omega, by omega⟩, fr_copy (by omega), kM _ (by omega)]; rfl
  have c1 : ∀ j, j < 6 → mj_I (C (sp + 1) j) = mj_I (m (sp2 + 1) j) := fun j hj => by
    rw [← hC, fr_copy (by omega), fr_copy (by omega), fr_copy (by omega), na_copy, if_pos ⟨rfl, by omega, by omega⟩, kM _ (by omega)]; rfl
  generalize hR : mj_up (mj_up C sp 9 (.int (mj_I (m sp2 9)))) sp 10 (.int (mj_I (m sp2 10))) = R
  have kR : ∀ k, k ≠ sp → R k = C k := fun k hk => by rw [← hR, fr_up hk, fr_up hk]
  have sR : ∀ j, j < 5 → mj_I (R sp j) = mj_I (m sp2 j) := fun j hj => by rw [← hR, na_upN (by omega), na_upN (by omega), kC _ (by omega), sM j hj]
  refine ⟨R, rfl, ⟨?_, ?_, ?_, ?_, ?_, ?_, ?_, ?_, ?_, ?_⟩, sR 3 (by decide), fun k hk => by rw [kR k (by omega), kC k (by omega), kM k (by omega)]⟩
  · rw [sR 0 (by decide)]; exact hS.hour
  · rw [sR 1 (by decide)]; exact hS.coil
  · rw [sR 2 (by decide)]; exact hS.shift
  · rw [sR 4 (by decide)]; exact hS.here
  · intro p hp; rw [kR _ (by omega), c1 p (by omega)]; exact hS.slips p hp
  · intro p hp h6; rw [kR _ (by omega), c1 p (by omega)]; exact hS.slips0 p hp h6
  · intro p hp; rw [kR _ (by omega), c2 p (by omega)]; exact hS.hic p hp
  · intro p hp h6; rw [kR _ (by omega), c2 p (by omega)]; exact hS.hic0 p hp h6
  · intro w hww; rw [kR _ (by omega), c3 w (by omega)]; exact hS.left w hww
  · intro w hww; rw [kR _ (by omega), c4 w (by omega)]; exact hS.done w hww
/-- what a trial of the reference may change -/
def okl (a j : Nat) : Prop := okc 1 a j ∨ (a = 97 ∧ 6 ≤ j ∧ j < 12) ∨ (a = 99 ∧ j = 1) ∨ (a = 68 ∧ (j = 2 ∨ (63 ≤ j ∧ j ≤ 68)))
def frL (m m1 : mj_M) : Prop := ∀ a j, ¬ okl a j → m1 a j = m a j
theorem frL_tr {m m1 m2 : mj_M} (h1 : frL m m1) (h2 : frL m1 m2) : frL m m2 := fun a j h => (h2 a j h).trans (h1 a j h)
theorem frL_rfl {m : mj_M} : frL m m := fun _ _ _ => rfl
theorem frL_R {m m1 : mj_M} (h : frR 1 m m1) : frL m m1 := fun a j hx => h a j (fun z => hx (Or.inl z))
theorem frL_TR {m m1 : mj_M} {T : zT} (h : frL m m1) (hT : TR m T) : TR m1 T := hT.cong (fun j hj => h 68 j (by unfold okl okc; omega)) (fun k h1 h2 _ => funext fun j => h k j (by unfold okl okc; omega))
theorem frL_LR {m m1 : mj_M} {T : zT} (h : frL m m1) (hT : LR m T) : LR m1 T := hT.cong (fun k h1 h2 => funext fun j => h k j (by unfold okl okc; omega))
theorem frL_SR {m m1 : mj_M} {T : zT} {S : zS} (h : frL m m1) (hw : WT T) (hS : SR T 0 m S) : SR T 0 m1 S := by
  have hnp := hw.np
  have hnw := hw.nw
  exact ⟨by rw [h _ _ (by unfold okl okc; omega)]; exact hS.hour, by rw [h _ _ (by unfold okl okc; omega)]; exact hS.coil, by rw [h _ _ (by unfold okl okc; omega)]; exact hS.shift, fun p hp => by rw [h _ _ (by unfold okl okc; omega)]; exact hS.here p hp, fun p hp => by rw [h _ _ (by unfold okl okc; omega)]; exact hS.slips p hp, fun p hp => by rw [h _ _ (by unfold okl okc; omega)]; exact hS.hic p hp, fun w hw => by rw [h _ _ (by unfold okl okc; omega)]; exact hS.left w hw, fun w hw => by rw [h _ _ (by unfold okl okc; omega)]; exact hS.done w hw⟩
/-- all signs as at first -/
def PL (m : mj_M) : Prop := mj_I (m 68 63) = 0 ∧ mj_I (m 68 64) = 0 ∧ mj_I (m 68 65) = 0 ∧ mj_I (m 68 66) = 0 ∧ mj_I (m 68 67) = -1 ∧ mj_I (m 68 68) = 0
theorem md_plain_e {m : mj_M} : ∃ m1, md_plainTried m = some m1 ∧ PL m1 ∧ ∀ a j, ¬ (a = 68 ∧ 63 ≤ j ∧ j ≤ 68) → m1 a j = m a j := by
  refine ⟨_, rfl, ⟨?_, ?_, ?_, ?_, ?_, ?_⟩, fun a j h => ?_⟩
  · rfl
  · rfl
  · rfl
  · rfl
  · rfl
  · rfl
  · rw [na_upN (by omega), na_upN (by omega), na_upN (by omega), na_upN (by omega), na_upN (by omega), na_upN (by omega)]
def R9 (m : mj_M) (T : zT) : Prop := ∀ w, w < T 0 5 → mj_I (m 81 w) = nI (T 9 w)
theorem PL_HO {m : mj_M} {T : zT} (h : PL m) (hw : WT T) (h9 : R9 m T) : HO m T := by
  intro w hww
  have := hw.nw
  rw [h.2.2.2.2.1, if_neg (na_neg (show w < 2 ^ 31 by omega))]
  exact h9 w hww
theorem PL_RF {m : mj_M} (h : PL m) : RF m 0 1 := ⟨h.2.2.2.1, h.1, h.2.1⟩
theorem md_layTried_e {T : zT} {S : zS} {m : mj_M} (hw : WT T) (hS : SR T 0 m S) (hW : ∃ H, WS T H S) : ∃ m1, md_layTried m = some m1 ∧ frL m m1 ∧ m1 68 60 = m 68 60 ∧ SR T 1 m1 S ∧ PL m1 := by
  have hnp := hw.np
  have hnw := hw.nw
  obtain ⟨H, hW⟩ := hW
  unfold md_layTried
  have e8 : ∀ i, (8 : Int32) + nI i = nI (8 + i) := fun i => by rw [show (8 : Int32) = nI 8 from rfl, nI_add]
  have e6 : ∀ i, (6 : Int32) + nI i = nI (6 + i) := fun i => by rw [show (6 : Int32) = nI 6 from rfl, nI_add]
  obtain ⟨t1, s1, e1, q1, q2⟩ := lp_up (body := md_layTried_l2) (s := (0, m))
    (fun i s => s.1 = nI i ∧ (∀ a j, ¬ ((a = 93 ∨ a = 94) ∧ 8 ≤ j ∧ j < 16) → s.2 a j = m a j) ∧ (∀ w, w < i → mj_I (s.2 93 (8 + w)) = mj_I (m 93 w) ∧ mj_I (s.2 94 (8 + w)) = mj_I (m 94 w)))
    (fun _ s => (∀ a j, ¬ ((a = 93 ∨ a = 94) ∧ 8 ≤ j ∧ j < 16) → s.2 a j = m a j) ∧ (∀ w, w < 8 → mj_I (s.2 93 (8 + w)) = mj_I (m 93 w) ∧ mj_I (s.2 94 (8 + w)) = mj_I (m 94 w))) 8 (by decide)
    ⟨rfl, fun _ _ _ => rfl, fun w hw => absurd hw (Nat.not_lt_zero w)⟩
    (by
      intro i s hi ⟨h1, h2, h3⟩
      obtain ⟨x, ms⟩ := s
      dsimp only at h1 h2 h3
      subst h1
      have o1 : (nI i < 0) = False := eq_false (nI_pos (by omega))
      have o1' : (16 ≤ i) = False := eq_false (by omega)
      have o2 : (nI i).toNatClampNeg = i := nI_clamp (by omega)
      have x1 : (nI (8 + i) < 0) = False := eq_false (nI_pos (by omega))
      have x1' : (16 ≤ 8 + i) = False := eq_false (by omega)
      have x2 : (nI (8 + i)).toNatClampNeg = 8 + i := nI_clamp (by omega)
      have a93 : ms 93 i = m 93 i := h2 _ _ (by omega)
      have a94 : ms 94 i = m 94 i := h2 _ _ (by omega)
      unfold md_layTried_l2
      simp only [o1, o1', o2, e8, x1, x1', x2, or_self, if_false, a93, a94]
      rw [if_neg (show ¬ (8 : Int32) ≤ nI i from nI_ge (b := 8) hi (by decide))]
      refine ⟨_, rfl, (nI_succ i).symm, fun a j h => ?_, fun w hw => ?_⟩
      · dsimp only
        rw [na_upN (by omega), na_upN (by omega)]; exact h2 a j h
      · dsimp only
        by_cases c : w = i
        · subst c
          rw [na_upN (by omega), na_upS, na_upS]
          exact ⟨rfl, rfl⟩
        · rw [na_upN (by omega), na_upN (by omega), na_upN (by omega), na_upN (by omega)]
          exact h3 w (by omega))
    (by
      intro s ⟨h1, h2, h3⟩
      obtain ⟨x, ms⟩ := s
      dsimp only at h1 h2 h3
      subst h1
      exact ⟨0, (nI 8, ms), rfl, h2, h3⟩)
  rw [e1, Option.bind_some]
  obtain ⟨x1, m1⟩ := s1
  dsimp only at q1 q2 ⊢
  obtain ⟨t2, s2, e2, r1, r2⟩ := lp_up (body := md_layTried_l46) (s := (0, m1))
    (fun i s => s.1 = nI i ∧ (∀ a j, ¬ ((a = 95 ∨ a = 96 ∨ a = 97) ∧ 6 ≤ j ∧ j < 12) → s.2 a j = m1 a j) ∧ (∀ w, w < i → mj_I (s.2 95 (6 + w)) = mj_I (m 95 w) ∧ mj_I (s.2 96 (6 + w)) = mj_I (m 96 w) ∧ mj_I (s.2 97 (6 + w)) = mj_I (m 97 w) &&& 1))
    (fun _ s => (∀ a j, ¬ ((a = 95 ∨ a = 96 ∨ a = 97) ∧ 6 ≤ j ∧ j < 12) → s.2 a j = m1 a j) ∧ (∀ w, w < 6 → mj_I (s.2 95 (6 + w)) = mj_I (m 95 w) ∧ mj_I (s.2 96 (6 + w)) = mj_I (m 96 w) ∧ mj_I (s.2 97 (6 + w)) = mj_I (m 97 w) &&& 1)) 6 (by decide)
    ⟨rfl, fun _ _ _ => rfl, fun w hw => absurd hw (Nat.not_lt_zero w)⟩
    (by
      intro i s hi ⟨h1, h2, h3⟩
      obtain ⟨x, ms⟩ := s
      dsimp only at h1 h2 h3
      subst h1
      have o1 : (nI i < 0) = False := eq_false (nI_pos (by omega))
      have o1' : (12 ≤ i) = False := eq_false (by omega)
      have o2 : (nI i).toNatClampNeg = i := nI_clamp (by omega)
      have x1 : (nI (6 + i) < 0) = False := eq_false (nI_pos (by omega))
      have x1' : (12 ≤ 6 + i) = False := eq_false (by omega)
      have x2 : (nI (6 + i)).toNatClampNeg = 6 + i := nI_clamp (by omega)
      have a95 : ms 95 i = m 95 i := by rw [h2 _ _ (by omega), q1 _ _ (by omega)]
      have a96 : ms 96 i = m 96 i := by rw [h2 _ _ (by omega), q1 _ _ (by omega)]
      have a97 : ms 97 i = m 97 i := by rw [h2 _ _ (by omega), q1 _ _ (by omega)]
      unfold md_layTried_l46
      simp only [o1, o1', o2, e6, x1, x1', x2, or_self, if_false, a95, a96, a97]
      rw [if_neg (show ¬ (6 : Int32) ≤ nI i from nI_ge (b := 6) hi (by decide))]
      refine ⟨_, rfl, (nI_succ i).symm, fun a j h => ?_, fun w hw => ?_⟩
      · dsimp only
        rw [na_upN (by omega), na_upN (by omega), na_upN (by omega)]; exact h2 a j h
      · dsimp only
        by_cases c : w = i
        · subst c
          rw [na_upN (by omega), na_upN (by omega), na_upS, na_upN (by omega), na_upS, na_upS]
          exact ⟨rfl, rfl, rfl⟩
        · rw [na_upN (by omega), na_upN (by omega), na_upN (by omega), na_upN (by omega), na_upN (by omega), na_upN (by omega), na_upN (by omega), na_upN (by omega), na_upN (by omega)]
          exact h3 w (by omega))
    (by
      intro s ⟨h1, h2, h3⟩
      obtain ⟨x, ms⟩ := s
      dsimp only at h1 h2 h3
      subst h1
      exact ⟨0, (nI 6, ms), rfl, h2, h3⟩)
  rw [e2, Option.bind_some]
  obtain ⟨x2, m2⟩ := s2
  dsimp only at r1 r2 ⊢
  have t0 : ((0 : Int32)).toNatClampNeg = 0 := rfl
  have t1' : ((1 : Int32)).toNatClampNeg = 1 := rfl
  rw [t0, t1']
  generalize hm3 : mj_up (mj_up (mj_up m2 98 1 (.int (mj_I (m2 98 0)))) 99 1 (.int (mj_I (m2 99 0)))) 100 1 (.int (mj_I (m2 100 0))) = m3
  obtain ⟨m4, e4, p4, f4⟩ := md_plain_e (m := m3)
  have k3 : ∀ a j, ¬ ((a = 98 ∨ a = 99 ∨ a = 100) ∧ j = 1) → m3 a j = m2 a j := fun a j h => by rw [← hm3, na_upN (by omega), na_upN (by omega), na_upN (by omega)]
  have k98 : mj_I (m3 98 1) = mj_I (m 98 0) := by rw [← hm3, na_upN (by omega), na_upN (by omega), na_upS, r1 _ _ (by omega), q1 _ _ (by omega)]; rfl
  have k99 : mj_I (m3 99 1) = mj_I (m 99 0) := by rw [← hm3, na_upN (by omega), na_upS, r1 _ _ (by omega), q1 _ _ (by omega)]; rfl
  have k100 : mj_I (m3 100 1) = mj_I (m 100 0) := by rw [← hm3, na_upS, r1 _ _ (by omega), q1 _ _ (by omega)]; rfl
  have g : ∀ a j, ¬ (a = 68 ∧ 63 ≤ j ∧ j ≤ 68) → ¬ ((a = 98 ∨ a = 99 ∨ a = 100) ∧ j = 1) → ¬ ((a = 95 ∨ a = 96 ∨ a = 97) ∧ 6 ≤ j ∧ j < 12) → ¬ ((a = 93 ∨ a = 94) ∧ 8 ≤ j ∧ j < 16) → m4 a j = m a j := fun a j h1 h2 h3 h4 => by rw [f4 a j h1, k3 a j h2, r1 a j h3, q1 a j h4]
  rw [e4]
  refine ⟨m4, rfl, fun a j h => g a j (by unfold okl okc at h; omega) (by unfold okl okc at h; omega) (by unfold okl okc at h; omega) (by unfold okl okc at h; omega), g _ _ (by omega) (by omega) (by omega) (by omega), ⟨?_, ?_, ?_, ?_, ?_, ?_, ?_, ?_⟩, p4⟩
  · rw [f4 _ _ (by omega), k100]; exact hS.hour
  · rw [f4 _ _ (by omega), k98]; exact hS.coil
  · rw [f4 _ _ (by omega), k99]; exact hS.shift
  · intro p hp
    have h1 := hW.here p hp
    have h2 := hS.here p hp
    rw [show 6 * 0 + p = p by omega] at h2
    rw [f4 _ _ (by omega), k3 _ _ (by omega), show 6 * 1 + p = 6 + p by omega, (r2 p (by omega)).2.2, h2]
    rcases (show S.1 5 p = 0 ∨ S.1 5 p = 1 by omega) with z | z <;> rw [z] <;> rfl
  · intro p hp
    have h2 := hS.slips p hp
    rw [show 6 * 0 + p = p by omega] at h2
    rw [f4 _ _ (by omega), k3 _ _ (by omega), show 6 * 1 + p = 6 + p by omega, (r2 p (by omega)).1, h2]
  · intro p hp
    have h2 := hS.hic p hp
    rw [show 6 * 0 + p = p by omega] at h2
    rw [f4 _ _ (by omega), k3 _ _ (by omega), show 6 * 1 + p = 6 + p by omega, (r2 p (by omega)).2.1, h2]
  · intro w hww
    have h2 := hS.left w hww
    rw [show 8 * 0 + w = w by omega] at h2
    rw [f4 _ _ (by omega), k3 _ _ (by omega), r1 _ _ (by omega), show 8 * 1 + w = 8 + w by omega, (q2 w (by omega)).1, h2]
  · intro w hww
    have h2 := hS.done w hww
    rw [show 8 * 0 + w = w by omega] at h2
    rw [f4 _ _ (by omega), k3 _ _ (by omega), r1 _ _ (by omega), show 8 * 1 + w = 8 + w by omega, (q2 w (by omega)).2, h2]
