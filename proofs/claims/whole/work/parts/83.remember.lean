/-! CALLS THAT CHANGE THE STATE, 4: the reference remembers (own work) -/
section REMEMBER
variable {t : Nat} {m : mj_M} {T : zT} {S : zS} {us : List zS} {H : Nat}
theorem remember_l11 : ∃ t1 s, mj_loop md_remember_l11 mj_F (0, m) = some (t1, s) ∧ (∀ a j, a ≠ 106 → s.2 a j = m a j) ∧ ∀ j, j < 266 → mj_I (s.2 106 j) = mj_I (m 106 (j + 14)) := by
  refine lp_up (body := md_remember_l11) (s := (0, m)) (fun i s => s.1 = nI i ∧ (∀ a j, a ≠ 106 → s.2 a j = m a j) ∧ (∀ j, j < i → mj_I (s.2 106 j) = mj_I (m 106 (j + 14))) ∧ ∀ j, i ≤ j → s.2 106 j = m 106 j) (fun _ s => (∀ a j, a ≠ 106 → s.2 a j = m a j) ∧ ∀ j, j < 266 → mj_I (s.2 106 j) = mj_I (m 106 (j + 14))) 266 (by decide) ⟨rfl, fun _ _ _ => rfl, fun j h => absurd h (Nat.not_lt_zero j), fun _ _ => rfl⟩
    (by
      intro i s hi ⟨g1, g2, g3, g4⟩
      obtain ⟨x, M⟩ := s
      dsimp only at g1 g2 g3 g4
      subst g1
      have x0 : (nI i < 0) = False := eq_false (nI_pos (by omega))
      have x1 : (280 ≤ i) = False := eq_false (by omega)
      have x3 : (nI i).toNatClampNeg = i := nI_clamp (by omega)
      have e8 : nI i + (14 : Int32) = nI (i + 14) := by rw [show (14 : Int32) = nI 14 from rfl, nI_add]
      have y0 : (nI (i + 14) < 0) = False := eq_false (nI_pos (by omega))
      have y1 : (280 ≤ i + 14) = False := eq_false (by omega)
      have y3 : (nI (i + 14)).toNatClampNeg = i + 14 := nI_clamp (by omega)
      unfold md_remember_l11
      dsimp only
      rw [if_neg (show ¬ (266 : Int32) ≤ nI i from nI_ge (b := 266) (by omega) (by decide))]
      simp only [e8, x0, x1, x3, y0, y1, y3, or_self, if_false]
      refine ⟨_, rfl, (nI_succ _).symm, fun a j h => ?_, fun j h1 => ?_, fun j h1 => ?_⟩
      · dsimp only
        rw [na_upN (by omega)]
        exact g2 a j h
      · dsimp only
        by_cases c : j = i
        · subst c
          rw [na_upS, g4 _ (by omega)]
          rfl
        · rw [na_upN (by omega)]
          exact g3 j (by omega)
      · dsimp only
        rw [na_upN (by omega)]
        exact g4 j (by omega))
    (by
      intro s ⟨g1, g2, g3, g4⟩
      obtain ⟨x, M⟩ := s
      dsimp only at g1 g2 g3 g4
      subst g1
      exact ⟨0, (nI 266, M), rfl, g2, g3⟩)
theorem md_remember_e (hw : WT T) (hS : SR T 0 m S) (hW : WS T H S) (hd : dvR T m us) (hc : mj_I (m 68 75) = nI us.length) (hl : us.length ≤ 20) : ∃ m1, md_remember m = some m1 ∧ (∀ a j, a ≠ 106 → ¬ (a = 68 ∧ j = 75) → m1 a j = m a j) ∧ mj_I (m1 68 75) = nI ((cutU us).length + 1) ∧ dvR T m1 (S :: cutU us) := by
  obtain ⟨l1, l2, l3⟩ := cutU_len hl
  have key : ∀ M : mj_M, (∀ a j, a ≠ 106 → ¬ (a = 68 ∧ j = 75) → M a j = m a j) → mj_I (M 68 75) = nI (cutU us).length → dvR T M (cutU us) → ∃ m1, md_remember_j49 M = some m1 ∧ (∀ a j, a ≠ 106 → ¬ (a = 68 ∧ j = 75) → m1 a j = m a j) ∧ mj_I (m1 68 75) = nI ((cutU us).length + 1) ∧ dvR T m1 (S :: cutU us) := by
    intro M hM h75 hdv
    have e14 : (14 : Int32) * nI (cutU us).length = nI (14 * (cutU us).length) := by rw [show (14 : Int32) = nI 14 from rfl, pk_mul]
    have z : mj_siz 106 = 280 := by decide
    have sM : SR T 0 M S := hS.cong (fun k j h1 h2 => hM _ _ (by omega) (by omega))
    obtain ⟨m1, p1, p2, p3⟩ := md_put_e (uq := 106) (i := 14 * (cutU us).length) hw sM hW (Or.inl rfl) (by omega) (by omega)
    unfold md_remember_j49
    rw [h75, e14, p1, Option.bind_some, p3 _ _ (by omega), h75]
    refine ⟨_, rfl, fun a j h1 h2 => ?_, ?_, ?_, ?_⟩
    · rw [na_upN h2, p3 _ _ (by omega)]
      exact hM a j h1 h2
    · rw [na_upS, nI_succ]; rfl
    · exact snap_cong (funext fun j => na_upN (by omega)) p2
    · refine dvR_map hw (fun j hj => ?_) hdv
      rw [na_upN (by omega), p3 _ _ (by omega)]
  unfold md_remember
  rw [hc]
  by_cases c : us.length < 20
  · rw [if_neg (show ¬ nI us.length = 20 from fun z => by
      have := (nI_eq (a := us.length) (b := 20) (by omega) (by omega)).mp z
      omega)]
    exact key m (fun _ _ _ _ => rfl) (by rw [l2 c]; exact hc) (by rw [l2 c]; exact hd)
  · have c20 : us.length = 20 := by omega
    rw [if_pos (show nI us.length = 20 by rw [c20]; rfl)]
    obtain ⟨tt, ⟨x, M⟩, e, a1, a2⟩ := remember_l11 (m := m)
    dsimp only at a1 a2
    rw [e, Option.bind_some]
    dsimp only
    obtain ⟨l4, l5⟩ := l3 c20
    have h75 : mj_I (M 68 75) = nI 20 := by rw [a1 _ _ (by omega), hc, c20]
    rw [h75]
    refine key _ (fun a j h1 h2 => ?_) ?_ ?_
    · rw [na_upN h2]
      exact a1 a j h1
    · rw [na_upS, l5]
      rfl
    · rw [l4]
      refine dvR_drop hw (fun j hj => ?_) hd
      rw [na_upN (by omega)]
      exact a2 j (by omega)
end REMEMBER
