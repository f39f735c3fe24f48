/-! THE STACK OF A LAW: numbers ahead, no longer than the knots so far (own work) -/
theorem lw_stack {t : Nat} {m m' : mj_M} {a b : Nat} {st : Nat → List Nat} (h0 : st a = []) (hs : ∀ i, a ≤ i → i < b → lw_knot t m m' i (st i) (st (i + 1))) : ∀ n, a + n ≤ b → (st (a + n)).length ≤ n ∧ ∀ j ∈ st (a + n), a ≤ j ∧ j < a + n := by
  intro n
  induction n with
  | zero =>
    intro _
    rw [Nat.add_zero, h0]
    exact ⟨Nat.le_refl _, fun j hj => by cases hj⟩
  | succ n ih =>
    intro hn
    obtain ⟨h1, h2⟩ := ih (by omega)
    have hk := hs (a + n) (by omega) (by omega)
    refine ⟨?_, fun j hj => ?_⟩
    · have hl : (st (a + n + 1)).length ≤ (st (a + n)).length + 1 := by
        rcases hk with ⟨_, _, _, _, e⟩ | ⟨_, _, _, _, e⟩ | ⟨_, _, x, r, e0, _, e⟩ | ⟨_, _, y, x, r, e0, _, _, e⟩
        · rw [e]; exact Nat.le_refl _
        · rw [e]; exact Nat.le_refl _
        · rw [e, e0]; simp
        · rw [e, e0]; simp only [List.length_cons]; omega
      show (st (a + n + 1)).length ≤ n + 1
      omega
    · rcases lw_knot_mem hk hj with h | h
      · omega
      · have := h2 j h
        omega
