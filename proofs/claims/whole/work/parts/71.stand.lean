/-! WHAT WAS SEEN: what stands (own work) -/
/-- struck, standing: from the last known down -/
def stD (E : zE) (K : Nat) : Nat → Nat × Nat
  | 0 => (0, 0)
  | j + 1 => if (stD E K j).1.testBit (K - 1 - j) = true then stD E K j else if E.2 (K - 1 - j) 0 = 0 then ((stD E K j).1, (stD E K j).2 ||| 2 ^ (K - 1 - j)) else ((stD E K j).1 ||| 2 ^ E.2 (K - 1 - j) 1, (stD E K j).2)
theorem stD_S {E : zE} {K j : Nat} : stD E K (j + 1) = if (stD E K j).1.testBit (K - 1 - j) = true then stD E K j else if E.2 (K - 1 - j) 0 = 0 then ((stD E K j).1, (stD E K j).2 ||| 2 ^ (K - 1 - j)) else ((stD E K j).1 ||| 2 ^ E.2 (K - 1 - j) 1, (stD E K j).2) := rfl
theorem stD_lt {T : zT} {E : zE} {K : Nat} (hE : WE T E) (hK : K ≤ E.1.1) : ∀ j, j ≤ K → (stD E K j).1 < 2 ^ 24 ∧ (stD E K j).2 < 2 ^ 24 := by
  intro j
  have hc := hE.cnt
  induction j with
  | zero => intro _; exact ⟨(by decide : 0 < 2 ^ 24), (by decide : 0 < 2 ^ 24)⟩
  | succ j ih =>
    intro h
    obtain ⟨h1, h2⟩ := ih (by omega)
    rw [stD_S]
    split
    · exact ⟨h1, h2⟩
    · split
      · exact ⟨h1, na_or_lt h2 (by omega)⟩
      · rename_i c0
        have hk := hE.kind (K - 1 - j) (by omega)
        have := hE.strike (K - 1 - j) (by omega) (by omega)
        exact ⟨na_or_lt h1 (by omega), h2⟩
theorem stD_bit {T : zT} {E : zE} {K : Nat} (hE : WE T E) (hK : K ≤ E.1.1) : ∀ j, j ≤ K → ∀ i, ((stD E K j).2.testBit i = true ↔ K - j ≤ i ∧ i < K ∧ (stD E K j).1.testBit i = false ∧ E.2 i 0 = 0) := by
  intro j
  have hc := hE.cnt
  induction j with
  | zero =>
    intro _ i
    rw [show (stD E K 0).2 = 0 from rfl, Nat.zero_testBit]
    constructor
    · intro z; exact absurd z (by decide)
    · intro z; omega
  | succ j ih =>
    intro h i
    have ih := ih (by omega)
    rw [stD_S]
    by_cases c : (stD E K j).1.testBit (K - 1 - j) = true
    · rw [if_pos c, ih i]
      constructor
      · intro ⟨a, b, d⟩; exact ⟨by omega, b, d⟩
      · intro ⟨a, b, d, e⟩
        refine ⟨?_, b, d, e⟩
        by_cases z : i = K - 1 - j
        · rw [z, c] at d; exact absurd d (by decide)
        · omega
    · rw [if_neg c]
      by_cases c0 : E.2 (K - 1 - j) 0 = 0
      · rw [if_pos c0]
        dsimp only
        rw [na_set_bit, Bool.or_eq_true, ih i, decide_eq_true_iff]
        constructor
        · rintro (⟨a, b, d⟩ | a)
          · exact ⟨by omega, b, d⟩
          · subst a
            exact ⟨by omega, by omega, by simpa using c, c0⟩
        · intro ⟨a, b, d, e⟩
          by_cases z : K - 1 - j = i
          · exact Or.inr z
          · exact Or.inl ⟨by omega, b, d, e⟩
      · rw [if_neg c0]
        have hk := hE.kind (K - 1 - j) (by omega)
        have hs := hE.strike (K - 1 - j) (by omega) (by omega)
        dsimp only
        rw [ih i, na_set_bit]
        constructor
        · intro ⟨a, b, d, e⟩
          refine ⟨by omega, b, ?_, e⟩
          rw [d, decide_eq_false (by omega)]
          rfl
        · intro ⟨a, b, d, e⟩
          have d1 : (stD E K j).1.testBit i = false := by
            cases hh : (stD E K j).1.testBit i with
            | false => rfl
            | true => rw [hh] at d; exact absurd d (by simp)
          refine ⟨?_, b, d1, e⟩
          by_cases z : i = K - 1 - j
          · rw [z] at e; exact absurd e c0
          · omega
/-- by how many it is known -/
theorem known_e {m M : mj_M} {T : zT} {E : zE} (hE : WE T E) (hC : seC m E) (hR : seR M E) : ∃ K, K ≤ E.1.1 ∧ si_knownCount m = nI K ∧ md_knownBy M = nI K := by
  have hc := hE.cnt
  have n1 : ¬ (0 : Int32) ≤ -1 := by decide
  unfold si_knownCount md_knownBy
  rw [hC.kn, hC.cnt, hR.kn, hR.cnt]
  rcases hE.kn with h | ⟨k, hk, h⟩
  · rw [h, if_pos rfl, if_neg n1]
    exact ⟨E.1.1, Nat.le_refl _, rfl, rfl⟩
  · rw [h, if_neg (fun z => by
      have z2 := congrArg Int32.toInt z
      rw [nI_toInt (by omega)] at z2
      have : ((-1 : Int32)).toInt = -1 := rfl
      omega), if_pos (by rw [show (0 : Int32) = nI 0 from rfl, nI_leI (by decide) (by omega)]; omega)]
    exact ⟨k, hk, rfl, rfl⟩
theorem m1_0 {i K : Nat} (h : i < K) : nI (K - i) - 1 = nI (K - 1 - i) := m1_e h
theorem standing_e {m : mj_M} {T : zT} {E : zE} {K : Nat} (hE : WE T E) (hC : seC m E) (hK : K ≤ E.1.1) (hk : si_knownCount m = nI K) : si_standing m = some (nI (stD E K K).2) := by
  have hc := hE.cnt
  have z62 : mj_siz 62 ≤ 5000 ∧ 24 ≤ mj_siz 62 := by decide
  have e1 : mj_loop (si_standing_l11 m) mj_F (0, 0, nI K - 1) = some (0, (nI (stD E K K).1, nI (stD E K K).2, nI (K - K) - 1)) := by
    refine lp_eq (fun j => (nI (stD E K j).1, nI (stD E K j).2, nI (K - j) - 1)) K (by unfold mj_F; omega) (fun j hj => ?_) ?_
    · have hl := stD_lt hE hK j (by omega)
      have hi : K - 1 - j < E.1.1 := by omega
      have ej : nI (K - 1 - j) - 1 = nI (K - (j + 1)) - 1 := by rw [show K - (j + 1) = K - 1 - j by omega]
      unfold si_standing_l11 si_standing_j55l11
      dsimp only
      rw [m1_e hj, if_neg (nI_pos (by omega)), na_bp_has (by omega) (by omega), add_m1, ej, stD_S]
      by_cases c : (stD E K j).1.testBit (K - 1 - j) = true
      · rw [if_pos c, if_pos c, if_neg not01]
      · rw [if_neg c, if_neg c, if_pos rfl, na_at z62.1 (by omega)]
        by_cases c0 : E.2 (K - 1 - j) 0 = 0
        · rw [if_pos c0, (hC.see _ hi c0).1, if_pos rfl, na_set (by omega)]
        · have c1 : E.2 (K - 1 - j) 0 = 1 := by have := hE.kind _ hi; omega
          have hs := hE.strike _ hi c1
          rw [if_neg c0, hC.strike _ hi c1, if_neg (fun z => by
            have z2 := congrArg Int32.toInt z
            rw [nI_toInt (by omega)] at z2
            have : ((-1 : Int32)).toInt = -1 := rfl
            omega), na_set (by omega)]
    · unfold si_standing_l11
      dsimp only
      rw [if_pos lt_m1]
  unfold si_standing
  rw [hk, e1]
  rfl
