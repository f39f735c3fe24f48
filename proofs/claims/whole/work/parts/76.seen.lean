/-! CALLS THAT CHANGE WHAT WAS SEEN, 2: strike (own work) -/
def addE (E : zE) (r : Nat → Nat) : zE := ((E.1.1 + 1, E.1.2), fun i => if i = E.1.1 then r else E.2 i)
theorem addE_s {E : zE} {r : Nat → Nat} : (addE E r).2 E.1.1 = r := if_pos rfl
theorem addE_n {E : zE} {r : Nat → Nat} {i : Nat} (h : i < E.1.1) : (addE E r).2 i = E.2 i := if_neg (by omega)
theorem addE_c {E : zE} {r : Nat → Nat} : (addE E r).1.1 = E.1.1 + 1 := rfl
theorem addE_seC {m m1 : mj_M} {E : zE} {r : Nat → Nat} (h : seC m E) (hk : ∀ k j, 61 ≤ k → k ≤ 65 → ¬ (k = 61 ∧ (j = 0 ∨ j = 6)) → ¬ (62 ≤ k ∧ j = E.1.1) → m1 k j = m k j) (h0 : mj_I (m1 61 0) = nI (E.1.1 + 1)) (h6 : mj_I (m1 61 6) = nI (if r 0 = 0 ∧ r 4 = 1 then bz (fun i => decide (E.2 i 0 = 0 ∧ E.2 i 4 = 1)) E.1.1 ||| 2 ^ E.1.1 else bz (fun i => decide (E.2 i 0 = 0 ∧ E.2 i 4 = 1)) E.1.1)) (hs : r 0 = 0 → mj_I (m1 62 E.1.1) = -1 ∧ mj_I (m1 63 E.1.1) = nI (r 1) ∧ mj_I (m1 64 E.1.1) = nI (r 2) ∧ mj_I (m1 65 E.1.1) = nI (r 3)) (ht : r 0 = 1 → mj_I (m1 62 E.1.1) = nI (r 1)) : seC m1 (addE E r) := by
  refine ⟨h0, ?_, ?_, fun i hi hz => ?_, fun i hi hz => ?_⟩
  · rw [hk _ _ (by omega) (by omega) (by omega) (by omega)]; exact h.kn
  · rw [h6]
    refine congrArg nI ?_
    show _ = (if decide ((addE E r).2 E.1.1 0 = 0 ∧ (addE E r).2 E.1.1 4 = 1) = true then bz (fun i => decide ((addE E r).2 i 0 = 0 ∧ (addE E r).2 i 4 = 1)) E.1.1 ||| 2 ^ E.1.1 else bz (fun i => decide ((addE E r).2 i 0 = 0 ∧ (addE E r).2 i 4 = 1)) E.1.1)
    have e : bz (fun i => decide ((addE E r).2 i 0 = 0 ∧ (addE E r).2 i 4 = 1)) E.1.1 = bz (fun i => decide (E.2 i 0 = 0 ∧ E.2 i 4 = 1)) E.1.1 := bz_congr (fun p hp => by rw [addE_n hp])
    rw [e, addE_s]
    by_cases c : r 0 = 0 ∧ r 4 = 1
    · rw [if_pos c, if_pos (decide_eq_true c)]
    · rw [if_neg c, if_neg (by rw [decide_eq_false c]; decide)]
  · have hi : i < E.1.1 + 1 := hi
    by_cases c : i = E.1.1
    · subst c
      rw [addE_s] at hz ⊢
      exact hs hz
    · rw [addE_n (by omega)] at hz ⊢
      rw [hk _ _ (by omega) (by omega) (by omega) (by omega), hk _ _ (by omega) (by omega) (by omega) (by omega), hk _ _ (by omega) (by omega) (by omega) (by omega), hk _ _ (by omega) (by omega) (by omega) (by omega)]
      exact h.see i (by omega) hz
  · have hi : i < E.1.1 + 1 := hi
    by_cases c : i = E.1.1
    · subst c
      rw [addE_s] at hz ⊢
      exact ht hz
    · rw [addE_n (by omega)] at hz ⊢
      rw [hk _ _ (by omega) (by omega) (by omega) (by omega)]
      exact h.strike i (by omega) hz
theorem addE_seR {m m1 : mj_M} {E : zE} {r : Nat → Nat} (h : seR m E) (hk : ∀ j, j < 4 * E.1.1 → m1 104 j = m 104 j) (h0 : mj_I (m1 68 71) = nI (E.1.1 + 1)) (h2 : mj_I (m1 68 72) = mj_I (m 68 72)) (hs : r 0 = 0 → mj_I (m1 104 (4 * E.1.1)) = nI (r 1) ∧ mj_I (m1 104 (4 * E.1.1 + 1)) = nI (r 2) ∧ mj_I (m1 104 (4 * E.1.1 + 2)) = nI (r 3) ∧ mj_I (m1 104 (4 * E.1.1 + 3)) = nI (r 4)) (ht : r 0 = 1 → mj_I (m1 104 (4 * E.1.1)) = -1 ∧ mj_I (m1 104 (4 * E.1.1 + 1)) = nI (r 1)) : seR m1 (addE E r) := by
  refine ⟨h0, by rw [h2]; exact h.kn, fun i hi hz => ?_, fun i hi hz => ?_⟩
  · have hi : i < E.1.1 + 1 := hi
    by_cases c : i = E.1.1
    · subst c
      rw [addE_s] at hz ⊢
      exact hs hz
    · rw [addE_n (by omega)] at hz ⊢
      rw [hk _ (by omega), hk _ (by omega), hk _ (by omega), hk _ (by omega)]
      exact h.see i (by omega) hz
  · have hi : i < E.1.1 + 1 := hi
    by_cases c : i = E.1.1
    · subst c
      rw [addE_s] at hz ⊢
      exact ht hz
    · rw [addE_n (by omega)] at hz ⊢
      rw [hk _ (by omega), hk _ (by omega)]
      exact h.strike i (by omega) hz
theorem addE_WE {T : zT} {E : zE} {r : Nat → Nat} (h : WE T E) (hc : E.1.1 < 24) (hs : r 0 = 0 → 1 ≤ r 1 ∧ r 1 ≤ 40 ∧ r 2 < T 0 5 ∧ r 3 ≤ 999 ∧ r 4 ≤ 1) (ht : r 0 = 1 → r 1 < E.1.1) (hk : r 0 = 0 ∨ r 0 = 1) : WE T (addE E r) := by
  refine ⟨hc, ?_, fun i hi => ?_, fun i hi hz => ?_, fun i hi hz => ?_⟩
  · rcases h.kn with z | ⟨k, h1, h2⟩
    · exact Or.inl z
    · exact Or.inr ⟨k, by show k ≤ E.1.1 + 1; omega, h2⟩
  all_goals have hi : i < E.1.1 + 1 := hi
  all_goals by_cases c : i = E.1.1
  · subst c; rw [addE_s]; exact hk
  · rw [addE_n (by omega)]; exact h.kind i (by omega)
  · subst c; rw [addE_s] at hz ⊢; exact hs hz
  · rw [addE_n (by omega)] at hz ⊢; exact h.see i (by omega) hz
  · subst c; rw [addE_s] at hz ⊢; exact ht hz
  · rw [addE_n (by omega)] at hz ⊢; exact h.strike i (by omega) hz
theorem noted_e {M : mj_M} {E : zE} {v1 v2 v3 v4 : Int32} (h : seR M E) (hc : E.1.1 < 24) : md_noted v1 v2 v3 v4 M = some (nI E.1.1, mj_up (mj_up (mj_up (mj_up (mj_up M 104 (4 * E.1.1) (.int v1)) 104 (4 * E.1.1 + 1) (.int v2)) 104 (4 * E.1.1 + 2) (.int v3)) 104 (4 * E.1.1 + 3) (.int v4)) 68 71 (.int (nI (E.1.1 + 1)))) := by
  have e4 : (4 : Int32) * nI E.1.1 = nI (4 * E.1.1) := by rw [show (4 : Int32) = nI 4 from rfl, pk_mul]
  have e1 : nI (4 * E.1.1) + 1 = nI (4 * E.1.1 + 1) := nI_add _ 1
  have e2 : nI (4 * E.1.1) + 2 = nI (4 * E.1.1 + 2) := nI_add _ 2
  have e3 : nI (4 * E.1.1) + 3 = nI (4 * E.1.1 + 3) := nI_add _ 3
  have es : nI E.1.1 + 1 = nI (E.1.1 + 1) := nI_add _ 1
  have y : ∀ c : Nat, c ≤ 3 → (nI (4 * E.1.1 + c) < 0) = False ∧ (96 ≤ 4 * E.1.1 + c) = False ∧ (nI (4 * E.1.1 + c)).toNatClampNeg = 4 * E.1.1 + c := fun c hc => ⟨eq_false (nI_pos (by omega)), eq_false (by omega), nI_clamp (by omega)⟩
  obtain ⟨y0, y0', y02⟩ := y 0 (by decide)
  rw [Nat.add_zero] at y0 y0' y02
  obtain ⟨y1, y1', y12⟩ := y 1 (by decide)
  obtain ⟨y2, y2', y22⟩ := y 2 (by decide)
  obtain ⟨y3, y3', y32⟩ := y 3 (by decide)
  have r1 : nI (E.1.1 + 1) - 1 = nI E.1.1 := by rw [show (1 : Int32) = nI 1 from rfl, pk_sub (by omega), Nat.add_sub_cancel]
  unfold md_noted
  rw [h.cnt]
  simp only [e4, e1, e2, e3, es, y0, y0', y02, y1, y1', y12, y2, y2', y22, y3, y3', y32, or_self, if_false, r1]
