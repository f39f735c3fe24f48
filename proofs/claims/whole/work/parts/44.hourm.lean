/-! AN HOUR: plain facts of the picture (own work) -/
theorem sWk_succ {T : zT} {S : zS} {beat i : Nat} : sWk T S beat (i + 1) = if sOn T S beat i = true then sWk1 T S beat i (sWk T S beat i) else sWk T S beat i := rfl
theorem sWk_row {T : zT} {S : zS} {beat a b : Nat} (h : a ≠ 3) : ∀ i, (sWk T S beat i).1.1 a b = S.1 a b := by
  intro i
  induction i with
  | zero => rfl
  | succ i ih =>
    rw [sWk_succ]
    split
    · show u2 (sWk T S beat i).1.1 3 i _ a b = _
      rw [u2_r h, ih]
    · exact ih
theorem sWk_left {T : zT} {S : zS} {beat b : Nat} : ∀ i, (sWk T S beat i).1.1 3 b = if b < i ∧ sOn T S beat b = true then S.1 3 b - beat else S.1 3 b := by
  intro i
  induction i with
  | zero => rw [if_neg (fun z => absurd z.1 (Nat.not_lt_zero b))]; rfl
  | succ i ih =>
    rw [sWk_succ]
    by_cases hb : b = i
    · subst hb
      by_cases ho : sOn T S beat b = true
      · rw [if_pos ho, if_pos ⟨by omega, ho⟩]
        show u2 (sWk T S beat b).1.1 3 b _ 3 b = _
        rw [u2_s]
      · rw [if_neg ho, if_neg (fun z => ho z.2), ih, if_neg (fun z => ho z.2)]
    · have e : (b < i + 1 ∧ sOn T S beat b = true) ↔ (b < i ∧ sOn T S beat b = true) := by
        constructor
        · intro z; exact ⟨by omega, z.2⟩
        · intro z; exact ⟨by omega, z.2⟩
      simp only [e]
      rw [← ih]
      split
      · show u2 (sWk T S beat i).1.1 3 i _ 3 b = _
        rw [u2_n (fun z => hb z.2)]
      · rfl
theorem sWk_r2 {T : zT} {S : zS} {beat a b : Nat} (h1 : a ≠ 1) (h4 : a ≠ 4) : ∀ i, (sWk T S beat i).1.2 a b = S.2 a b := by
  intro i
  induction i with
  | zero => rfl
  | succ i ih =>
    rw [sWk_succ]
    split
    · show (if _ then u2 (u2 (sWk T S beat i).1.2 1 _ _) 4 i _ else u2 (sWk T S beat i).1.2 1 _ _) a b = _
      split
      · rw [u2_r h4, u2_r h1, ih]
      · rw [u2_r h1, ih]
    · exact ih
theorem sWk_bits {T : zT} {S : zS} {beat : Nat} (hw : WT T) : ∀ i, i ≤ T 0 5 → (sWk T S beat i).2.1 < 64 ∧ (sWk T S beat i).2.2 < 64 := by
  intro i
  induction i with
  | zero => intro _; exact ⟨show (0 : Nat) < 64 by decide, show (0 : Nat) < 64 by decide⟩
  | succ i ih =>
    intro hi
    obtain ⟨h1, h2⟩ := ih (by omega)
    have ho : T 6 i < 6 := by
      have := hw.owner i (by omega)
      have := hw.np
      omega
    rw [sWk_succ]
    split
    · refine ⟨?_, na_or_lt (k := 6) h2 ho⟩
      show (if _ then _ else _) < 64
      split
      · exact na_or_lt (k := 6) h1 ho
      · exact h1
    · exact ⟨h1, h2⟩
theorem sBl_le {T : zT} {l : Nat} {N : Nat → Int64} {wo low most : Nat} (h : low ≤ most) (hwo : wo ≤ most) : sBl T l N wo low most ≤ most := by
  unfold sBl
  split
  · exact hwo
  · omega
theorem sBl_ge {T : zT} {l : Nat} {N : Nat → Int64} {wo low most : Nat} (hwo : low ≤ wo) : low ≤ sBl T l N wo low most := by
  unfold sBl
  split
  · exact hwo
  · omega
theorem sSpeed_b {T : zT} {pc : Nat} {S : zS} (hw : WT T) (hp : pc ≤ 199) : 1 ≤ sSpeed T pc S ∧ sSpeed T pc S ≤ 199 := by
  unfold sSpeed
  split
  · omega
  · split
    · omega
    · exact hw.speed _ (Nat.mod_lt _ (by omega))
theorem sBeat_le {T : zT} {pc : Nat} {S : zS} : sBeat T pc S ≤ 199 := by
  unfold sBeat
  split <;> omega
theorem sBt_le {T : zT} {pc mode n : Nat} {S : zS} : (sBt T pc mode S n).1 ≤ 199 := by
  have := @sBeat_le T pc S
  unfold sBt
  dsimp only
  split <;> omega
theorem sNxt_lt {n : Nat} : sNxt n < 2 ^ 31 := Nat.mod_lt _ (by decide)
theorem sBt_n {T : zT} {pc mode n : Nat} {S : zS} (hn : n < 2 ^ 31) : (sBt T pc mode S n).2 < 2 ^ 31 := by
  unfold sBt sWasp
  dsimp only
  split
  · exact hn
  · split
    · exact hn
    · split
      · exact hn
      · exact sNxt_lt
theorem sSlip_le {T : zT} {S : zS} {beat w : Nat} (hb : beat ≤ 199) : sSlip T S beat w ≤ 99 := sBl_le (by omega) (by omega)
theorem sHush_b {T : zT} {S : zS} {beat p : Nat} (ha : T 3 p ≤ 99) : 1 ≤ sHush T S beat p ∧ sHush T S beat p ≤ 9 := ⟨sBl_ge (by omega), sBl_le (by omega) (by omega)⟩
theorem sWear_le {T : zT} {S : zS} {beat : Nat} : sWear T S beat ≤ 99 := sBl_le (by omega) (by omega)
theorem sGv_lt {T : zT} {S : zS} (hw : WT T) : ∀ n, n ≤ T 0 0 → sGv T S n < 64 := by
  intro n
  induction n with
  | zero => intro _; show 0 < 64; omega
  | succ n ih =>
    intro hn
    show (if _ then _ else _) < 64
    split
    · exact ih (by omega)
    · exact Nat.or_lt_two_pow (n := 6) (ih (by omega)) (hw.tied n (by omega))
theorem sGv_bit {T : zT} {S : zS} {p : Nat} : ∀ n, (sGv T S n).testBit p = true ↔ ∃ q, q < n ∧ S.1 2 q ≠ 0 ∧ (T 4 q).testBit p = true := by
  intro n
  induction n with
  | zero => exact ⟨fun h => by simp [sGv] at h, fun ⟨q, h, _⟩ => absurd h (Nat.not_lt_zero q)⟩
  | succ n ih =>
    show (if S.1 2 n = 0 then sGv T S n else sGv T S n ||| T 4 n).testBit p = true ↔ _
    by_cases h0 : S.1 2 n = 0
    · rw [if_pos h0, ih]
      constructor
      · rintro ⟨q, a, b, c⟩; exact ⟨q, by omega, b, c⟩
      · rintro ⟨q, a, b, c⟩
        refine ⟨q, ?_, b, c⟩
        have : q ≠ n := fun e => b (by rw [e]; exact h0)
        omega
    · rw [if_neg h0, Nat.testBit_or, Bool.or_eq_true, ih]
      constructor
      · rintro (⟨q, a, b, c⟩ | h)
        · exact ⟨q, by omega, b, c⟩
        · exact ⟨n, by omega, h0, h⟩
      · rintro ⟨q, a, b, c⟩
        by_cases e : q = n
        · subst e; exact Or.inr c
        · exact Or.inl ⟨q, by omega, b, c⟩
theorem sSp_2 {T : zT} {S : zS} {beat p : Nat} : (sSp T S beat).1 2 p = if S.1 2 p = 0 then (if S.1 5 p = 1 ∧ (sGv T S (T 0 0)).testBit p = true then sHush T S beat p else 0) else S.1 2 p - 1 := rfl
theorem sSp_o {T : zT} {S : zS} {beat a p : Nat} (h : a ≠ 2) : (sSp T S beat).1 a p = S.1 a p := if_neg h
/-- what holds of a state holds an HOUR later -/
theorem sHr_WS {T : zT} {H beat : Nat} {S : zS} (hw : WT T) (h : WS T H S) : WS T (H + 1) (sHr T S beat) := by
  have e1 : ∀ a b, a ≠ 0 → (sHr T S beat).1 a b = (sSp T (sWk T S beat (T 0 5)).1 beat).1 a b := fun a b ha => by
    show u2 (u2 _ 0 1 _) 0 0 _ a b = _
    rw [u2_r ha, u2_r ha]
  have e2 : ∀ a b, a ≠ 2 → (sSp T (sWk T S beat (T 0 5)).1 beat).1 a b = (sWk T S beat (T 0 5)).1.1 a b := fun a b ha => if_neg ha
  have e00 : (sHr T S beat).1 0 0 = S.1 0 0 + 1 := by
    show (sSp T (sWk T S beat (T 0 5)).1 beat).1 0 0 + 1 = _
    rw [e2 _ _ (by decide), sWk_row (by decide)]
  have e01 : (sHr T S beat).1 0 1 ≤ S.1 0 1 := by
    show (sSp T (sWk T S beat (T 0 5)).1 beat).1 0 1 - _ ≤ _
    rw [e2 _ _ (by decide), sWk_row (by decide)]
    omega
  refine ⟨?_, ?_, ?_, ?_, ?_, ?_⟩
  · have := h.hour; omega
  · have := h.coil; omega
  · show -99 ≤ ((sWk T S beat (T 0 5)).1.2 0 2).toInt ∧ ((sWk T S beat (T 0 5)).1.2 0 2).toInt ≤ 99
    rw [sWk_r2 (by decide) (by decide)]
    exact h.shift
  · intro p hp
    rw [e1 _ _ (by decide), e2 _ _ (by decide), sWk_row (by decide)]
    exact h.here p hp
  · intro p hp
    rw [e1 _ _ (by decide)]
    rw [sSp_2, sWk_row (by decide)]
    have := h.hic p hp
    split
    · split
      · exact (sHush_b (hw.aged p hp)).2
      · omega
    · omega
  · intro w hw'
    rw [e1 _ _ (by decide), e2 _ _ (by decide), sWk_left]
    have := h.left w hw'
    split <;> omega
