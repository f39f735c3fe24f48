/-! NUMBERS, BITS, LOOPS (own work) -/
theorem na_and {a b : Nat} : nI a &&& nI b = nI (a &&& b) := by
  apply Int32.toBitVec_inj.mp
  apply BitVec.eq_of_getLsbD_eq
  intro i hi
  simp [nI, hi]
theorem na_or {a b : Nat} : nI a ||| nI b = nI (a ||| b) := by
  apply Int32.toBitVec_inj.mp
  apply BitVec.eq_of_getLsbD_eq
  intro i hi
  simp [nI, hi]
theorem na_not {b : Nat} (hb : b < 2 ^ 31) {a : Nat} (ha : a < 2 ^ 31) : nI a &&& (nI b ^^^ (-1)) = nI (a &&& (2147483647 ^^^ b)) := by
  rw [Int32.xor_neg_one]
  apply Int32.toBitVec_inj.mp
  apply BitVec.eq_of_getLsbD_eq
  intro i hi
  have h : Nat.testBit 2147483647 i = decide (i < 31) := Nat.testBit_two_pow_sub_one 31 i
  simp only [nI, Int32.toBitVec_and, Int32.toBitVec_not, Int32.toBitVec_ofNat', BitVec.getLsbD_and, BitVec.getLsbD_not, BitVec.getLsbD_ofNat, Nat.testBit_and, Nat.testBit_xor, h, hi, decide_true, Bool.true_and]
  by_cases h31 : i < 31
  · simp [h31]
  · have e : a.testBit i = false := Nat.testBit_lt_two_pow (Nat.lt_of_lt_of_le ha (Nat.pow_le_pow_right (by omega) (by omega)))
    simp [e]
theorem na_shl : ∀ {w : Nat}, w < 31 → (1 : Int32) <<< (nI w &&& 31) = nI (2 ^ w) := by
  have h : ∀ w : Nat, w < 31 → (1 : Int32) <<< (nI w &&& 31) = nI (2 ^ w) := by decide +kernel
  exact fun {w} => h w
theorem na_smod : ∀ {w : Nat}, w < 31 → (((nI w &&& 31) : Int32).toBitVec.smod 32).toNat = w := by
  have h : ∀ w : Nat, w < 31 → (((nI w &&& 31) : Int32).toBitVec.smod 32).toNat = w := by decide +kernel
  exact fun {w} => h w
theorem na_has {a w : Nat} (ha : a < 2 ^ 31) (hw : w < 31) : ((nI a >>> (nI w &&& 31)) &&& 1) = if a.testBit w then 1 else 0 := by
  rw [pk_shrN ha _ w (na_smod hw), show (1 : Int32) = nI 1 from rfl, na_and, Nat.testBit_eq_decide_div_mod_eq, Nat.and_one_is_mod]
  rcases Nat.mod_two_eq_zero_or_one (a / 2 ^ w) with h | h
  · rw [h]; rfl
  · rw [h]; rfl
theorem na_bp_has {a w : Nat} {m : mj_M} (ha : a < 2 ^ 31) (hw : w < 31) : bp_has (nI a) (nI w) m = if a.testBit w then 1 else 0 := by
  unfold bp_has
  rw [na_has ha hw]
  cases a.testBit w <;> rfl
theorem na_md_isOf {a w : Nat} {m : mj_M} (ha : a < 2 ^ 31) (hw : w < 31) : md_isOf (nI a) (nI w) m = if a.testBit w then 1 else 0 := by
  unfold md_isOf
  rw [na_has ha hw]
  cases a.testBit w <;> rfl
theorem na_set {a w : Nat} (hw : w < 31) : nI a ||| ((1 : Int32) <<< (nI w &&& 31)) = nI (a ||| 2 ^ w) := by
  rw [na_shl hw, na_or]
theorem na_clr {a w : Nat} (ha : a < 2 ^ 31) (hw : w < 31) : nI a &&& (((1 : Int32) <<< (nI w &&& 31)) ^^^ (-1)) = nI (a &&& (2147483647 ^^^ 2 ^ w)) := by
  rw [na_shl hw, na_not (Nat.pow_lt_pow_right (by omega) hw) ha]
theorem na_set_bit (a w i : Nat) : (a ||| 2 ^ w).testBit i = (a.testBit i || decide (w = i)) := by
  rw [Nat.testBit_or, Nat.testBit_two_pow]
theorem na_dif_bit (a b i : Nat) (hi : i < 31) : (a &&& (2147483647 ^^^ b)).testBit i = (a.testBit i && !b.testBit i) := by
  have h : Nat.testBit 2147483647 i = decide (i < 31) := Nat.testBit_two_pow_sub_one 31 i
  simp [Nat.testBit_and, Nat.testBit_xor, h, hi]
theorem na_clr_bit (a w i : Nat) (hi : i < 31) : (a &&& (2147483647 ^^^ 2 ^ w)).testBit i = (a.testBit i && !decide (w = i)) := by
  rw [na_dif_bit a _ i hi, Nat.testBit_two_pow]
theorem na_dif_le (a b : Nat) : a &&& b ≤ a := Nat.and_le_left
theorem na_or_lt {a w k : Nat} (ha : a < 2 ^ k) (hw : w < k) : a ||| 2 ^ w < 2 ^ k := Nat.or_lt_two_pow ha (Nat.pow_lt_pow_right (by omega) hw)
theorem na_neg {n : Nat} (h : n < 2 ^ 31) : ¬ nI n = -1 := by
  intro e
  have h1 := nI_toInt h
  rw [e] at h1
  have : ((-1 : Int32)).toInt = -1 := rfl
  omega
theorem na_ofN {x : Int32} {n : Nat} (hn : n < 2 ^ 31) (h1 : 0 ≤ x) (h2 : x ≤ nI n) : ∃ j : Nat, j ≤ n ∧ x = nI j := nI_of2 (nI_toInt hn) (fun h => by rw [Int32.lt_iff_toInt_lt] at h; rw [Int32.le_iff_toInt_le] at h1; omega) h2
theorem bm64 {p : Int} (h1 : -9223372036854775808 ≤ p) (h2 : p < 9223372036854775808) : p.bmod (2 ^ 64) = p := Int.bmod_eq_of_le (by omega) (by omega)
theorem bm32 {p : Int} (h1 : -2147483648 ≤ p) (h2 : p < 2147483648) : p.bmod (2 ^ 32) = p := Int.bmod_eq_of_le (by omega) (by omega)
/-! loops -/
theorem lp_eq {σ : Type} {body : σ → Option (Nat × σ)} (f : Nat → σ) {t : Nat} {r : σ} (n : Nat) (hn : n < mj_F) (hs : ∀ i, i < n → body (f i) = some (0, f (i + 1))) (hq : body (f n) = some (t + 1, r)) : mj_loop body mj_F (f 0) = some (t, r) := by
  have key : ∀ k i, i + k = n → ∀ F, k < F → mj_loop body F (f i) = some (t, r) := by
    intro k
    induction k with
    | zero =>
      intro i hi F hF
      obtain ⟨F, rfl⟩ : ∃ j, F = j + 1 := ⟨F - 1, by omega⟩
      have e : i = n := by omega
      subst e
      unfold mj_loop
      rw [hq]
    | succ k ih =>
      intro i hi F hF
      obtain ⟨F, rfl⟩ : ∃ j, F = j + 1 := ⟨F - 1, by omega⟩
      unfold mj_loop
      rw [hs i (by omega)]
      exact ih (i + 1) (by omega) F (by omega)
  exact key n 0 (by omega) mj_F hn
theorem lp_ex {σ : Type} {body : σ → Option (Nat × σ)} (Inv : Nat → σ → Prop) (Q : Nat → σ → Prop) {s : σ} (n : Nat) (hn : n < mj_F) (h0 : Inv 0 s) (hs : ∀ i s, i < n → Inv i s → (∃ s1, body s = some (0, s1) ∧ Inv (i + 1) s1) ∨ (∃ t s1, body s = some (t + 1, s1) ∧ Q t s1)) (hq : ∀ s, Inv n s → ∃ t s1, body s = some (t + 1, s1) ∧ Q t s1) : ∃ t s1, mj_loop body mj_F s = some (t, s1) ∧ Q t s1 := by
  refine mj_loop_to (Inv := fun k s => ∃ i, i + k = n ∧ Inv i s) (fun k s h => ?_) mj_F n s hn ⟨0, by omega, h0⟩
  obtain ⟨i, hi, hI⟩ := h
  by_cases h : i < n
  · rcases hs i s h hI with ⟨s1, h1, h2⟩ | h1
    · exact Or.inl ⟨s1, k - 1, h1, by omega, i + 1, by omega, h2⟩
    · exact Or.inr h1
  · have e : i = n := by omega
    subst e
    exact Or.inr (hq s hI)
theorem lp_up {σ : Type} {body : σ → Option (Nat × σ)} (Inv : Nat → σ → Prop) (Q : Nat → σ → Prop) {s : σ} (n : Nat) (hn : n < mj_F) (h0 : Inv 0 s) (hs : ∀ i s, i < n → Inv i s → ∃ s1, body s = some (0, s1) ∧ Inv (i + 1) s1) (hq : ∀ s, Inv n s → ∃ t s1, body s = some (t + 1, s1) ∧ Q t s1) : ∃ t s1, mj_loop body mj_F s = some (t, s1) ∧ Q t s1 := lp_ex Inv Q n hn h0 (fun i s hi h => Or.inl (hs i s hi h)) hq
/-! rows read and written, with nI -/
theorem na_at {m : mj_M} {k p : Nat} (hz : mj_siz k ≤ 5000) (hp : p < mj_siz k) : fx_at m k (nI p) = mj_I (m k p) := fx_at_in hz hp
theorem na_put {m : mj_M} {k p : Nat} {v : Int32} (hz : mj_siz k ≤ 5000) (hp : p < mj_siz k) : fx_put m k (nI p) v = mj_up m k p (.int v) := fx_put_in hz hp
theorem na_atN {m : mj_M} {k : Nat} : fx_at m k (-1) = 0 := rfl
theorem na_up {m : mj_M} {a i k j : Nat} {v : Value} : mj_up m a i v k j = if k = a ∧ j = i then v else m k j := rfl
theorem na_upS {m : mj_M} {a i : Nat} {v : Value} : mj_up m a i v a i = v := if_pos ⟨rfl, rfl⟩
theorem na_upN {m : mj_M} {a i k j : Nat} {v : Value} (h : ¬ (k = a ∧ j = i)) : mj_up m a i v k j = m k j := if_neg h
theorem na_atU {m : mj_M} {a i k : Nat} {v : Value} {p : Int32} (h : k ≠ a) : fx_at (mj_up m a i v) k p = fx_at m k p := by
  unfold fx_at
  rw [fr_up h]
theorem na_fill {m : mj_M} {a k j : Nat} {v : Int32} : fx_fill m a v k j = if k = a ∧ j < mj_siz a then .int v else m k j := rfl
theorem na_copy {m : mj_M} {a b k j : Nat} : fx_copy m a b k j = if k = b ∧ j < mj_siz a ∧ j < mj_siz b then .int (mj_I (m a j)) else m k j := rfl
theorem na_half {m : mj_M} {a k j n : Nat} (hn : n < 2 ^ 31) : fx_half m a (nI n) k j = if k = a ∧ j < n then .int (mj_I (m a (n + j))) else m k j := by
  unfold fx_half fx_fl
  rw [nI_clamp hn]
