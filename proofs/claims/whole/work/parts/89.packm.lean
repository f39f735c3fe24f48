/-! PACK, 1: the picture (own work) -/
/-- PACK: one set more, its last work w -/
def zkC (L : Nat → Nat) (beats : Nat) (tab : Nat → Nat) (x w : Nat) : Nat :=
  if 0 < tab (x &&& (2147483647 ^^^ 2 ^ w)) ∧ tab (x &&& (2147483647 ^^^ 2 ^ w)) % 10000 + L w ≤ beats then tab (x &&& (2147483647 ^^^ 2 ^ w)) + L w
  else (tab (x &&& (2147483647 ^^^ 2 ^ w)) / 10000 + 1) * 10000 + L w
def zkM (a : Option Nat) (c : Nat) : Option Nat := match a with
  | none => some c
  | some b => some (min b c)
def zkB (L : Nat → Nat) (beats : Nat) (tab : Nat → Nat) (x : Nat) : Nat → Option Nat
  | 0 => none
  | w + 1 => if x.testBit w = true then zkM (zkB L beats tab x w) (zkC L beats tab x w) else zkB L beats tab x w
def zkT (L : Nat → Nat) (beats nw : Nat) : Nat → Nat → Nat
  | 0 => fun _ => 0
  | x + 1 => fun y => if y = x then (zkB L beats (zkT L beats nw x) x nw).getD 0 else zkT L beats nw x y
def zkP (L : Nat → Nat) (beats nw y : Nat) : Nat := zkT L beats nw (y + 1) y
section PACKM
variable {L : Nat → Nat} {beats nw : Nat}
theorem zkT_s {x y : Nat} : zkT L beats nw (x + 1) y = if y = x then (zkB L beats (zkT L beats nw x) x nw).getD 0 else zkT L beats nw x y := rfl
theorem zk_tab {x y : Nat} (h : y < x) : zkT L beats nw x y = zkP L beats nw y := by
  induction x with
  | zero => omega
  | succ x ih =>
    by_cases c : y = x
    · rw [c]; rfl
    · show (if y = x then _ else zkT L beats nw x y) = _
      rw [if_neg c]
      exact ih (by omega)
theorem zk_clr_lt {x w : Nat} (hw : w < 31) (h : x.testBit w = true) : x &&& (2147483647 ^^^ 2 ^ w) < x := by
  have h1 : x &&& (2147483647 ^^^ 2 ^ w) ≤ x := Nat.and_le_left
  have h2 : x &&& (2147483647 ^^^ 2 ^ w) ≠ x := by
    intro e
    have := na_clr_bit x w w hw
    rw [e, h] at this
    simp at this
  omega
theorem zkB_congr {tab tab2 : Nat → Nat} {x : Nat} : ∀ {k : Nat}, k < 32 → (∀ y, y < x → tab y = tab2 y) → zkB L beats tab x k = zkB L beats tab2 x k := by
  intro k
  induction k with
  | zero => intro _ _; rfl
  | succ k ih =>
    intro hk h
    unfold zkB
    rw [ih (by omega) h]
    by_cases c : x.testBit k = true
    · rw [if_pos c, if_pos c]
      have e : zkC L beats tab x k = zkC L beats tab2 x k := by
        unfold zkC
        rw [h _ (zk_clr_lt (by omega) c)]
      rw [e]
    · rw [if_neg c, if_neg c]
theorem zkP_e {y : Nat} (hn : nw < 32) : zkP L beats nw y = (zkB L beats (zkP L beats nw) y nw).getD 0 := by
  unfold zkP
  show (if y = y then (zkB L beats (zkT L beats nw y) y nw).getD 0 else _) = _
  rw [if_pos rfl]
  exact congrArg (fun o => Option.getD o 0) (zkB_congr (L := L) (beats := beats) (x := y) hn (fun z hz => zk_tab hz))
theorem zk_0 : zkP L beats nw 0 = 0 := by
  have e1 : zkP L beats nw 0 = (zkB L beats (zkT L beats nw 0) 0 nw).getD 0 := (zkT_s (x := 0) (y := 0)).trans (if_pos rfl)
  rw [e1]
  have e : ∀ k, zkB L beats (zkT L beats nw 0) 0 k = none := by
    intro k
    induction k with
    | zero => rfl
    | succ k ih =>
      unfold zkB
      rw [Nat.zero_testBit, if_neg (by decide), ih]
  rw [e]
  rfl
/-- every candidate is at least a DAY -/
theorem zkC_ge {tab : Nat → Nat} {x w : Nat} (h : ∀ y, y < x → 0 < tab y → 10000 ≤ tab y) (hw : w < 31) (hb : x.testBit w = true) : 10000 ≤ zkC L beats tab x w := by
  unfold zkC
  split
  · rename_i c
    have := h _ (zk_clr_lt hw hb) c.1
    omega
  · omega
theorem zkB_some {tab : Nat → Nat} {x w : Nat} : ∀ {k : Nat}, w < k → x.testBit w = true → ∃ a, zkB L beats tab x k = some a ∧ a ≤ zkC L beats tab x w := by
  intro k
  induction k with
  | zero => intro h; omega
  | succ k ih =>
    intro h hb
    unfold zkB
    by_cases c : w = k
    · subst c
      rw [if_pos hb]
      cases zkB L beats tab x w with
      | none => exact ⟨_, rfl, Nat.le_refl _⟩
      | some b => exact ⟨_, rfl, Nat.min_le_right _ _⟩
    · obtain ⟨a, e, l⟩ := ih (by omega) hb
      rw [e]
      by_cases d : x.testBit k = true
      · rw [if_pos d]; exact ⟨_, rfl, Nat.le_trans (Nat.min_le_left _ _) l⟩
      · rw [if_neg d]; exact ⟨a, rfl, l⟩
/-- what is best is one of the candidates -/
theorem zkB_is {tab : Nat → Nat} {x : Nat} : ∀ {k a : Nat}, zkB L beats tab x k = some a → ∃ w, w < k ∧ x.testBit w = true ∧ a = zkC L beats tab x w := by
  intro k
  induction k with
  | zero => intro a h; exact absurd h (by unfold zkB; simp)
  | succ k ih =>
    intro a h
    unfold zkB at h
    by_cases d : x.testBit k = true
    · rw [if_pos d] at h
      cases e : zkB L beats tab x k with
      | none =>
        rw [e] at h
        exact ⟨k, by omega, d, (Option.some.inj h).symm⟩
      | some b =>
        rw [e] at h
        have h : min b (zkC L beats tab x k) = a := Option.some.inj h
        rcases Nat.le_total b (zkC L beats tab x k) with c | c
        · rw [Nat.min_eq_left c] at h
          obtain ⟨w, w1, w2, w3⟩ := ih e
          exact ⟨w, by omega, w2, by rw [← h]; exact w3⟩
        · rw [Nat.min_eq_right c] at h
          exact ⟨k, by omega, d, h.symm⟩
    · rw [if_neg d] at h
      obtain ⟨w, w1, w2, w3⟩ := ih h
      exact ⟨w, by omega, w2, w3⟩
theorem zk_ge (hn : nw < 31) : ∀ y, 0 < zkP L beats nw y → 10000 ≤ zkP L beats nw y := by
  intro y
  induction y using Nat.strongRecOn with
  | ind y ih =>
    intro h
    rw [zkP_e (by omega)] at h ⊢
    cases e : zkB L beats (zkP L beats nw) y nw with
    | none => rw [e] at h; exact absurd h (by decide)
    | some a =>
      obtain ⟨w, w1, w2, w3⟩ := zkB_is e
      show 10000 ≤ a
      rw [w3]
      exact zkC_ge ih (by omega) w2
theorem zk_pos (hn : nw < 31) {y : Nat} (h0 : 0 < y) (hy : y < 2 ^ nw) : 10000 ≤ zkP L beats nw y := by
  obtain ⟨w, hw⟩ : ∃ w, y.testBit w = true := Nat.exists_testBit_of_ne_zero (by omega)
  have hwn : w < nw := by
    apply Nat.lt_of_not_le
    intro z
    rw [Nat.testBit_lt_two_pow (Nat.lt_of_lt_of_le hy (Nat.pow_le_pow_right (by omega) z))] at hw
    exact absurd hw (by decide)
  obtain ⟨a, e, l⟩ := zkB_some (L := L) (beats := beats) (tab := zkP L beats nw) hwn hw
  obtain ⟨w2, b1, b2, b3⟩ := zkB_is e
  rw [zkP_e (by omega), e]
  show 10000 ≤ a
  rw [b3]
  exact zkC_ge (fun y _ h => zk_ge hn y h) (by omega) b2
theorem zkC_days {tab : Nat → Nat} {x w : Nat} (hL : L w ≤ 999) (hb : beats ≤ 9999) : zkC L beats tab x w / 10000 ≤ tab (x &&& (2147483647 ^^^ 2 ^ w)) / 10000 + 1 := by
  unfold zkC
  split
  · omega
  · omega
theorem zk_days (hn : nw < 31) (hL : ∀ w, w < nw → L w ≤ 999) (hb : beats ≤ 9999) : ∀ k, k ≤ nw → ∀ y, y < 2 ^ k → zkP L beats nw y / 10000 ≤ k := by
  intro k
  induction k with
  | zero =>
    intro _ y hy
    have : y = 0 := by simp at hy; exact hy
    rw [this, zk_0]
    omega
  | succ k ih =>
    intro hk y hy
    by_cases c : y < 2 ^ k
    · have := ih (by omega) y c
      omega
    · have hbit : y.testBit k = true := by
        rw [Nat.testBit_eq_decide_div_mod_eq]
        have h2 : 2 ^ (k + 1) = 2 * 2 ^ k := by rw [Nat.pow_succ]; omega
        have : y / 2 ^ k = 1 := by
          apply Nat.div_eq_of_lt_le <;> omega
        rw [this]
        rfl
      have hr : y &&& (2147483647 ^^^ 2 ^ k) < 2 ^ k := by
        apply Nat.lt_pow_two_of_testBit
        intro i hi
        by_cases d : i = k
        · rw [d, na_clr_bit _ _ _ (by omega)]; simp
        · rw [Nat.testBit_and, Nat.testBit_lt_two_pow (x := y) (i := i) (Nat.lt_of_lt_of_le hy (Nat.pow_le_pow_right (by omega) (by omega)))]
          rfl
      obtain ⟨a, e, l⟩ := zkB_some (L := L) (beats := beats) (tab := zkP L beats nw) (show k < nw by omega) hbit
      have h1 := ih (by omega) _ hr
      have h2 := zkC_days (L := L) (beats := beats) (tab := zkP L beats nw) (x := y) (w := k) (hL k (by omega)) hb
      rw [zkP_e (by omega), e]
      show a / 10000 ≤ k + 1
      have h3 : a / 10000 ≤ zkC L beats (zkP L beats nw) y k / 10000 := Nat.div_le_div_right l
      omega
end PACKM
