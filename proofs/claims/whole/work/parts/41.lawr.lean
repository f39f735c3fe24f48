/-! A LAW, ON THE REFERENCE'S SIDE (own work) -/
def lwk (g : Nat) : Nat := if g = 12 then 3 else if g = 13 then 4 else g - 23
def knR (m : mj_M) (c k : Nat) (s : List Nat) : Prop :=
  (c < 10000 → mj_I (m 86 k) = 0 ∧ mj_I (m 87 k) = nI c) ∧
  (10000 ≤ c → c < 20000 → mj_I (m 86 k) = 1 ∧ mj_I (m 87 k) = nI (c - 10000)) ∧
  (c = 20011 → mj_I (m 86 k) = 2 ∧ mj_I (m 87 k) = nI (s.headD 0)) ∧
  (∀ g, c = 20000 + g → gOk g → mj_I (m 86 k) = nI (lwk g) ∧ mj_I (m 87 k) = nI (s.tail.headD 0) ∧ mj_I (m 88 k) = nI (s.headD 0))
def LR (m : mj_M) (T : zT) : Prop := ∀ l, l < 3 → (T 12 l = T 13 l → mj_I (m 83 l) = 0) ∧ (T 12 l < T 13 l → mj_I (m 83 l) = 1 ∧ mj_I (m 84 l) = nI (T 12 l) ∧ mj_I (m 85 l) = nI (T 13 l) ∧ ∀ i, i < T 13 l - T 12 l → knR m (T 11 (T 12 l + i)) (T 12 l + i) (stk (T 11) (T 12 l) i))
def restN (c : Nat) (st : List Nat) : List Nat := if c < 20000 then st else if c = 20011 then st.tail else st.tail.tail
theorem stk_succ {f : Nat → Nat} {a n : Nat} : stk f a (n + 1) = (a + n) :: restN (f (a + n)) (stk f a n) := by
  show (if f (a + n) < 20000 then (a + n) :: stk f a n else if f (a + n) = 20011 then (a + n) :: (stk f a n).tail else (a + n) :: (stk f a n).tail.tail) = _
  unfold restN
  split
  · rfl
  · split <;> rfl
theorem restN_mem {c : Nat} {st : List Nat} {j : Nat} (h : j ∈ restN c st) : j ∈ st := by
  unfold restN at h
  split at h
  · exact h
  · split at h
    · exact List.mem_of_mem_tail h
    · exact List.mem_of_mem_tail (List.mem_of_mem_tail h)
theorem stk_mem {f : Nat → Nat} {a : Nat} : ∀ n j, j ∈ stk f a n → a ≤ j ∧ j < a + n := by
  intro n
  induction n with
  | zero => intro j h; cases h
  | succ n ih =>
    intro j h
    rw [stk_succ] at h
    rcases List.mem_cons.mp h with rfl | h
    · omega
    · have := ih j (restN_mem h)
      omega
def er (m : mj_M) (v : Int32) : mj_M := mj_up m 68 50 (.int v)
/-- all but the sign of an error stays -/
def frE (m m1 : mj_M) : Prop := ∀ a b, ¬ (a = 68 ∧ b = 50) → m1 a b = m a b
theorem frE_er {m : mj_M} {v : Int32} : frE m (er m v) := fun a b h => na_upN h
theorem frE_rfl {m : mj_M} : frE m m := fun _ _ _ => rfl
theorem md_bounded_e {v : Int64} {m : mj_M} (he : mj_I (m 68 50) = 0 ∨ mj_I (m 68 50) = 1) : md_bounded v m = if mj_I (m 68 50) = 0 ∧ ¬ (zM < v.toInt ∨ v.toInt < -zM) then some (v, er m 0) else some (0, er m 1) := by
  unfold md_bounded md_bounded_j24 md_bounded_j29 er
  rcases he with he | he
  · rw [he, if_pos (show (0 : Int32) = 0 from rfl)]
    simp only [lgc_pos, lgc_ge, lM, lMn]
    by_cases h1 : zM < v.toInt
    · simp [h1]
    · by_cases h2 : v.toInt < -zM
      · have h3 : ¬ -zM ≤ v.toInt := by omega
        simp [h1, h2, h3]
      · have h3 : -zM ≤ v.toInt := by omega
        simp [h1, h2, h3]
  · rw [he]
    simp
theorem md_times_e {a b : Int64} {m : mj_M} (he : mj_I (m 68 50) = 0 ∨ mj_I (m 68 50) = 1) (hi : mj_I (m 68 50) = 0 → inM a ∧ inM b) : md_times a b m = if mj_I (m 68 50) = 0 ∧ ¬ (zM < a.toInt * b.toInt ∨ a.toInt * b.toInt < -zM) then some (a * b, er m 0) else some (0, er m 1) := by
  have j0 : md_times_j49 a b 0 m = if mj_I (m 68 50) = 0 then some (a * b, er m 0) else some (0, er m 1) := by
    unfold md_times_j49 md_times_j64 md_times_j69 er
    rcases he with he | he <;> rw [he] <;> simp
  have j1 : md_times_j49 a b 1 m = some (0, er m 1) := by
    unfold md_times_j49 md_times_j64 md_times_j69 er
    rcases he with he | he <;> rw [he] <;> simp
  have zz : ∀ x y : Int64, x = 0 ∨ y = 0 → ¬ (zM < x.toInt * y.toInt ∨ x.toInt * y.toInt < -zM) := by
    intro x y h
    have e : x.toInt * y.toInt = 0 := by
      rcases h with h | h
      · rw [h, lZ, Int.zero_mul]
      · rw [h, lZ, Int.mul_zero]
    rw [e]
    decide
  have e48 : md_times_j48 a b m = md_times_j49 a b 0 m := rfl
  unfold md_times
  by_cases ha0 : a = 0
  · rw [if_pos (lgc_eq.mpr ha0), e48, j0]
    have := zz a b (Or.inl ha0)
    simp [this]
  have qa : ¬ lg_cmp a 0 = 0 := fun q => ha0 (lgc_eq.mp q)
  rw [if_neg qa]
  by_cases hb0 : b = 0
  · rw [if_pos (lgc_eq.mpr hb0), e48, j0]
    have := zz a b (Or.inr hb0)
    simp [this]
  have qb : ¬ lg_cmp b 0 = 0 := fun q => hb0 (lgc_eq.mp q)
  rw [if_neg qb]
  have na0 : ¬ (0 - a : Int64) = 0 := by
    intro h
    apply ha0
    have h2 : (0 - a) + a = 0 + a := by rw [h]
    rw [Int64.sub_add_cancel, Int64.zero_add] at h2
    exact h2.symm
  have key : ∀ s0 s2 : Int64, s2 ≠ 0 → md_times_j39 a b s0 1000000000000 s2 m = if lg_cmp s0 (1000000000000 / s2) ≤ 0 then md_times_j49 a b 0 m else some (0, er m 1) := by
    intro s0 s2 h2
    unfold md_times_j39
    rw [if_neg h2, e48, j1]
  have key2 : ∀ s0 : Int64, md_times_j24 a b s0 m = if lg_cmp s0 (1000000000000 / (if 0 ≤ lg_cmp a 0 then a else 0 - a)) ≤ 0 then md_times_j49 a b 0 m else some (0, er m 1) := by
    intro s0
    unfold md_times_j24
    by_cases c : 0 ≤ lg_cmp a 0
    · rw [if_pos c, if_pos c, key _ _ ha0]
    · rw [if_neg c, if_neg c, key _ _ na0]
  have key3 : (if 0 ≤ lg_cmp b 0 then md_times_j24 a b b m else md_times_j24 a b (0 - b) m) = md_times_j24 a b (if 0 ≤ lg_cmp b 0 then b else 0 - b) m := by
    by_cases c : 0 ≤ lg_cmp b 0
    · rw [if_pos c, if_pos c]
    · rw [if_neg c, if_neg c]
  rw [key3, key2, j0]
  rcases he with he | he
  · obtain ⟨hia, hib⟩ := hi he
    rw [absN hia, absN hib, he]
    have hm := mul_le hib hia ha0
    rw [Int.mul_comm b.toInt a.toInt] at hm
    simp only [hm, true_and]
    by_cases c : zM < a.toInt * b.toInt ∨ a.toInt * b.toInt < -zM
    · simp [c]
    · simp [c]
  · rw [he]
    simp
theorem md_compares_e {g : Nat} (h1 : 28 ≤ g) (h2 : g ≤ 33) {a b : Int64} {m : mj_M} : md_compares (nI (g - 23)) a b m = if sHolds g a b = true then 1 else 0 := by
  have z : ∀ x y : Int64, (x < y ↔ x.toInt < y.toInt) := fun x y => Int64.lt_iff_toInt_lt
  have z2 : ∀ x y : Int64, (x ≤ y ↔ x.toInt ≤ y.toInt) := fun x y => Int64.le_iff_toInt_le
  rcases (show g = 28 ∨ g = 29 ∨ g = 30 ∨ g = 31 ∨ g = 32 ∨ g = 33 by omega) with rfl | rfl | rfl | rfl | rfl | rfl
  · show (if 0 ≤ lg_cmp a b then (0 : Int32) else 1) = if decide (a < b) = true then 1 else 0
    simp only [lgc_ge, decide_eq_true_eq, z]
    split <;> split <;> first | rfl | omega
  · show (if 0 < lg_cmp a b then (0 : Int32) else 1) = if decide (a ≤ b) = true then 1 else 0
    simp only [lgc_pos, decide_eq_true_eq, z2]
    split <;> split <;> first | rfl | omega
  · show (if lg_cmp a b = 0 then (1 : Int32) else 0) = if decide (a = b) = true then 1 else 0
    simp only [lgc_eq, decide_eq_true_eq]
  · show (if lg_cmp a b = 0 then (0 : Int32) else 1) = if decide (a ≠ b) = true then 1 else 0
    simp only [lgc_eq, decide_eq_true_eq]
    by_cases c : a = b <;> simp [c]
  · show (if lg_cmp a b < 0 then (0 : Int32) else 1) = if decide (b ≤ a) = true then 1 else 0
    simp only [lgc_lt, decide_eq_true_eq, z2]
    split <;> split <;> first | rfl | omega
  · show (if lg_cmp a b ≤ 0 then (0 : Int32) else 1) = if decide (b < a) = true then 1 else 0
    simp only [lgc_le, decide_eq_true_eq, z]
    split <;> split <;> first | rfl | omega
