/-! TOKENS, 1: the picture (own work) -/
/-- where a run of signs ends -/
def rEf (P : Nat → Bool) (n : Nat) : Nat → Nat → Nat
  | 0, p => p
  | k + 1, p => if p < n ∧ P p = true then rEf P n k (p + 1) else p
def rE (P : Nat → Bool) (n p : Nat) : Nat := rEf P n (n - p) p
theorem rE_at {P : Nat → Bool} {n p : Nat} (h : ¬ (p < n ∧ P p = true)) : rE P n p = p := by
  unfold rE
  cases n - p with
  | zero => rfl
  | succ k => exact if_neg h
theorem rE_go {P : Nat → Bool} {n p : Nat} (h : p < n ∧ P p = true) : rE P n p = rE P n (p + 1) := by
  unfold rE
  have : n - p = (n - (p + 1)) + 1 := by omega
  rw [this]
  exact if_pos h
theorem rEf_le {P : Nat → Bool} {n : Nat} : ∀ (k p : Nat), p ≤ n → p ≤ rEf P n k p ∧ rEf P n k p ≤ n := by
  intro k
  induction k with
  | zero => intro p h; exact ⟨Nat.le_refl _, h⟩
  | succ k ih =>
    intro p h
    unfold rEf
    by_cases c : p < n ∧ P p = true
    · rw [if_pos c]
      have := ih (p + 1) c.1
      omega
    · rw [if_neg c]
      omega
theorem rE_le {P : Nat → Bool} {n p : Nat} (h : p ≤ n) : p ≤ rE P n p ∧ rE P n p ≤ n := rEf_le _ p h
theorem rE_gt {P : Nat → Bool} {n p : Nat} (h : p < n ∧ P p = true) : p < rE P n p := by
  rw [rE_go h]
  have := (rE_le (P := P) (n := n) (p := p + 1) h.1).1
  omega
theorem rE_in {P : Nat → Bool} {n : Nat} : ∀ (k p : Nat), n - p = k → p ≤ n → (∀ j, p ≤ j → j < rE P n p → P j = true) ∧ (rE P n p = n ∨ P (rE P n p) = false) := by
  intro k
  induction k with
  | zero =>
    intro p hk hp
    have : p = n := by omega
    rw [rE_at (by omega)]
    exact ⟨fun j h1 h2 => by omega, Or.inl this⟩
  | succ k ih =>
    intro p hk hp
    by_cases c : p < n ∧ P p = true
    · rw [rE_go c]
      obtain ⟨h1, h2⟩ := ih (p + 1) (by omega) c.1
      refine ⟨fun j a b => ?_, h2⟩
      by_cases e : j = p
      · rw [e]; exact c.2
      · exact h1 j (by omega) b
    · rw [rE_at c]
      refine ⟨fun j h1 h2 => by omega, ?_⟩
      by_cases d : p < n
      · right
        cases e : P p with
        | true => exact absurd ⟨d, e⟩ c
        | false => rfl
      · left; omega
def isLt (c : Nat) : Bool := decide (97 ≤ c ∧ c ≤ 122)
def isDg (c : Nat) : Bool := decide (48 ≤ c ∧ c ≤ 57)
def isBl (c : Nat) : Bool := decide (c = 10 ∨ c = 32)
/-- kinds of signs, as the class has them -/
def sK (c d : Nat) : Nat :=
  if c = 40 then 26 else if c = 41 then 27 else if c = 42 then 36 else if c = 43 then 34 else if c = 45 then 35 else if c = 47 then 37 else if c = 59 then 25
  else if c = 60 then (if d = 61 then 29 else if d = 62 then 31 else 28) else if c = 61 then 30 else if c = 62 then (if d = 61 then 32 else 33) else 24
/-- six letters -/
def dig (b : Nat → Nat) (a q i : Nat) : Nat := if a + i < q then b (a + i) - 96 else 0
def cK (d : Nat → Nat) : Nat → Nat
  | 0 => 0
  | k + 1 => cK d k * 32 + d k
def wcN (i : Nat) : Nat := ([437714944, 680689664, 788081664, 654480512, 654910919, 773439488, 642945024, 404455424, 650428416, 777046016, 291086336, 486146048, 48365568, 522190848, 72404992, 203018240, 41062400, 408113152, 68747264, 116699136, 284870656] : List Nat).getD i 0
def idxF (f : Nat → Nat) (w : Nat) : Nat → Nat → Nat
  | 0, i => i
  | k + 1, i => if f i = w then i else idxF f w k (i + 1)
/-- the first of n that is w; n if none is -/
def idx (f : Nat → Nat) (n w : Nat) : Nat := idxF f w n 0
theorem idxF_P {f : Nat → Nat} {w : Nat} : ∀ (k i : Nat), i ≤ idxF f w k i ∧ idxF f w k i ≤ i + k ∧ (idxF f w k i < i + k → f (idxF f w k i) = w) ∧ ∀ j, i ≤ j → j < idxF f w k i → f j ≠ w := by
  intro k
  induction k with
  | zero => intro i; exact ⟨Nat.le_refl _, Nat.le_refl _, fun h => absurd h (Nat.lt_irrefl _), fun j h1 h2 => by have : j < i := h2; omega⟩
  | succ k ih =>
    intro i
    unfold idxF
    by_cases c : f i = w
    · rw [if_pos c]
      exact ⟨Nat.le_refl _, by omega, fun _ => c, fun j h1 h2 => by omega⟩
    · rw [if_neg c]
      obtain ⟨h1, h2, h3, h4⟩ := ih (i + 1)
      refine ⟨by omega, by omega, fun h => h3 (by omega), fun j a b => ?_⟩
      by_cases e : j = i
      · rw [e]; exact c
      · exact h4 j (by omega) b
theorem idx_P {f : Nat → Nat} {n w : Nat} : idx f n w ≤ n ∧ (idx f n w < n → f (idx f n w) = w) ∧ ∀ j, j < idx f n w → f j ≠ w := by
  obtain ⟨_, h2, h3, h4⟩ := idxF_P (f := f) (w := w) n 0
  exact ⟨by unfold idx; omega, fun h => h3 (by unfold idx at h; omega), fun j h => h4 j (by omega) h⟩
theorem idx_u {f : Nat → Nat} {n w i : Nat} (hi : i < n) (h : f i = w) (hj : ∀ j, j < i → f j ≠ w) : idx f n w = i := by
  obtain ⟨h1, h2, h3⟩ := idx_P (f := f) (n := n) (w := w)
  rcases Nat.lt_trichotomy (idx f n w) i with c | c | c
  · exact absurd (h2 (by omega)) (hj _ c)
  · exact c
  · exact absurd h (h3 i c)
theorem idx_n {f : Nat → Nat} {n w : Nat} (hj : ∀ j, j < n → f j ≠ w) : idx f n w = n := by
  obtain ⟨h1, h2, h3⟩ := idx_P (f := f) (n := n) (w := w)
  apply Nat.le_antisymm h1
  apply Nat.le_of_not_lt
  intro c
  exact hj _ c (h2 c)
/-- a number, as the class has it; as the reference has it -/
def nm (b : Nat → Nat) (a : Nat) : Nat → Nat
  | 0 => 0
  | k + 1 => min 1000000 (nm b a k * 10 + b (a + k) - 48)
def rm (b : Nat → Nat) (a : Nat) : Nat → Nat
  | 0 => 0
  | k + 1 => if 99999 < rm b a k then rm b a k else 10 * rm b a k + b (a + k) - 48
theorem nm_le {b : Nat → Nat} {a : Nat} : ∀ k, nm b a k ≤ 1000000 := by
  intro k
  cases k with
  | zero => unfold nm; omega
  | succ k => exact Nat.min_le_left _ _
theorem rm_le {b : Nat → Nat} {a : Nat} : ∀ k, (∀ i, i < k → isDg (b (a + i)) = true) → rm b a k ≤ 999999 := by
  intro k
  induction k with
  | zero => intro _; unfold rm; omega
  | succ k ih =>
    intro h
    have h1 := ih (fun i hi => h i (by omega))
    have h2 := h k (by omega)
    have h2 : 48 ≤ b (a + k) ∧ b (a + k) ≤ 57 := of_decide_eq_true h2
    unfold rm
    split <;> omega
theorem nm_rm {b : Nat → Nat} {a : Nat} : ∀ k, (∀ i, i < k → isDg (b (a + i)) = true) → (nm b a k = rm b a k ∧ rm b a k ≤ 99999) ∨ (99999 < nm b a k ∧ 99999 < rm b a k) := by
  intro k
  induction k with
  | zero => intro _; exact Or.inl ⟨rfl, by unfold rm; omega⟩
  | succ k ih =>
    intro h
    have h2 := h k (by omega)
    have h2 : 48 ≤ b (a + k) ∧ b (a + k) ≤ 57 := of_decide_eq_true h2
    unfold nm rm
    rcases ih (fun i hi => h i (by omega)) with ⟨e1, e2⟩ | ⟨e1, e2⟩
    · rw [if_neg (by omega), e1]
      by_cases c : 10 * rm b a k + b (a + k) - 48 ≤ 99999
      · left
        exact ⟨by rw [Nat.min_eq_right (by omega)]; omega, c⟩
      · right
        refine ⟨?_, by omega⟩
        rw [Nat.min_def]
        split <;> omega
    · right
      rw [if_pos e2]
      refine ⟨?_, e2⟩
      rw [Nat.min_def]
      split <;> omega
def wK (b : Nat → Nat) (a q : Nat) : Nat := if q - a ≤ 6 then idx wcN 21 (cK (dig b a q) 6) else 24
def tkA (b : Nat → Nat) (n p : Nat) : Nat := rE (fun j => isBl (b j)) n p
def nxc (b : Nat → Nat) (n a : Nat) : Nat := if a + 1 < n then b (a + 1) else 0
def sLen (k : Nat) : Nat := if k = 29 ∨ k = 31 ∨ k = 32 then 2 else 1
/-- the token behind a: its kind, its value, where it ends -/
def cut (b : Nat → Nat) (n a : Nat) : Nat × Nat × Nat :=
  if n ≤ a then (23, 0, n)
  else if isLt (b a) = true then (wK b a (rE (fun j => isLt (b j)) n a), cK (dig b a (rE (fun j => isLt (b j)) n a)) 6, rE (fun j => isLt (b j)) n a)
  else if isDg (b a) = true then (22, nm b a (rE (fun j => isDg (b j)) n a - a), rE (fun j => isDg (b j)) n a)
  else (sK (b a) (nxc b n a), 0, a + sLen (sK (b a) (nxc b n a)))
theorem sK_two {c d : Nat} (h : sK c d = 29 ∨ sK c d = 31 ∨ sK c d = 32) : (c = 60 ∨ c = 62) ∧ (d = 61 ∨ d = 62) := by
  unfold sK at h
  by_cases c40 : c = 40
  · rw [if_pos c40] at h; omega
  rw [if_neg c40] at h
  by_cases c41 : c = 41
  · rw [if_pos c41] at h; omega
  rw [if_neg c41] at h
  by_cases c42 : c = 42
  · rw [if_pos c42] at h; omega
  rw [if_neg c42] at h
  by_cases c43 : c = 43
  · rw [if_pos c43] at h; omega
  rw [if_neg c43] at h
  by_cases c45 : c = 45
  · rw [if_pos c45] at h; omega
  rw [if_neg c45] at h
  by_cases c47 : c = 47
  · rw [if_pos c47] at h; omega
  rw [if_neg c47] at h
  by_cases c59 : c = 59
  · rw [if_pos c59] at h; omega
  rw [if_neg c59] at h
  by_cases c60 : c = 60
  · rw [if_pos c60] at h
    by_cases d1 : d = 61
    · exact ⟨Or.inl c60, Or.inl d1⟩
    rw [if_neg d1] at h
    by_cases d2 : d = 62
    · exact ⟨Or.inl c60, Or.inr d2⟩
    rw [if_neg d2] at h
    omega
  rw [if_neg c60] at h
  by_cases c61 : c = 61
  · rw [if_pos c61] at h; omega
  rw [if_neg c61] at h
  by_cases c62 : c = 62
  · rw [if_pos c62] at h
    by_cases d1 : d = 61
    · exact ⟨Or.inr c62, Or.inl d1⟩
    rw [if_neg d1] at h
    omega
  rw [if_neg c62] at h
  omega
theorem cut_gt {b : Nat → Nat} {n a : Nat} (h : a < n) : a < (cut b n a).2.2 ∧ (cut b n a).2.2 ≤ n := by
  unfold cut
  rw [if_neg (by omega)]
  by_cases c : isLt (b a) = true
  · rw [if_pos c]
    exact ⟨rE_gt ⟨h, c⟩, (rE_le (by omega)).2⟩
  rw [if_neg c]
  by_cases d : isDg (b a) = true
  · rw [if_pos d]
    exact ⟨rE_gt ⟨h, d⟩, (rE_le (by omega)).2⟩
  rw [if_neg d]
  refine ⟨?_, ?_⟩
  · show a < a + sLen _
    unfold sLen
    split <;> omega
  · show a + sLen _ ≤ n
    unfold sLen
    split
    · rename_i e
      have : a + 1 < n := by
        apply Nat.lt_of_not_le
        intro z
        have := (sK_two e).2
        unfold nxc at this
        rw [if_neg (by omega)] at this
        omega
      omega
    · omega
/-- where the token of number i begins, blanks passed; where it ends -/
def tkP (b : Nat → Nat) (n : Nat) : Nat → Nat
  | 0 => tkA b n 0
  | i + 1 => tkA b n (cut b n (tkP b n i)).2.2
/-- the place of the next token -/
def nx (b : Nat → Nat) (n p : Nat) : Nat := tkA b n (cut b n p).2.2
theorem cut_end {b : Nat → Nat} {n : Nat} : cut b n n = (23, 0, n) := if_pos (Nat.le_refl _)
theorem nx_end {b : Nat → Nat} {n : Nat} : nx b n n = n := by
  unfold nx
  rw [cut_end]
  show rE (fun j => isBl (b j)) n n = n
  exact rE_at (by omega)
theorem nx_gt {b : Nat → Nat} {n p : Nat} (h : p < n) : p < nx b n p ∧ nx b n p ≤ n := by
  have h1 := cut_gt (b := b) h
  have h2 := rE_le (P := fun j => isBl (b j)) h1.2
  unfold nx tkA
  omega
theorem tkP_le {b : Nat → Nat} {n : Nat} : ∀ i, tkP b n i ≤ n := by
  intro i
  induction i with
  | zero => exact (rE_le (Nat.zero_le n)).2
  | succ i ih =>
    show nx b n (tkP b n i) ≤ n
    by_cases c : tkP b n i < n
    · exact (nx_gt c).2
    · have : tkP b n i = n := by omega
      rw [this, nx_end]
      exact Nat.le_refl _
theorem tkP_nb {b : Nat → Nat} {n : Nat} (i : Nat) (h : tkP b n i < n) : isBl (b (tkP b n i)) = false := by
  have key : ∀ p, p ≤ n → rE (fun j => isBl (b j)) n p < n → isBl (b (rE (fun j => isBl (b j)) n p)) = false := fun p hp h => by
    rcases (rE_in (P := fun j => isBl (b j)) (n := n) _ p rfl hp).2 with e | e
    · omega
    · exact e
  cases i with
  | zero => exact key 0 (Nat.zero_le _) h
  | succ i =>
    have hle := tkP_le (b := b) (n := n) i
    refine key _ ?_ h
    by_cases c : tkP b n i < n
    · exact (cut_gt c).2
    · have : tkP b n i = n := by omega
      rw [this, cut_end]
      exact Nat.le_refl _
/-! letters -/
theorem cK_lt {d : Nat → Nat} (h : ∀ i, d i < 32) : ∀ k, cK d k < 32 ^ k := by
  intro k
  induction k with
  | zero => exact Nat.one_pos
  | succ k ih =>
    unfold cK
    have := h k
    rw [Nat.pow_succ]
    omega
theorem cK_inj {d e : Nat → Nat} (hd : ∀ i, d i < 32) (he : ∀ i, e i < 32) : ∀ k, cK d k = cK e k → ∀ i, i < k → d i = e i := by
  intro k
  induction k with
  | zero => intro _ i h; omega
  | succ k ih =>
    intro h i hi
    have h1 := hd k
    have h2 := he k
    have h : cK d k * 32 + d k = cK e k * 32 + e k := h
    by_cases c : i = k
    · rw [c]; omega
    · exact ih (by omega) i (by omega)
theorem cK_congr {d e : Nat → Nat} : ∀ k, (∀ i, i < k → d i = e i) → cK d k = cK e k := by
  intro k
  induction k with
  | zero => intro _; rfl
  | succ k ih =>
    intro h
    unfold cK
    rw [ih (fun i hi => h i (by omega)), h k (by omega)]
theorem dig_lt {b : Nat → Nat} {a q : Nat} (h : ∀ j, a ≤ j → j < q → isLt (b j) = true) : ∀ i, dig b a q i < 32 := by
  intro i
  unfold dig
  split
  · rename_i c
    have := h (a + i) (by omega) c
    have : 97 ≤ b (a + i) ∧ b (a + i) ≤ 122 := of_decide_eq_true this
    omega
  · omega
theorem dig_pos {b : Nat → Nat} {a q i : Nat} (h : ∀ j, a ≤ j → j < q → isLt (b j) = true) : 0 < dig b a q i ↔ a + i < q := by
  unfold dig
  split
  · rename_i c
    have := h (a + i) (by omega) c
    have : 97 ≤ b (a + i) ∧ b (a + i) ≤ 122 := of_decide_eq_true this
    omega
  · rename_i c
    omega
