/-! LAWS: the class's row of knots and the reference's, tied by the stack of knot numbers that both go through (own work) -/
/-- the reference's kind of a sign of the class -/
def lw_kind (c : Int) : Int := if c = 12 then 3 else if c = 13 then 4 else c - 23
def lw_two (c : Int) : Prop := c = 12 ∨ c = 13 ∨ (28 ≤ c ∧ c ≤ 37)
/-- one knot, at i, with the stack ahead of it and behind it -/
def lw_knot (t : Nat) (m m' : mj_M) (i : Nat) (s s1 : List Nat) : Prop :=
  (0 ≤ (gI m (t + 11) i).toInt ∧ (gI m (t + 11) i).toInt < 10000 ∧ gI m' 86 i = 0 ∧ gI m' 87 i = gI m (t + 11) i ∧ s1 = i :: s) ∨
  (10000 ≤ (gI m (t + 11) i).toInt ∧ (gI m (t + 11) i).toInt < 10007 ∧ gI m' 86 i = 1 ∧ (gI m' 87 i).toInt = (gI m (t + 11) i).toInt - 10000 ∧ s1 = i :: s) ∨
  ((gI m (t + 11) i).toInt = 20011 ∧ gI m' 86 i = 2 ∧ ∃ a r, s = a :: r ∧ gI m' 87 i = Int32.ofNat a ∧ s1 = i :: r) ∨
  (lw_two ((gI m (t + 11) i).toInt - 20000) ∧ (gI m' 86 i).toInt = lw_kind ((gI m (t + 11) i).toInt - 20000) ∧ ∃ b a r, s = b :: a :: r ∧ gI m' 87 i = Int32.ofNat a ∧ gI m' 88 i = Int32.ofNat b ∧ s1 = i :: r)
/-- the knots of one law -/
def lw_row (t : Nat) (m m' : mj_M) (a b : Nat) : Prop := ∃ st : Nat → List Nat, st a = [] ∧ st b = [b - 1] ∧ ∀ i, a ≤ i → i < b → lw_knot t m m' i (st i) (st (i + 1))
def RelL (t : Nat) (m m' : mj_M) : Prop := ∀ l : Nat, l < 3 →
  (gI m' 83 l = 0 ∧ gI m (t + 12) l = 0 ∧ gI m (t + 13) l = 0) ∨
  (gI m' 83 l = 1 ∧ ∃ a b : Nat, a < b ∧ b ≤ 64 ∧ gI m (t + 12) l = Int32.ofNat a ∧ gI m' 84 l = Int32.ofNat a ∧ gI m (t + 13) l = Int32.ofNat b ∧ gI m' 85 l = Int32.ofNat b ∧ lw_row t m m' a b)
theorem lw_knot_mem {t : Nat} {m m' : mj_M} {i : Nat} {s s1 : List Nat} (h : lw_knot t m m' i s s1) {j : Nat} (hj : j ∈ s1) : j = i ∨ j ∈ s := by
  rcases h with ⟨_, _, _, _, rfl⟩ | ⟨_, _, _, _, rfl⟩ | ⟨_, _, a, r, rfl, _, rfl⟩ | ⟨_, _, b, a, r, rfl, _, _, rfl⟩
  · exact List.mem_cons.mp hj
  · exact List.mem_cons.mp hj
  · rcases List.mem_cons.mp hj with h | h
    · exact Or.inl h
    · exact Or.inr (List.mem_cons_of_mem _ h)
  · rcases List.mem_cons.mp hj with h | h
    · exact Or.inl h
    · exact Or.inr (List.mem_cons_of_mem _ (List.mem_cons_of_mem _ h))
