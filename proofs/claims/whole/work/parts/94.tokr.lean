/-! TOKENS, 3: the reference's (own work) -/
def permK (k : Nat) : Nat := if k = 11 then 13 else if k = 12 then 11 else if k = 13 then 12 else k
def permR (k : Nat) : Nat := if k = 11 then 12 else if k = 12 then 13 else if k = 13 then 11 else k
def sgnK (k : Nat) : Nat := if k = 25 then 59 else if k = 26 then 40 else if k = 27 then 41 else if k = 34 then 43 else if k = 35 then 45 else if k = 36 then 42 else 47
/-- one token as both sides have it -/
def TKR (k v : Nat) (rk rw : Int32) : Prop :=
  (k = 23 ∧ rk = 0) ∨ (k < 21 ∧ rk = 1 ∧ rw = nI (permK k)) ∨ (k = 21 ∧ rk = 2 ∧ rw = nI v ∧ v < 2 ^ 30) ∨ (k = 22 ∧ rk = 3 ∧ ∃ w, rw = nI w ∧ w < 1000000 ∧ v ≤ 1000000 ∧ ((v = w ∧ w ≤ 99999) ∨ (99999 < v ∧ 99999 < w))) ∨ ((k = 25 ∨ k = 26 ∨ k = 27 ∨ k = 34 ∨ k = 35 ∨ k = 36 ∨ k = 37) ∧ rk = 4 ∧ rw = nI (sgnK k)) ∨ ((28 ≤ k ∧ k ≤ 33) ∧ rk = 5 ∧ rw = nI (k - 28)) ∨ (k = 24 ∧ (rk = 6 ∨ (rk = 4 ∧ rw = 37)))
section TOKR
variable {m : mj_M} {b : Nat → Nat} {n : Nat}
def tpR (m : mj_M) (b : Nat → Nat) (n : Nat) : Prop := (n ≤ 700 ∧ mj_I (m 68 4) = 0 ∧ mj_I (m 68 5) = -1) ∧ (∀ j, j < n → b j < 256) ∧ ∀ j, j < n → mj_I (m 69 j) = nI (b j)
/-- the reference stands at the token at p -/
def RT (m : mj_M) (b : Nat → Nat) (n p : Nat) : Prop := mj_I (m 68 6) = nI n ∧ mj_I (m 68 10) = nI p ∧ mj_I (m 68 7) = nI (cut b n p).2.2 ∧ TKR (cut b n p).1 (cut b n p).2.1 (mj_I (m 68 8)) (mj_I (m 68 9))
theorem md_small_e (h : tpR m b n) (h6 : mj_I (m 68 6) = nI n) {p : Nat} (hp : p ≤ n) : md_isSmall (nI p) m = some (if p < n ∧ isLt (b p) = true then 1 else 0) := by
  have h7 := h.1.1
  unfold md_isSmall
  rw [h6]
  by_cases c : p < n
  case neg => rw [if_pos (nI_le (by omega) (by omega)), if_neg (fun z => c z.1)]
  have hb := h.2.1 p c
  have x0 : (nI p < 0) = False := eq_false (nI_pos (by omega))
  have x1 : (700 ≤ p) = False := eq_false (by omega)
  have x3 : (nI p).toNatClampNeg = p := nI_clamp (by omega)
  rw [if_neg (nI_ge c (by omega))]
  simp only [x0, x1, x3, or_self, if_false]
  rw [h.2.2 p c]
  unfold isLt
  by_cases c1 : b p < 97
  · rw [if_pos (show nI (b p) < 97 from nI_lt (b := 97) c1 (by omega)), if_neg (fun z => by have := of_decide_eq_true z.2; omega)]
  rw [if_neg (show ¬ nI (b p) < 97 from nI_nlt (b := 97) (by omega) (by omega))]
  by_cases c2 : 122 < b p
  · rw [if_pos (show 122 < nI (b p) from nI_lt (a := 122) c2 (by omega)), if_neg (fun z => by have := of_decide_eq_true z.2; omega)]
  rw [if_neg (show ¬ 122 < nI (b p) from nI_nlt (a := 122) (by omega) (by omega)), if_pos ⟨c, decide_eq_true (by omega)⟩]
theorem md_digit_e (h : tpR m b n) (h6 : mj_I (m 68 6) = nI n) {p : Nat} (hp : p ≤ n) : md_isDigit (nI p) m = some (if p < n ∧ isDg (b p) = true then 1 else 0) := by
  have h7 := h.1.1
  unfold md_isDigit
  rw [h6]
  by_cases c : p < n
  case neg => rw [if_pos (nI_le (by omega) (by omega)), if_neg (fun z => c z.1)]
  have hb := h.2.1 p c
  have x0 : (nI p < 0) = False := eq_false (nI_pos (by omega))
  have x1 : (700 ≤ p) = False := eq_false (by omega)
  have x3 : (nI p).toNatClampNeg = p := nI_clamp (by omega)
  rw [if_neg (nI_ge c (by omega))]
  simp only [x0, x1, x3, or_self, if_false]
  rw [h.2.2 p c]
  unfold isDg
  by_cases c1 : b p < 48
  · rw [if_pos (show nI (b p) < 48 from nI_lt (b := 48) c1 (by omega)), if_neg (fun z => by have := of_decide_eq_true z.2; omega)]
  rw [if_neg (show ¬ nI (b p) < 48 from nI_nlt (b := 48) (by omega) (by omega))]
  by_cases c2 : 57 < b p
  · rw [if_pos (show 57 < nI (b p) from nI_lt (a := 57) c2 (by omega)), if_neg (fun z => by have := of_decide_eq_true z.2; omega)]
  rw [if_neg (show ¬ 57 < nI (b p) from nI_nlt (a := 57) (by omega) (by omega)), if_pos ⟨c, decide_eq_true (by omega)⟩]
theorem tpR.cong {m1 : mj_M} (h : tpR m b n) (hk : m1 69 = m 69) (h4 : m1 68 4 = m 68 4) (h5 : m1 68 5 = m 68 5) : tpR m1 b n := by
  unfold tpR
  rw [hk, h4, h5]
  exact h
/-- blanks passed -/
theorem md_blank_e (h : tpR m b n) (h6 : mj_I (m 68 6) = nI n) {p : Nat} (hp : p ≤ n) (h7 : mj_I (m 68 7) = nI p) : ∃ t s, mj_loop md_token_l0 mj_F m = some (t, s) ∧ mj_I (s 68 7) = nI (tkA b n p) ∧ ∀ a j, ¬ (a = 68 ∧ j = 7) → s a j = m a j := by
  have h70 := h.1.1
  obtain ⟨r1, r2⟩ := rE_in (P := fun j => isBl (b j)) (n := n) _ p rfl hp
  obtain ⟨r3, r4⟩ := rE_le (P := fun j => isBl (b j)) (n := n) hp
  unfold tkA
  generalize hq : rE (fun j => isBl (b j)) n p = q at *
  refine lp_up (body := md_token_l0) (s := m) (fun i s => mj_I (s 68 7) = nI (p + i) ∧ ∀ a j, ¬ (a = 68 ∧ j = 7) → s a j = m a j) (fun _ s => mj_I (s 68 7) = nI q ∧ ∀ a j, ¬ (a = 68 ∧ j = 7) → s a j = m a j) (q - p) (by unfold mj_F; omega) ⟨h7, fun _ _ _ => rfl⟩
    (by
      intro i s hi ⟨g1, g2⟩
      have hl := r1 (p + i) (by omega) (by omega)
      have hl : b (p + i) = 10 ∨ b (p + i) = 32 := of_decide_eq_true hl
      have s6 : mj_I (s 68 6) = nI n := by rw [g2 _ _ (by omega)]; exact h6
      have s9 : mj_I (s 69 (p + i)) = nI (b (p + i)) := by rw [g2 _ _ (by omega)]; exact h.2.2 _ (by omega)
      have x0 : (nI (p + i) < 0) = False := eq_false (nI_pos (by omega))
      have x1 : (700 ≤ p + i) = False := eq_false (by omega)
      have x3 : (nI (p + i)).toNatClampNeg = p + i := nI_clamp (by omega)
      have fin : ∃ s1, md_token_j39l0 s = some (0, s1) ∧ mj_I (s1 68 7) = nI (p + (i + 1)) ∧ ∀ a j, ¬ (a = 68 ∧ j = 7) → s1 a j = m a j := by
        unfold md_token_j39l0
        rw [g1, nI_1]
        exact ⟨_, rfl, by rw [na_upS]; rfl, fun a j h => by rw [na_upN h]; exact g2 a j h⟩
      unfold md_token_l0
      rw [s6, g1, if_neg (nI_ge (by omega) (by omega))]
      simp only [x0, x1, x3, or_self, if_false]
      rw [s9]
      by_cases c : b (p + i) = 10
      · rw [if_pos (show nI (b (p + i)) = 10 by rw [c]; rfl)]
        exact fin
      · rw [if_neg (show ¬ nI (b (p + i)) = 10 from fun z => c ((nI_eq (b := 10) (by omega) (by omega)).mp z)), if_pos (show nI (b (p + i)) = 32 by rw [show b (p + i) = 32 by omega]; rfl)]
        exact fin)
    (by
      intro s ⟨g1, g2⟩
      rw [show p + (q - p) = q by omega] at g1
      have s6 : mj_I (s 68 6) = nI n := by rw [g2 _ _ (by omega)]; exact h6
      refine ⟨0, s, ?_, g1, g2⟩
      unfold md_token_l0
      rw [s6, g1]
      by_cases c : n ≤ q
      · rw [if_pos (nI_le c (by omega))]
      have s9 : mj_I (s 69 q) = nI (b q) := by rw [g2 _ _ (by omega)]; exact h.2.2 _ (by omega)
      have x0 : (nI q < 0) = False := eq_false (nI_pos (by omega))
      have x1 : (700 ≤ q) = False := eq_false (by omega)
      have x3 : (nI q).toNatClampNeg = q := nI_clamp (by omega)
      have hb := h.2.1 q (by omega)
      rw [if_neg (nI_ge (by omega) (by omega))]
      simp only [x0, x1, x3, or_self, if_false]
      have hl : isBl (b q) = false := by
        rcases r2 with z | z
        · omega
        · exact z
      have hl : ¬ (b q = 10 ∨ b q = 32) := of_decide_eq_false hl
      rw [s9, if_neg (show ¬ nI (b q) = 10 from fun z => hl (Or.inl ((nI_eq (b := 10) (by omega) (by omega)).mp z))), if_neg (show ¬ nI (b q) = 32 from fun z => hl (Or.inr ((nI_eq (b := 32) (by omega) (by omega)).mp z)))])
/-- a run of letters -/
theorem md_letters_e (h : tpR m b n) (h6 : mj_I (m 68 6) = nI n) {p : Nat} (hp : p ≤ n) (h7 : mj_I (m 68 7) = nI p) : ∃ t s, mj_loop md_token_l90 mj_F m = some (t, s) ∧ mj_I (s 68 7) = nI (rE (fun j => isLt (b j)) n p) ∧ ∀ a j, ¬ (a = 68 ∧ j = 7) → s a j = m a j := by
  have h70 := h.1.1
  obtain ⟨r1, r2⟩ := rE_in (P := fun j => isLt (b j)) (n := n) _ p rfl hp
  obtain ⟨r3, r4⟩ := rE_le (P := fun j => isLt (b j)) (n := n) hp
  generalize hq : rE (fun j => isLt (b j)) n p = q at *
  refine lp_up (body := md_token_l90) (s := m) (fun i s => mj_I (s 68 7) = nI (p + i) ∧ ∀ a j, ¬ (a = 68 ∧ j = 7) → s a j = m a j) (fun _ s => mj_I (s 68 7) = nI q ∧ ∀ a j, ¬ (a = 68 ∧ j = 7) → s a j = m a j) (q - p) (by unfold mj_F; omega) ⟨h7, fun _ _ _ => rfl⟩
    (by
      intro i s hi ⟨g1, g2⟩
      have hl := r1 (p + i) (by omega) (by omega)
      have s6 : mj_I (s 68 6) = nI n := by rw [g2 _ _ (by omega)]; exact h6
      have hs : tpR s b n := h.cong (funext fun j => g2 _ _ (by omega)) (g2 _ _ (by omega)) (g2 _ _ (by omega))
      unfold md_token_l90
      rw [g1, md_small_e hs s6 (by omega), Option.bind_some, if_pos (show p + i < n ∧ isLt (b (p + i)) = true from ⟨by omega, hl⟩), if_neg not01, nI_1]
      exact ⟨_, rfl, by rw [na_upS]; rfl, fun a j h => by rw [na_upN h]; exact g2 a j h⟩)
    (by
      intro s ⟨g1, g2⟩
      rw [show p + (q - p) = q by omega] at g1
      have s6 : mj_I (s 68 6) = nI n := by rw [g2 _ _ (by omega)]; exact h6
      have hs : tpR s b n := h.cong (funext fun j => g2 _ _ (by omega)) (g2 _ _ (by omega)) (g2 _ _ (by omega))
      refine ⟨0, s, ?_, g1, g2⟩
      unfold md_token_l90
      rw [g1, md_small_e hs s6 (by omega), Option.bind_some, if_neg (c := q < n ∧ isLt (b q) = true) (fun z => by
        rcases r2 with y | y
        · omega
        · rw [y] at z; exact absurd z.2 (by decide)), if_pos rfl])
/-- a number -/
theorem md_numb_e (h : tpR m b n) (h6 : mj_I (m 68 6) = nI n) {p : Nat} (hp : p ≤ n) (h7 : mj_I (m 68 7) = nI p) (h9 : mj_I (m 68 9) = 0) : ∃ t s, mj_loop md_token_l213 mj_F m = some (t, s) ∧ mj_I (s 68 7) = nI (rE (fun j => isDg (b j)) n p) ∧ mj_I (s 68 9) = nI (rm b p (rE (fun j => isDg (b j)) n p - p)) ∧ ∀ a j, ¬ (a = 68 ∧ (j = 7 ∨ j = 9)) → s a j = m a j := by
  have h70 := h.1.1
  obtain ⟨r1, r2⟩ := rE_in (P := fun j => isDg (b j)) (n := n) _ p rfl hp
  obtain ⟨r3, r4⟩ := rE_le (P := fun j => isDg (b j)) (n := n) hp
  generalize hq : rE (fun j => isDg (b j)) n p = q at *
  refine lp_up (body := md_token_l213) (s := m) (fun i s => mj_I (s 68 7) = nI (p + i) ∧ mj_I (s 68 9) = nI (rm b p i) ∧ ∀ a j, ¬ (a = 68 ∧ (j = 7 ∨ j = 9)) → s a j = m a j) (fun _ s => mj_I (s 68 7) = nI q ∧ mj_I (s 68 9) = nI (rm b p (q - p)) ∧ ∀ a j, ¬ (a = 68 ∧ (j = 7 ∨ j = 9)) → s a j = m a j) (q - p) (by unfold mj_F; omega) ⟨h7, h9, fun _ _ _ => rfl⟩
    (by
      intro i s hi ⟨g1, g3, g2⟩
      have hl := r1 (p + i) (by omega) (by omega)
      have hl2 : 48 ≤ b (p + i) ∧ b (p + i) ≤ 57 := of_decide_eq_true hl
      have hr := rm_le (b := b) (a := p) i (fun j hj => r1 (p + j) (by omega) (by omega))
      have s6 : mj_I (s 68 6) = nI n := by rw [g2 _ _ (by omega)]; exact h6
      have hs : tpR s b n := h.cong (funext fun j => g2 _ _ (by omega)) (g2 _ _ (by omega)) (g2 _ _ (by omega))
      have fin : ∀ v : Nat, v = rm b p (i + 1) → ∃ s1, md_token_j261l213 (nI v) s = some (0, s1) ∧ mj_I (s1 68 7) = nI (p + (i + 1)) ∧ mj_I (s1 68 9) = nI (rm b p (i + 1)) ∧ ∀ a j, ¬ (a = 68 ∧ (j = 7 ∨ j = 9)) → s1 a j = m a j := by
        intro v hv
        unfold md_token_j261l213
        rw [g1, nI_1, hv]
        exact ⟨_, rfl, by rw [na_upS]; rfl, by rw [na_upN (by omega), na_upS]; rfl, fun a j h => by rw [na_upN (by omega), na_upN (by omega)]; exact g2 a j h⟩
      have x0 : (nI (p + i) < 0) = False := eq_false (nI_pos (by omega))
      have x1 : (700 ≤ p + i) = False := eq_false (by omega)
      have x3 : (nI (p + i)).toNatClampNeg = p + i := nI_clamp (by omega)
      unfold md_token_l213
      rw [g1, md_digit_e hs s6 (by omega), Option.bind_some, if_pos (show p + i < n ∧ isDg (b (p + i)) = true from ⟨by omega, hl⟩), if_neg not01, g3]
      simp only [x0, x1, x3, or_self, if_false]
      rw [hs.2.2 _ (by omega)]
      by_cases c : rm b p i ≤ 99999
      · rw [if_pos (show nI (rm b p i) ≤ 99999 from nI_le (b := 99999) c (by omega))]
        rw [show (10 : Int32) * nI (rm b p i) = nI (10 * rm b p i) from pk_mul 10 _, nI_add, show nI (10 * rm b p i + b (p + i)) - 48 = nI (10 * rm b p i + b (p + i) - 48) from pk_sub (b := 48) (by omega)]
        exact fin _ (if_neg (by omega)).symm
      · rw [if_neg (show ¬ nI (rm b p i) ≤ 99999 from nI_ge (a := 99999) (by omega) (by omega))]
        exact fin _ (if_pos (by omega)).symm)
    (by
      intro s ⟨g1, g3, g2⟩
      rw [show p + (q - p) = q by omega] at g1
      have s6 : mj_I (s 68 6) = nI n := by rw [g2 _ _ (by omega)]; exact h6
      have hs : tpR s b n := h.cong (funext fun j => g2 _ _ (by omega)) (g2 _ _ (by omega)) (g2 _ _ (by omega))
      refine ⟨0, s, ?_, g1, g3, g2⟩
      unfold md_token_l213
      rw [g1, md_digit_e hs s6 (by omega), Option.bind_some, if_neg (c := q < n ∧ isDg (b q) = true) (fun z => by
        rcases r2 with y | y
        · omega
        · rw [y] at z; exact absurd z.2 (by decide)), if_pos rfl])
/-- six letters as a number -/
theorem md_packed_e (h : tpR m b n) {a q : Nat} (ha : a ≤ q) (hq : q ≤ n) (hl : ∀ j, a ≤ j → j < q → isLt (b j) = true) : md_packed (nI a) (nI q) m = some (nI (cK (dig b a q) 6)) := by
  have h70 := h.1.1
  have hd := dig_lt hl
  unfold md_packed
  have e : mj_loop (md_packed_l5 (nI a) (nI q) m) mj_F (0, nI a) = some (0, (nI (cK (dig b a q) 6), nI (a + 6))) := by
    have e0 := lp_eq (body := md_packed_l5 (nI a) (nI q) m) (t := 0) (r := (nI (cK (dig b a q) 6), nI (a + 6))) (fun i => (nI (cK (dig b a q) i), nI (a + i))) 6 (by decide) (fun i hi => ?_) ?_
    · rw [show cK (dig b a q) 0 = 0 from rfl, Nat.add_zero] at e0
      exact e0
    · have hlt := cK_lt hd i
      have h32 : 32 ^ i ≤ 32 ^ 5 := Nat.pow_le_pow_right (by omega) (by omega)
      have h5 : (32 : Nat) ^ 5 = 33554432 := by decide
      have fin : ∀ d : Nat, d = dig b a q i → md_packed_j37l5 (nI a) (nI q) (nI (a + i)) (nI (cK (dig b a q) i) <<< (5 &&& 31)) (nI d) m = some (0, (nI (cK (dig b a q) (i + 1)), nI (a + (i + 1)))) := by
        intro d hdd
        unfold md_packed_j37l5
        rw [pk_shlN (n := cK (dig b a q) i) (5 &&& 31) 5 (by decide) (by omega), na_or, nI_1, hdd]
        have := hd i
        rw [Nat.mul_comm, ← Nat.two_pow_add_eq_or_of_lt (i := 5) this, Nat.mul_comm]
        rfl
      unfold md_packed_l5
      dsimp only
      rw [show nI a + 6 = nI (a + 6) from nI_add a 6, if_neg (nI_ge (by omega) (by omega))]
      by_cases c : q ≤ a + i
      · rw [if_pos (nI_le c (by omega))]
        exact fin 0 (if_neg (by omega)).symm
      · have x0 : (nI (a + i) < 0) = False := eq_false (nI_pos (by omega))
        have x1 : (700 ≤ a + i) = False := eq_false (by omega)
        have x3 : (nI (a + i)).toNatClampNeg = a + i := nI_clamp (by omega)
        have hb : 97 ≤ b (a + i) ∧ b (a + i) ≤ 122 := of_decide_eq_true (hl (a + i) (by omega) (by omega))
        rw [if_neg (nI_ge (by omega) (by omega))]
        simp only [x0, x1, x3, or_self, if_false]
        rw [h.2.2 _ (by omega), show nI (b (a + i)) - 96 = nI (b (a + i) - 96) from pk_sub (b := 96) (by omega)]
        exact fin _ (if_pos (by omega)).symm
    · unfold md_packed_l5
      dsimp only
      rw [show nI a + 6 = nI (a + 6) from nI_add a 6, if_pos (nI_le (Nat.le_refl _) (by omega))]
  rw [e, Option.bind_some]
/-! words -/
def lW (k : Nat) : Nat := ([3, 3, 4, 5, 6, 4, 4, 3, 4, 4, 4, 3, 2, 3, 4, 4, 4, 4, 3, 4, 4] : List Nat).getD k 0
def sW (k : Nat) : Nat := ([0, 4, 8, 13, 19, 26, 31, 36, 40, 45, 50, 55, 59, 62, 66, 71, 76, 81, 86, 90, 95, 100] : List Nat).getD k 0
def wRn (i : Nat) : Nat := ([109, 97, 110, 32, 116, 105, 101, 32, 119, 111, 114, 107, 32, 115, 112, 101, 101, 100, 32, 115, 112, 114, 105, 110, 103, 32, 119, 97, 115, 112, 32, 115, 101, 101, 100, 32, 108, 97, 119, 32, 115, 108, 105, 112, 32, 119, 101, 97, 114, 32, 104, 117, 115, 104, 32, 97, 110, 100, 32, 111, 114, 32, 110, 111, 116, 32, 98, 101, 97, 116, 32, 102, 97, 115, 116, 32, 97, 103, 101, 100, 32, 108, 101, 102, 116, 32, 98, 97, 114, 32, 99, 111, 105, 108, 32, 104, 111, 117, 114, 32] : List Nat).getD i 0
def dW (k i : Nat) : Nat := if i < lW k then wRn (sW k + i) - 96 else 0
theorem sW_s : ∀ k, k < 21 → sW (k + 1) = sW k + lW k + 1 ∧ sW k + lW k < 100 ∧ 2 ≤ lW k ∧ lW k ≤ 6 ∧ wRn (sW k + lW k) = 32 := by decide +kernel
theorem wRn_l : ∀ k, k < 21 → ∀ i, i < lW k → 97 ≤ wRn (sW k + i) ∧ wRn (sW k + i) ≤ 122 := by decide +kernel
theorem wRn_lt : ∀ i, i < 100 → wRn i < 128 := by decide +kernel
theorem wcN_w : ∀ k, k < 21 → wcN (permR k) = cK (dW k) 6 := by decide +kernel
theorem wcN_d : ∀ i, i < 21 → ∀ j, j < 21 → wcN i = wcN j → i = j := by decide +kernel
theorem perm_R : ∀ k, k < 21 → permR k < 21 ∧ permK (permR k) = k := by decide +kernel
theorem perm_K : ∀ k, k < 21 → permK k < 21 ∧ permR (permK k) = k := by decide +kernel
theorem dW_lt : ∀ k, k < 21 → ∀ i, dW k i < 32 := by
  intro k hk i
  unfold dW
  by_cases c : i < lW k
  · rw [if_pos c]
    have := wRn_l k hk i c
    omega
  · rw [if_neg c]; omega
/-- the word of number k stands from a to q -/
def mtW (b : Nat → Nat) (a q k : Nat) : Prop := lW k = q - a ∧ ∀ i, i < lW k → wRn (sW k + i) = b (a + i)
theorem mtW_c {a q k : Nat} (hk : k < 21) (ha : a < q) (hl : ∀ j, a ≤ j → j < q → isLt (b j) = true) : mtW b a q k ↔ (q - a ≤ 6 ∧ cK (dig b a q) 6 = wcN (permR k)) := by
  obtain ⟨_, _, h2, h6, _⟩ := sW_s k hk
  have hd := dig_lt hl
  have hw := dW_lt k hk
  rw [wcN_w k hk]
  constructor
  · intro ⟨h1, h3⟩
    refine ⟨by omega, cK_congr 6 (fun i hi => ?_)⟩
    unfold dig dW
    by_cases c : i < lW k
    · rw [if_pos (show a + i < q by omega), if_pos c, h3 i c]
    · rw [if_neg (show ¬ a + i < q by omega), if_neg c]
  · intro ⟨h1, h3⟩
    have hi := cK_inj hd hw 6 h3
    have hp := fun i => dig_pos (i := i) hl
    have hpw : ∀ i, 0 < dW k i ↔ i < lW k := fun i => by
      unfold dW
      by_cases c : i < lW k
      · rw [if_pos c]
        have := wRn_l k hk i c
        omega
      · rw [if_neg c]; omega
    have hlen : lW k = q - a := by
      apply Nat.le_antisymm
      · apply Nat.le_of_not_lt
        intro z
        have e := hi (q - a) (by omega)
        have := (hpw (q - a)).mpr z
        rw [← e] at this
        have := (hp (q - a)).mp this
        omega
      · apply Nat.le_of_not_lt
        intro z
        have e := hi (lW k) (by omega)
        have := (hp (lW k)).mpr (by omega)
        rw [e] at this
        have := (hpw (lW k)).mp this
        omega
    refine ⟨hlen, fun i hi2 => ?_⟩
    have e := hi i (by omega)
    have h97 := wRn_l k hk i hi2
    have hb : 97 ≤ b (a + i) ∧ b (a + i) ≤ 122 := of_decide_eq_true (hl (a + i) (by omega) (by omega))
    unfold dig dW at e
    rw [if_pos (by omega), if_pos hi2] at e
    omega
theorem md_wordAt_e (h : tpR m b n) (hwo : ∀ i, i < 100 → mj_I (m 70 i) = wcR i) {a q : Nat} (ha : a < q) (hq : q ≤ n) : ∃ v, md_wordAt (nI a) (nI q) m = some v ∧ ((∃ k, k < 21 ∧ mtW b a q k ∧ v = nI k) ∨ (v = -1 ∧ ∀ k, k < 21 → ¬ mtW b a q k)) := by
  have h70 := h.1.1
  have ww : ∀ i, i < 100 → mj_I (m 70 i) = nI (wRn i) := hwo
  unfold md_wordAt
  obtain ⟨tt, s, e, q1⟩ := lp_ex (body := md_wordAt_l5 (nI a) (nI q) m) (s := (0, 0))
    (fun k s => s = (nI k, nI (sW k)) ∧ ∀ j, j < k → ¬ mtW b a q j)
    (fun t s => (t = 0 ∧ ∃ k, k < 21 ∧ mtW b a q k ∧ s.1 = nI k) ∨ (t = 1 ∧ ∀ k, k < 21 → ¬ mtW b a q k)) 21 (by decide) ⟨rfl, fun j hj => absurd hj (Nat.not_lt_zero j)⟩
    (by
      intro k s hk ⟨g1, g2⟩
      subst g1
      obtain ⟨w1, w2, w3, w4, w5⟩ := sW_s k hk
      unfold md_wordAt_l5
      dsimp only
      rw [if_neg (show ¬ Int32.ofNat 100 ≤ nI (sW k) from nI_ge (b := 100) (by omega) (by omega))]
      have e18 : mj_loop (md_wordAt_l18 (nI a) (nI q) (nI k) (nI (sW k)) m) mj_F 0 = some (0, nI (lW k)) := by
        have e0 := lp_eq (body := md_wordAt_l18 (nI a) (nI q) (nI k) (nI (sW k)) m) (t := 0) (r := nI (lW k)) (fun i => nI i) (lW k) (by unfold mj_F; omega) (fun i hi => ?_) ?_
        · exact e0
        · have x0 : (nI (sW k + i) < 0) = False := eq_false (nI_pos (by omega))
          have x1 : (100 ≤ sW k + i) = False := eq_false (by omega)
          have x3 : (nI (sW k + i)).toNatClampNeg = sW k + i := nI_clamp (by omega)
          have h97 := wRn_l k hk i hi
          unfold md_wordAt_l18
          simp only [nI_add, x0, x1, x3, or_self, if_false]
          rw [ww _ (by omega), if_neg (show ¬ nI (wRn (sW k + i)) = 32 from fun z => by
            have := (nI_eq (b := 32) (by omega) (by omega)).mp z
            omega), nI_1]
        · have x0 : (nI (sW k + lW k) < 0) = False := eq_false (nI_pos (by omega))
          have x1 : (100 ≤ sW k + lW k) = False := eq_false (by omega)
          have x3 : (nI (sW k + lW k)).toNatClampNeg = sW k + lW k := nI_clamp (by omega)
          unfold md_wordAt_l18
          simp only [nI_add, x0, x1, x3, or_self, if_false]
          rw [ww _ (by omega), w5, if_pos (show nI 32 = 32 from rfl)]
      rw [e18, Option.bind_some]
      dsimp only
      rw [pk_sub (by omega)]
      have no : ¬ mtW b a q k → (∃ s1, md_wordAt_j104l5 (nI a) (nI q) (nI k) (nI (sW k)) (nI (lW k)) 0 m = some (0, s1) ∧ s1 = (nI (k + 1), nI (sW (k + 1))) ∧ ∀ j, j < k + 1 → ¬ mtW b a q j) := by
        intro hn
        unfold md_wordAt_j104l5
        rw [if_pos rfl, nI_1, nI_1, nI_add, w1, show sW k + (lW k + 1) = sW k + lW k + 1 by omega]
        refine ⟨_, rfl, rfl, fun j hj => ?_⟩
        by_cases z : j = k
        · rw [z]; exact hn
        · exact g2 j (by omega)
      by_cases c : lW k = q - a
      case neg =>
        rw [if_neg (fun z => c ((nI_eq (by omega) (by omega)).mp z))]
        have el : mj_loop (md_wordAt_l57 (nI a) (nI q) (nI k) (nI (sW k)) (nI (lW k)) m) mj_F (0, 0) = some (0, (0, 0)) := by
          refine lp_eq (fun _ => ((0 : Int32), (0 : Int32))) 0 (by decide) (fun i hi => absurd hi (Nat.not_lt_zero i)) ?_
          unfold md_wordAt_l57
          dsimp only
          rw [if_neg (nI_nle (by omega) (by omega)), if_pos rfl]
        unfold md_wordAt_j52l5
        rw [el, Option.bind_some]
        exact Or.inl (no (fun z => c z.1))
      rw [if_pos (by rw [c])]
      obtain ⟨t2, s2, e2, q2⟩ := lp_ex (body := md_wordAt_l57 (nI a) (nI q) (nI k) (nI (sW k)) (nI (lW k)) m) (s := (1, 0))
        (fun i s => (s = (1, nI i) ∧ ∀ j, j < i → wRn (sW k + j) = b (a + j)) ∨ (s.1 = 0 ∧ ∃ j, j < lW k ∧ wRn (sW k + j) ≠ b (a + j)))
        (fun _ s => (s.1 = 1 ∧ ∀ j, j < lW k → wRn (sW k + j) = b (a + j)) ∨ (s.1 = 0 ∧ ∃ j, j < lW k ∧ wRn (sW k + j) ≠ b (a + j))) (lW k) (by unfold mj_F; omega) (Or.inl ⟨rfl, fun j hj => absurd hj (Nat.not_lt_zero j)⟩)
        (by
          intro i s hi g
          rcases g with ⟨y1, y2⟩ | ⟨y1, y2⟩
          · subst y1
            left
            have x0 : (nI (sW k + i) < 0) = False := eq_false (nI_pos (by omega))
            have x1 : (100 ≤ sW k + i) = False := eq_false (by omega)
            have x3 : (nI (sW k + i)).toNatClampNeg = sW k + i := nI_clamp (by omega)
            have z0 : (nI (a + i) < 0) = False := eq_false (nI_pos (by omega))
            have z1 : (700 ≤ a + i) = False := eq_false (by omega)
            have z3 : (nI (a + i)).toNatClampNeg = a + i := nI_clamp (by omega)
            have h97 := wRn_l k hk i hi
            have hb := h.2.1 (a + i) (by omega)
            unfold md_wordAt_l57 md_wordAt_j96l57
            dsimp only
            rw [if_neg (nI_ge hi (by omega)), if_neg not01]
            simp only [nI_add, x0, x1, x3, z0, z1, z3, or_self, if_false]
            rw [ww _ (by omega), h.2.2 _ (by omega), nI_1]
            by_cases d : wRn (sW k + i) = b (a + i)
            · rw [if_pos (by rw [d])]
              refine ⟨_, rfl, Or.inl ⟨rfl, fun j hj => ?_⟩⟩
              by_cases z : j = i
              · rw [z]; exact d
              · exact y2 j (by omega)
            · rw [if_neg (fun z => d ((nI_eq (by omega) (by omega)).mp z))]
              exact ⟨_, rfl, Or.inr ⟨rfl, i, hi, d⟩⟩
          · right
            obtain ⟨u, w⟩ := s
            dsimp only at y1
            subst y1
            unfold md_wordAt_l57
            dsimp only
            by_cases d : nI (lW k) ≤ w
            · rw [if_pos d]; exact ⟨0, _, rfl, Or.inr ⟨rfl, y2⟩⟩
            · rw [if_neg d, if_pos rfl]; exact ⟨0, _, rfl, Or.inr ⟨rfl, y2⟩⟩)
        (by
          intro s g
          rcases g with ⟨y1, y2⟩ | ⟨y1, y2⟩
          · subst y1
            unfold md_wordAt_l57
            dsimp only
            rw [if_pos (nI_le (Nat.le_refl _) (by omega))]
            exact ⟨0, _, rfl, Or.inl ⟨rfl, y2⟩⟩
          · obtain ⟨u, w⟩ := s
            dsimp only at y1
            subst y1
            unfold md_wordAt_l57
            dsimp only
            by_cases d : nI (lW k) ≤ w
            · rw [if_pos d]; exact ⟨0, _, rfl, Or.inr ⟨rfl, y2⟩⟩
            · rw [if_neg d, if_pos rfl]; exact ⟨0, _, rfl, Or.inr ⟨rfl, y2⟩⟩)
      unfold md_wordAt_j52l5
      rw [e2, Option.bind_some]
      dsimp only
      rcases q2 with ⟨y1, y2⟩ | ⟨y1, j, y2, y3⟩
      · right
        rw [y1]
        unfold md_wordAt_j104l5
        rw [if_neg not01]
        exact ⟨0, _, rfl, Or.inl ⟨rfl, k, hk, ⟨c, y2⟩, rfl⟩⟩
      · left
        rw [y1]
        exact no (fun z => y3 (z.2 j y2)))
    (by
      intro s ⟨g1, g2⟩
      subst g1
      unfold md_wordAt_l5
      dsimp only
      rw [if_pos (show Int32.ofNat 100 ≤ nI (sW 21) by decide)]
      exact ⟨1, _, rfl, Or.inr ⟨rfl, g2⟩⟩)
  rw [e, Option.bind_some]
  rcases q1 with ⟨y1, k, y2, y3, y4⟩ | ⟨y1, y2⟩
  · rw [if_pos y1]
    exact ⟨_, rfl, Or.inl ⟨k, y2, y3, y4⟩⟩
  · rw [if_neg (by omega)]
    exact ⟨_, rfl, Or.inr ⟨rfl, y2⟩⟩
/-- a sign -/
theorem md_j50_e {M : mj_M} (h : tpR M b n) (h6 : mj_I (M 68 6) = nI n) {q : Nat} (h7 : mj_I (M 68 7) = nI q) (hq : q < 1000) : md_signToken_j50 M = md_signToken_j74 (nI (if q < n then b q else 0)) M := by
  have h70 := h.1.1
  unfold md_signToken_j50
  rw [h6, h7]
  by_cases c : q < n
  · have x0 : (nI q < 0) = False := eq_false (nI_pos (by omega))
    have x1 : (700 ≤ q) = False := eq_false (by omega)
    have x3 : (nI q).toNatClampNeg = q := nI_clamp (by omega)
    rw [if_neg (nI_ge c (by omega)), if_pos c]
    simp only [x0, x1, x3, or_self, if_false]
    rw [h.2.2 _ c]
  · rw [if_pos (nI_le (by omega) (by omega)), if_neg c]
    rfl
theorem md_j74_e {M : mj_M} {c d q : Nat} (hc : c = 60 ∨ c = 61 ∨ c = 62) (hd : d < 256) (h7 : mj_I (M 68 7) = nI q) (h9 : mj_I (M 68 9) = nI c) : ∃ m1, md_signToken_j74 (nI d) M = some m1 ∧ mj_I (m1 68 7) = nI (q + sLen (sK c d) - 1) ∧ TKR (sK c d) 0 (mj_I (m1 68 8)) (mj_I (m1 68 9)) ∧ ∀ a j, ¬ (a = 68 ∧ (j = 7 ∨ j = 8 ∨ j = 9)) → m1 a j = M a j := by
  have ne : ∀ {x y : Nat}, x < 256 → y < 256 → x ≠ y → (nI x = nI y) = False := fun h1 h2 h3 => eq_false (fun z => h3 ((nI_eq (by omega) (by omega)).mp z))
  have h9' : mj_I (mj_up M 68 7 (.int (mj_I (M 68 7) + 1)) 68 9) = nI c := by rw [na_upN (by omega)]; exact h9
  have n1 : ((1 : Int32) = 0) = False := eq_false (by decide)
  unfold md_signToken_j74 md_signToken_j94 md_signToken_j95 md_signToken_j115 md_signToken_j116 md_signToken_j125 md_signToken_j135
  have fin : ∀ (M1 : mj_M) (kk w : Nat) (L : Nat), sLen (sK c d) = L → (∀ a j, ¬ (a = 68 ∧ j = 7) → M1 a j = M a j) → mj_I (M1 68 7) = nI (q + L - 1) → 28 ≤ sK c d → sK c d ≤ 33 → w = sK c d - 28 → ∃ m1, some (mj_up (mj_up M1 68 8 (.int 5)) 68 9 (.int (nI w))) = some m1 ∧ mj_I (m1 68 7) = nI (q + sLen (sK c d) - 1) ∧ TKR (sK c d) 0 (mj_I (m1 68 8)) (mj_I (m1 68 9)) ∧ ∀ a j, ¬ (a = 68 ∧ (j = 7 ∨ j = 8 ∨ j = 9)) → m1 a j = M a j := by
    intro M1 kk w L e1 e2 e3 e4 e5 e6
    refine ⟨_, rfl, ?_, ?_, fun a j h => ?_⟩
    · rw [na_upN (by omega), na_upN (by omega), e3, e1]
    · rw [na_upN (by omega), na_upS, na_upS]
      refine Or.inr (Or.inr (Or.inr (Or.inr (Or.inr (Or.inl ⟨⟨e4, e5⟩, rfl, ?_⟩)))))
      rw [← e6]
      rfl
    · rw [na_upN (by omega), na_upN (by omega)]
      exact e2 a j (by omega)
  have M7 : mj_I (mj_up M 68 7 (.int (mj_I (M 68 7) + 1)) 68 7) = nI (q + 2 - 1) := by
    rw [na_upS, h7, nI_1]
    rfl
  have M7' : mj_I (M 68 7) = nI (q + 1 - 1) := h7
  have up7 : ∀ a j, ¬ (a = 68 ∧ j = 7) → mj_up M 68 7 (.int (mj_I (M 68 7) + 1)) a j = M a j := fun a j h => na_upN h
  rcases hc with rfl | rfl | rfl
  · have a1 : (nI 60 = (61 : Int32)) = False := eq_false (by decide)
    have a2 : (nI 60 = (60 : Int32)) = True := eq_true rfl
    by_cases d1 : d = 61
    · subst d1
      have b1 : (nI 61 = (61 : Int32)) = True := eq_true rfl
      have b2 : (nI 61 = (62 : Int32)) = False := eq_false (by decide)
      simp only [h9, h9', a1, a2, b1, b2, n1, if_true, if_false]
      exact fin _ 0 1 2 rfl up7 M7 (by decide) (by decide) rfl
    by_cases d2 : d = 62
    · subst d2
      have b1 : (nI 62 = (61 : Int32)) = False := eq_false (by decide)
      have b2 : (nI 62 = (62 : Int32)) = True := eq_true rfl
      simp only [h9, h9', a1, a2, b1, b2, n1, if_true, if_false]
      exact fin _ 0 3 2 rfl up7 M7 (by decide) (by decide) rfl
    have b1 : (nI d = (61 : Int32)) = False := ne (y := 61) hd (by decide) d1
    have b2 : (nI d = (62 : Int32)) = False := ne (y := 62) hd (by decide) d2
    have ek : sK 60 d = 28 := by
      show (if d = 61 then 29 else if d = 62 then 31 else 28) = 28
      rw [if_neg d1, if_neg d2]
    simp only [h9, h9', a1, a2, b1, b2, n1, if_true, if_false]
    exact fin _ 0 0 1 (by rw [ek]; rfl) (fun _ _ _ => rfl) M7' (by rw [ek]; decide) (by rw [ek]; decide) (by rw [ek])
  · have a1 : (nI 61 = (61 : Int32)) = True := eq_true rfl
    have a2 : (nI 61 = (60 : Int32)) = False := eq_false (by decide)
    simp only [h9, h9', a1, a2, n1, if_true, if_false]
    exact fin _ 0 2 1 rfl (fun _ _ _ => rfl) M7' (by show 28 ≤ 30; decide) (by show 30 ≤ 33; decide) rfl
  · have a1 : (nI 62 = (61 : Int32)) = False := eq_false (by decide)
    have a2 : (nI 62 = (60 : Int32)) = False := eq_false (by decide)
    by_cases d1 : d = 61
    · subst d1
      have b1 : (nI 61 = (61 : Int32)) = True := eq_true rfl
      simp only [h9, h9', a1, a2, b1, n1, if_true, if_false]
      exact fin _ 0 4 2 rfl up7 M7 (by decide) (by decide) rfl
    have b1 : (nI d = (61 : Int32)) = False := ne (y := 61) hd (by decide) d1
    have ek : sK 62 d = 33 := by
      show (if d = 61 then 32 else 33) = 33
      rw [if_neg d1]
    simp only [h9, h9', a1, a2, b1, n1, if_true, if_false]
    exact fin _ 0 5 1 (by rw [ek]; rfl) (fun _ _ _ => rfl) M7' (by rw [ek]; decide) (by rw [ek]; decide) (by rw [ek])
theorem md_sign_e (h : tpR m b n) (h6 : mj_I (m 68 6) = nI n) {p : Nat} (hp : p < n) (h7 : mj_I (m 68 7) = nI p) : ∃ m1, md_signToken m = some m1 ∧ mj_I (m1 68 7) = nI (p + sLen (sK (b p) (nxc b n p))) ∧ TKR (sK (b p) (nxc b n p)) 0 (mj_I (m1 68 8)) (mj_I (m1 68 9)) ∧ ∀ a j, ¬ (a = 68 ∧ (j = 7 ∨ j = 8 ∨ j = 9)) → m1 a j = m a j := by
  have h70 := h.1.1
  have hb := h.2.1 p hp
  have x0 : (nI p < 0) = False := eq_false (nI_pos (by omega))
  have x1 : (700 ≤ p) = False := eq_false (by omega)
  have x3 : (nI p).toNatClampNeg = p := nI_clamp (by omega)
  have n256 : nxc b n p < 256 := by
    unfold nxc
    split
    · exact h.2.1 _ (by assumption)
    · omega
  unfold md_signToken
  rw [h7]
  simp only [x0, x1, x3, or_self, if_false]
  rw [h.2.2 p hp, nI_1]
  generalize hM : mj_up (mj_up m 68 9 (.int (nI (b p)))) 68 7 (.int (nI (p + 1))) = M
  have kM : ∀ a j, ¬ (a = 68 ∧ (j = 7 ∨ j = 9)) → M a j = m a j := fun a j h => by rw [← hM, na_upN (by omega), na_upN (by omega)]
  have M7 : mj_I (M 68 7) = nI (p + 1) := by rw [← hM, na_upS]; rfl
  have M9 : mj_I (M 68 9) = nI (b p) := by rw [← hM, na_upN (by omega), na_upS]; rfl
  have hMt : tpR M b n := h.cong (funext fun j => kM _ _ (by omega)) (kM _ _ (by omega)) (kM _ _ (by omega))
  have cmp : b p = 60 ∨ b p = 61 ∨ b p = 62 → ∃ m1, md_signToken_j50 M = some m1 ∧ mj_I (m1 68 7) = nI (p + sLen (sK (b p) (nxc b n p))) ∧ TKR (sK (b p) (nxc b n p)) 0 (mj_I (m1 68 8)) (mj_I (m1 68 9)) ∧ ∀ a j, ¬ (a = 68 ∧ (j = 7 ∨ j = 8 ∨ j = 9)) → m1 a j = m a j := by
    intro hc
    rw [md_j50_e hMt (by rw [kM _ _ (by omega)]; exact h6) M7 (by omega)]
    obtain ⟨m1, e1, e2, e3, e4⟩ := md_j74_e (M := M) (c := b p) (d := nxc b n p) (q := p + 1) hc n256 M7 M9
    refine ⟨m1, e1, ?_, e3, fun a j hh => by rw [e4 a j hh, kM _ _ (by omega)]⟩
    rw [e2, show p + 1 + sLen (sK (b p) (nxc b n p)) - 1 = p + sLen (sK (b p) (nxc b n p)) by omega]
  have one : ∀ k : Nat, sK (b p) (nxc b n p) = k → (k = 25 ∨ k = 26 ∨ k = 27 ∨ k = 34 ∨ k = 35 ∨ k = 36 ∨ k = 37) → b p = sgnK k → ∃ m1, md_signToken_j270 M = some m1 ∧ mj_I (m1 68 7) = nI (p + sLen (sK (b p) (nxc b n p))) ∧ TKR (sK (b p) (nxc b n p)) 0 (mj_I (m1 68 8)) (mj_I (m1 68 9)) ∧ ∀ a j, ¬ (a = 68 ∧ (j = 7 ∨ j = 8 ∨ j = 9)) → m1 a j = m a j := by
    intro k hk hkk hs
    unfold md_signToken_j270 md_signToken_j275
    rw [if_neg not01]
    refine ⟨_, rfl, ?_, ?_, fun a j hh => ?_⟩
    · rw [na_upN (by omega), M7, hk]
      unfold sLen
      rw [if_neg (by omega)]
    · rw [na_upS, na_upN (by omega), M9, hk]
      exact Or.inr (Or.inr (Or.inr (Or.inr (Or.inl ⟨hkk, rfl, by rw [hs]⟩))))
    · rw [na_upN (by omega), kM _ _ (by omega)]
  have ne : ∀ {y : Nat}, y < 256 → b p ≠ y → ¬ nI (b p) = nI y := fun h2 h3 z => h3 ((nI_eq (by omega) (by omega)).mp z)
  by_cases c60 : b p = 60
  · rw [if_pos (show nI (b p) = 60 by rw [c60]; rfl)]
    exact cmp (by omega)
  rw [if_neg (show ¬ nI (b p) = 60 from ne (y := 60) (by decide) c60)]
  by_cases c62 : b p = 62
  · rw [if_pos (show nI (b p) = 62 by rw [c62]; rfl)]
    exact cmp (by omega)
  rw [if_neg (show ¬ nI (b p) = 62 from ne (y := 62) (by decide) c62)]
  by_cases c61 : b p = 61
  · rw [if_pos (show nI (b p) = 61 by rw [c61]; rfl)]
    exact cmp (by omega)
  rw [if_neg (show ¬ nI (b p) = 61 from ne (y := 61) (by decide) c61)]
  by_cases c59 : b p = 59
  · rw [if_pos (show nI (b p) = 59 by rw [c59]; rfl)]
    exact one 25 (by rw [c59]; rfl) (by omega) c59
  rw [if_neg (show ¬ nI (b p) = 59 from ne (y := 59) (by decide) c59)]
  by_cases c40 : b p = 40
  · rw [if_pos (show nI (b p) = 40 by rw [c40]; rfl)]
    exact one 26 (by rw [c40]; rfl) (by omega) c40
  rw [if_neg (show ¬ nI (b p) = 40 from ne (y := 40) (by decide) c40)]
  by_cases c41 : b p = 41
  · rw [if_pos (show nI (b p) = 41 by rw [c41]; rfl)]
    exact one 27 (by rw [c41]; rfl) (by omega) c41
  rw [if_neg (show ¬ nI (b p) = 41 from ne (y := 41) (by decide) c41)]
  by_cases c43 : b p = 43
  · rw [if_pos (show nI (b p) = 43 by rw [c43]; rfl)]
    exact one 34 (by rw [c43]; rfl) (by omega) c43
  rw [if_neg (show ¬ nI (b p) = 43 from ne (y := 43) (by decide) c43)]
  by_cases c45 : b p = 45
  · rw [if_pos (show nI (b p) = 45 by rw [c45]; rfl)]
    exact one 35 (by rw [c45]; rfl) (by omega) c45
  rw [if_neg (show ¬ nI (b p) = 45 from ne (y := 45) (by decide) c45)]
  by_cases c42 : b p = 42
  · rw [if_pos (show nI (b p) = 42 by rw [c42]; rfl)]
    exact one 36 (by rw [c42]; rfl) (by omega) c42
  rw [if_neg (show ¬ nI (b p) = 42 from ne (y := 42) (by decide) c42)]
  by_cases c47 : b p = 47
  · rw [if_pos (show nI (b p) = 47 by rw [c47]; rfl)]
    exact one 37 (by rw [c47]; rfl) (by omega) c47
  rw [if_neg (show ¬ nI (b p) = 47 from ne (y := 47) (by decide) c47)]
  by_cases c37 : b p = 37
  · rw [if_pos (show nI (b p) = 37 by rw [c37]; rfl)]
    have ek : sK (b p) (nxc b n p) = 24 := by rw [c37]; rfl
    unfold md_signToken_j270 md_signToken_j275
    rw [if_neg not01]
    refine ⟨_, rfl, ?_, ?_, fun a j hh => ?_⟩
    · rw [na_upN (by omega), M7, ek]; rfl
    · rw [na_upS, na_upN (by omega), M9, ek, c37]
      exact Or.inr (Or.inr (Or.inr (Or.inr (Or.inr (Or.inr ⟨rfl, Or.inr ⟨rfl, rfl⟩⟩)))))
    · rw [na_upN (by omega), kM _ _ (by omega)]
  rw [if_neg (show ¬ nI (b p) = 37 from ne (y := 37) (by decide) c37)]
  have ek : sK (b p) (nxc b n p) = 24 := by
    unfold sK
    rw [if_neg c40, if_neg c41, if_neg c42, if_neg c43, if_neg c45, if_neg c47, if_neg c59, if_neg c60, if_neg c61, if_neg c62]
  unfold md_signToken_j275
  rw [if_pos rfl]
  refine ⟨_, rfl, ?_, ?_, fun a j hh => ?_⟩
  · rw [na_upN (by omega), M7, ek]; rfl
  · rw [na_upS, ek]
    exact Or.inr (Or.inr (Or.inr (Or.inr (Or.inr (Or.inr ⟨rfl, Or.inl rfl⟩)))))
  · rw [na_upN (by omega), kM _ _ (by omega)]
/-- the next token, from where the last one ends -/
theorem md_token_e (h : tpR m b n) (hwo : ∀ i, i < 100 → mj_I (m 70 i) = wcR i) (h6 : mj_I (m 68 6) = nI n) {p0 : Nat} (hp0 : p0 ≤ n) (h7 : mj_I (m 68 7) = nI p0) : ∃ m1, md_token m = some m1 ∧ RT m1 b n (tkA b n p0) ∧ ∀ a j, ¬ (a = 68 ∧ 7 ≤ j ∧ j ≤ 10) → m1 a j = m a j := by
  have h70 := h.1.1
  obtain ⟨tt, s, e, s7, ks⟩ := md_blank_e h h6 hp0 h7
  have hle := rE_le (P := fun j => isBl (b j)) hp0
  have hple : tkA b n p0 ≤ n := hle.2
  unfold md_token
  rw [e, Option.bind_some]
  dsimp only
  generalize tkA b n p0 = p at *
  have s6 : mj_I (s 68 6) = nI n := by rw [ks _ _ (by omega)]; exact h6
  unfold md_token_j52
  rw [s6, s7]
  by_cases c : p = n
  · rw [if_pos (by rw [c])]
    refine ⟨_, rfl, ⟨?_, ?_, ?_, ?_⟩, fun a j hh => ?_⟩
    · rw [na_upN (by omega), na_upN (by omega)]; exact s6
    · rw [na_upN (by omega), na_upS]; rfl
    · rw [na_upN (by omega), na_upN (by omega), s7, c, cut_end]
    · rw [na_upS, c, cut_end]; exact Or.inl ⟨rfl, rfl⟩
    · rw [na_upN (by omega), na_upN (by omega), ks _ _ (by omega)]
  rw [if_neg (fun z => c ((nI_eq (by omega) (by omega)).mp z))]
  generalize hM : mj_up s 68 10 (.int (nI p)) = M
  have kM : ∀ a j, ¬ (a = 68 ∧ j = 10) → M a j = s a j := fun a j h => by rw [← hM, na_upN h]
  have M10 : mj_I (M 68 10) = nI p := by rw [← hM, na_upS]; rfl
  have M7 : mj_I (M 68 7) = nI p := by rw [kM _ _ (by omega)]; exact s7
  have M6 : mj_I (M 68 6) = nI n := by rw [kM _ _ (by omega)]; exact s6
  have hMt : tpR M b n := h.cong (funext fun j => by rw [kM _ _ (by omega), ks _ _ (by omega)]) (by rw [kM _ _ (by omega), ks _ _ (by omega)]) (by rw [kM _ _ (by omega), ks _ _ (by omega)])
  have hMw : ∀ i, i < 100 → mj_I (M 70 i) = wcR i := fun i hi => by rw [kM _ _ (by omega), ks _ _ (by omega)]; exact hwo i hi
  have hpn : p < n := by omega
  rw [md_small_e hMt M6 (by omega), Option.bind_some]
  by_cases cl : isLt (b p) = true
  · rw [if_pos (show p < n ∧ isLt (b p) = true from ⟨hpn, cl⟩), if_neg not01]
    obtain ⟨t2, A, e2, a7, kA⟩ := md_letters_e hMt M6 (by omega) M7
    rw [e2, Option.bind_some]
    dsimp only
    have hc : cut b n p = (wK b p (rE (fun j => isLt (b j)) n p), cK (dig b p (rE (fun j => isLt (b j)) n p)) 6, rE (fun j => isLt (b j)) n p) := by
      unfold cut
      rw [if_neg (by omega), if_pos cl]
    have hq1 := rE_gt (P := fun j => isLt (b j)) (n := n) (p := p) ⟨hpn, cl⟩
    have hq2 := (rE_le (P := fun j => isLt (b j)) (n := n) (p := p) (by omega)).2
    have hl := (rE_in (P := fun j => isLt (b j)) (n := n) _ p rfl (by omega)).1
    generalize rE (fun j => isLt (b j)) n p = q at *
    have A10 : mj_I (A 68 10) = nI p := by rw [kA _ _ (by omega)]; exact M10
    have A6 : mj_I (A 68 6) = nI n := by rw [kA _ _ (by omega)]; exact M6
    have hAt : tpR A b n := hMt.cong (funext fun j => kA _ _ (by omega)) (kA _ _ (by omega)) (kA _ _ (by omega))
    rw [A10, a7]
    obtain ⟨v, e3, hv⟩ := md_wordAt_e hAt (fun i hi => by rw [kA _ _ (by omega)]; exact hMw i hi) hq1 hq2
    rw [e3, Option.bind_some]
    have hd := dig_lt hl
    have done : ∀ (kk : Int32) (B1 : mj_M), (∀ a j, ¬ (a = 68 ∧ (j = 8 ∨ j = 9)) → B1 a j = A a j) → TKR (wK b p q) (cK (dig b p q) 6) (mj_I (B1 68 8)) (mj_I (B1 68 9)) → RT B1 b n p ∧ ∀ a j, ¬ (a = 68 ∧ 7 ≤ j ∧ j ≤ 10) → B1 a j = m a j := by
      intro kk B1 hB hT
      refine ⟨⟨?_, ?_, ?_, ?_⟩, fun a j hh => ?_⟩
      · rw [hB _ _ (by omega)]; exact A6
      · rw [hB _ _ (by omega)]; exact A10
      · rw [hB _ _ (by omega), hc]; exact a7
      · rw [hc]; exact hT
      · rw [hB _ _ (by omega), kA _ _ (by omega), kM _ _ (by omega), ks _ _ (by omega)]
    unfold md_token_j162
    rcases hv with ⟨k, hk, hmt, rfl⟩ | ⟨rfl, hno⟩
    · rw [if_neg (nI_pos (by omega)), if_neg (by decide)]
      obtain ⟨w1, w2⟩ := (mtW_c hk hq1 hl).mp hmt
      obtain ⟨g1, g2⟩ := perm_R k hk
      have hw : wK b p q = permR k := by
        unfold wK
        rw [if_pos w1, w2]
        exact idx_u g1 rfl (fun j hj z => by
          have := wcN_d j (by omega) _ g1 z
          omega)
      obtain ⟨d1, d2⟩ := done 1 (mj_up (mj_up A 68 9 (.int (nI k))) 68 8 (.int 1)) (fun a j hh => by rw [na_upN (by omega), na_upN (by omega)]) (by
        rw [na_upS, na_upN (by omega), na_upS, hw]
        exact Or.inr (Or.inl ⟨g1, rfl, by rw [g2]; rfl⟩))
      exact ⟨_, rfl, d1, d2⟩
    · rw [if_pos (show (-1 : Int32) < 0 by decide), pk_sub (by omega)]
      by_cases c6 : q - p ≤ 6
      · rw [if_pos (show nI (q - p) ≤ 6 from nI_le (b := 6) c6 (by omega)), if_pos rfl]
        have hw : wK b p q = 21 := by
          unfold wK
          rw [if_pos c6]
          refine idx_n (fun j hj z => ?_)
          obtain ⟨g1, g2⟩ := perm_K j hj
          exact hno (permK j) g1 ((mtW_c g1 hq1 hl).mpr ⟨c6, by rw [g2, z]⟩)
        have hp := md_packed_e (m := mj_up (mj_up A 68 9 (.int (-1))) 68 8 (.int 2)) (hAt.cong (funext fun j => by rw [na_upN (by omega), na_upN (by omega)]) (by rw [na_upN (by omega), na_upN (by omega)]) (by rw [na_upN (by omega), na_upN (by omega)])) (show p ≤ q by omega) hq2 hl
        rw [show mj_I (mj_up A 68 9 (.int (-1)) 68 10) = nI p by rw [na_upN (by omega)]; exact A10, show mj_I (mj_up A 68 9 (.int (-1)) 68 7) = nI q by rw [na_upN (by omega)]; exact a7, hp, Option.bind_some]
        obtain ⟨d1, d2⟩ := done 2 (mj_up (mj_up (mj_up A 68 9 (.int (-1))) 68 8 (.int 2)) 68 9 (.int (nI (cK (dig b p q) 6)))) (fun a j hh => by rw [na_upN (by omega), na_upN (by omega), na_upN (by omega)]) (by
          rw [na_upS, na_upN (by omega), na_upS, hw]
          exact Or.inr (Or.inr (Or.inl ⟨rfl, rfl, rfl, cK_30 hd⟩)))
        exact ⟨_, rfl, d1, d2⟩
      · rw [if_neg (show ¬ nI (q - p) ≤ 6 from nI_ge (a := 6) (by omega) (by omega)), if_neg (by decide)]
        have hw : wK b p q = 24 := if_neg c6
        obtain ⟨d1, d2⟩ := done 6 (mj_up (mj_up A 68 9 (.int (-1))) 68 8 (.int 6)) (fun a j hh => by rw [na_upN (by omega), na_upN (by omega)]) (by
          rw [na_upS, hw]
          exact Or.inr (Or.inr (Or.inr (Or.inr (Or.inr (Or.inr ⟨rfl, Or.inl rfl⟩))))))
        exact ⟨_, rfl, d1, d2⟩
  rw [if_neg (show ¬ (p < n ∧ isLt (b p) = true) from fun z => cl z.2), if_pos rfl, md_digit_e hMt M6 (by omega), Option.bind_some]
  by_cases cd : isDg (b p) = true
  · rw [if_pos (show p < n ∧ isDg (b p) = true from ⟨hpn, cd⟩), if_neg not01]
    generalize hN : mj_up (mj_up M 68 8 (.int 3)) 68 9 (.int 0) = N
    have kN : ∀ a j, ¬ (a = 68 ∧ (j = 8 ∨ j = 9)) → N a j = M a j := fun a j h => by rw [← hN, na_upN (by omega), na_upN (by omega)]
    have N8 : mj_I (N 68 8) = 3 := by rw [← hN, na_upN (by omega), na_upS]; rfl
    have N9 : mj_I (N 68 9) = 0 := by rw [← hN, na_upS]; rfl
    obtain ⟨t2, A, e2, a7, a9, kA⟩ := md_numb_e (m := N) (hMt.cong (funext fun j => kN _ _ (by omega)) (kN _ _ (by omega)) (kN _ _ (by omega))) (by rw [kN _ _ (by omega)]; exact M6) (p := p) (by omega) (by rw [kN _ _ (by omega)]; exact M7) N9
    rw [e2, Option.bind_some]
    have hc : cut b n p = (22, nm b p (rE (fun j => isDg (b j)) n p - p), rE (fun j => isDg (b j)) n p) := by
      unfold cut
      rw [if_neg (by omega), if_neg cl, if_pos cd]
    have hl := (rE_in (P := fun j => isDg (b j)) (n := n) _ p rfl (by omega)).1
    generalize rE (fun j => isDg (b j)) n p = q at *
    have hall : ∀ i, i < q - p → isDg (b (p + i)) = true := fun i hi => hl (p + i) (by omega) (by omega)
    refine ⟨A, rfl, ⟨?_, ?_, ?_, ?_⟩, fun a j hh => ?_⟩
    · rw [kA _ _ (by omega), kN _ _ (by omega)]; exact M6
    · rw [kA _ _ (by omega), kN _ _ (by omega)]; exact M10
    · rw [hc]; exact a7
    · rw [hc, kA 68 8 (by omega), N8, a9]
      have r1 := rm_le (b := b) (a := p) (q - p) hall
      have r2 := nm_le (b := b) (a := p) (q - p)
      exact Or.inr (Or.inr (Or.inr (Or.inl ⟨rfl, rfl, _, rfl, by omega, r2, nm_rm (q - p) hall⟩)))
    · rw [kA _ _ (by omega), kN _ _ (by omega), kM _ _ (by omega), ks _ _ (by omega)]
  rw [if_neg (show ¬ (p < n ∧ isDg (b p) = true) from fun z => cd z.2), if_pos rfl]
  obtain ⟨A, e2, a7, aT, kA⟩ := md_sign_e hMt M6 hpn M7
  rw [e2, Option.bind_some]
  have hc : cut b n p = (sK (b p) (nxc b n p), 0, p + sLen (sK (b p) (nxc b n p))) := by
    unfold cut
    rw [if_neg (by omega), if_neg cl, if_neg cd]
  refine ⟨A, rfl, ⟨?_, ?_, ?_, ?_⟩, fun a j hh => ?_⟩
  · rw [kA _ _ (by omega)]; exact M6
  · rw [kA _ _ (by omega)]; exact M10
  · rw [hc]; exact a7
  · rw [hc]; exact aT
  · rw [kA _ _ (by omega), kM _ _ (by omega), ks _ _ (by omega)]
end TOKR
