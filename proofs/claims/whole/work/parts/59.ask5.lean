/-! CALLS THAT ASK, 5: bars, canon, meet, rests, rest (own work) -/
theorem mj_loop_0 {σ : Type} {body : σ → Option (Nat × σ)} {n : Nat} {s s1 : σ} (h : body s = some (0, s1)) : mj_loop body (n + 1) s = mj_loop body n s1 := by
  have e : mj_loop body (n + 1) s = match body s with
    | none => none
    | some (0, s1) => mj_loop body n s1
    | some (t + 1, s1) => some (t, s1) := rfl
  rw [e, h]
theorem gcd_step (x y : Nat) : Nat.gcd x y = Nat.gcd y (x % y) := by rw [Nat.gcd_comm x y, Nat.gcd_rec y x, Nat.gcd_comm]
theorem mod_half {y r : Nat} (h0 : 0 < r) (hr : r < y) : y % r ≤ y / 2 := by
  by_cases c : r ≤ y / 2
  · have := Nat.mod_lt y h0
    omega
  · have h1 : y % r = y - r := by
      rw [Nat.mod_eq_sub_mod (by omega), Nat.mod_eq_of_lt (by omega)]
    omega
theorem gcd_c {m : mj_M} : ∀ k x y i F, y < 2 ^ k → i + 2 * k < 100 → 2 * k < F → x < 2 ^ 30 → y < 2 ^ 30 → ∃ s, mj_loop (bp_gcd_l7 m) F (nI x, nI y, nI i) = some (0, s) ∧ s.1 = nI (Nat.gcd x y) := by
  have stop : ∀ x i F, i < 100 → 0 < F → ∃ s, mj_loop (bp_gcd_l7 m) F (nI x, nI 0, nI i) = some (0, s) ∧ s.1 = nI (Nat.gcd x 0) := by
    intro x i F hi hF
    obtain ⟨F, rfl⟩ : ∃ j, F = j + 1 := ⟨F - 1, by omega⟩
    unfold mj_loop bp_gcd_l7
    dsimp only
    rw [if_neg (show ¬ (100 : Int32) ≤ nI i from nI_ge (b := 100) hi (by decide)), if_pos (show nI 0 = 0 from rfl), Nat.gcd_zero_right]
    exact ⟨_, rfl, rfl⟩
  have step : ∀ x y i F, 0 < y → i < 100 → x < 2 ^ 30 → y < 2 ^ 30 → mj_loop (bp_gcd_l7 m) (F + 1) (nI x, nI y, nI i) = mj_loop (bp_gcd_l7 m) F (nI y, nI (x % y), nI (i + 1)) := by
    intro x y i F hy hi hx hy2
    have n0 : ¬ nI y = 0 := nI_ne0 hy (by omega)
    refine mj_loop_0 ?_
    unfold bp_gcd_l7
    dsimp only
    rw [if_neg (show ¬ (100 : Int32) ≤ nI i from nI_ge (b := 100) hi (by decide)), if_neg n0, if_neg n0, pk_rem (by omega) hy (by omega), ← nI_succ]
  intro k
  induction k with
  | zero =>
    intro x y i F h1 h2 h3 h4 h5
    have : y = 0 := by omega
    subst this
    exact stop x i F (by omega) (by omega)
  | succ k ih =>
    intro x y i F h1 h2 h3 h4 h5
    by_cases c : y = 0
    · subst c
      exact stop x i F (by omega) (by omega)
    · obtain ⟨F, rfl⟩ : ∃ j, F = j + 2 := ⟨F - 2, by omega⟩
      have hr := Nat.mod_lt x (show 0 < y by omega)
      rw [step x y i (F + 1) (by omega) (by omega) h4 h5, gcd_step]
      by_cases c2 : x % y = 0
      · rw [c2]
        exact stop y (i + 1) (F + 1) (by omega) (by omega)
      · have hh := mod_half (show 0 < x % y by omega) hr
        have h2k : 2 ^ (k + 1) = 2 * 2 ^ k := by rw [Nat.pow_succ, Nat.mul_comm]
        rw [step y (x % y) (i + 1) F (by omega) (by omega) h5 (by omega), gcd_step]
        exact ih _ _ _ _ (by omega) (by omega) (by omega) (by omega) (by omega)
theorem bp_gcd_e {x y : Nat} {m : mj_M} (hx : x < 2 ^ 30) (hy : y < 2 ^ 30) : bp_gcd (nI x) (nI y) m = some (nI (Nat.gcd x y)) := by
  obtain ⟨s, e, q⟩ := gcd_c (m := m) 30 x y 0 mj_F hy (by decide) (by decide) hx hy
  have e : mj_loop (bp_gcd_l7 m) mj_F (nI x, nI y, 0) = some (0, s) := e
  unfold bp_gcd
  rw [e, Option.bind_some]
  dsimp only
  rw [q]
theorem gcd_r {m : mj_M} : ∀ k x y F, y < 2 ^ k → 2 * k < F → x < 2 ^ 30 → y < 2 ^ 30 → ∃ s, mj_loop (md_common_l4 m) F (nI x, nI y) = some (0, s) ∧ s.1 = nI (Nat.gcd x y) := by
  have stop : ∀ x F, 0 < F → ∃ s, mj_loop (md_common_l4 m) F (nI x, nI 0) = some (0, s) ∧ s.1 = nI (Nat.gcd x 0) := by
    intro x F hF
    obtain ⟨F, rfl⟩ : ∃ j, F = j + 1 := ⟨F - 1, by omega⟩
    unfold mj_loop md_common_l4
    dsimp only
    rw [if_pos (show nI 0 = 0 from rfl), Nat.gcd_zero_right]
    exact ⟨_, rfl, rfl⟩
  have step : ∀ x y F, 0 < y → x < 2 ^ 30 → y < 2 ^ 30 → mj_loop (md_common_l4 m) (F + 1) (nI x, nI y) = mj_loop (md_common_l4 m) F (nI y, nI (x % y)) := by
    intro x y F hy hx hy2
    have n0 : ¬ nI y = 0 := nI_ne0 hy (by omega)
    refine mj_loop_0 ?_
    unfold md_common_l4
    dsimp only
    rw [if_neg n0, if_neg n0, pk_rem (by omega) hy (by omega)]
  intro k
  induction k with
  | zero =>
    intro x y F h1 h3 h4 h5
    have : y = 0 := by omega
    subst this
    exact stop x F (by omega)
  | succ k ih =>
    intro x y F h1 h3 h4 h5
    by_cases c : y = 0
    · subst c
      exact stop x F (by omega)
    · obtain ⟨F, rfl⟩ : ∃ j, F = j + 2 := ⟨F - 2, by omega⟩
      have hr := Nat.mod_lt x (show 0 < y by omega)
      rw [step x y (F + 1) (by omega) h4 h5, gcd_step]
      by_cases c2 : x % y = 0
      · rw [c2]
        exact stop y (F + 1) (by omega)
      · have hh := mod_half (show 0 < x % y by omega) hr
        have h2k : 2 ^ (k + 1) = 2 * 2 ^ k := by rw [Nat.pow_succ, Nat.mul_comm]
        rw [step y (x % y) F (by omega) h5 (by omega), gcd_step]
        exact ih _ _ _ (by omega) (by omega) (by omega) (by omega)
theorem md_common_e {x y : Nat} {m : mj_M} (hx : x < 2 ^ 30) (hy : y < 2 ^ 30) : md_common (nI x) (nI y) m = some (nI (Nat.gcd x y)) := by
  obtain ⟨s, e, q⟩ := gcd_r (m := m) 30 x y mj_F hy (by decide) hx hy
  unfold md_common
  rw [e, Option.bind_some]
  dsimp only
  rw [q]
section ASK5
variable {t : Nat} {m : mj_M} {T : zT} {S : zS} {n : Nat} {us : List zS} {I : Option (zS × Nat)} {E : zE} {B : zB} {F : Int32 × Int32}
theorem q_bars (ht : t = 3 ∨ t = 17) (hC : CV t m T S n us I E B F) (hR : RV m T S n us I E B F) (hW : WV T S n us I E B F) {v : Int32} : ∃ r m1, bp_bars t v m = some r ∧ md_bars v m = some (r, m1) ∧ frQ m m1 := by
  have hnw := hW.T.nw
  have hR1 : RV (mj_up m 68 2 (.int 0)) T S n us I E B F := RV_Q hR hW.T frQ_2
  unfold bp_bars md_bars
  rw [hC.T.nw, hR.T.nw]
  by_cases c : v < 0
  · rw [if_pos c, if_pos c]; exact ⟨_, _, rfl, rfl, frQ_2⟩
  rw [if_neg c, if_neg c]
  by_cases c2 : v < (1 : Int32) <<< (nI (T 0 5) &&& 31)
  · rw [if_pos c2, if_pos c2]
    by_cases c3 : v = 0
    · rw [if_pos c3, if_pos c3]; exact ⟨_, _, rfl, rfl, frQ_2⟩
    rw [if_neg c3, if_neg c3]
    obtain ⟨a, s, b, u, e1, e2, q1, q2⟩ := lpr2 (b1 := bp_bars_l29 t v m) (b2 := md_bars_l31 v) (s := (1, 0)) (u := (1, 0, mj_up m 68 2 (.int 0)))
      (fun i s u => s.2 = nI i ∧ u.2.1 = nI i ∧ u.2.2 = mj_up m 68 2 (.int 0) ∧ s.1 = u.1 ∧ ∃ b, b ≤ 12 ^ i ∧ s.1 = nI b)
      (fun _ s _ u => s.1 = u.1 ∧ u.2.2 = mj_up m 68 2 (.int 0)) (T 0 5) (by unfold mj_F; omega) ⟨rfl, rfl, rfl, rfl, 1, by decide, rfl⟩
      (by
        intro i s u hi ⟨h1, h2, h3, h4, b, b1, b2⟩
        obtain ⟨x, y⟩ := s
        obtain ⟨x', y', mm⟩ := u
        dsimp only at h1 h2 h3 h4 b2
        subst h1 h2 h3 h4 b2
        refine Or.inl ?_
        have o1 : (nI i < 0) = False := eq_false (nI_pos (by omega))
        have o1' : (16 ≤ i) = False := eq_false (by omega)
        have o2 : (nI i).toNatClampNeg = i := nI_clamp (by omega)
        have hba := hW.T.bar i hi
        have r8 := hR1.T.row 8 i (by decide) (by decide) (by decide) hi
        have hh : ∀ M M', bp_has v (nI i) M = md_isOf v (nI i) M' := fun _ _ => rfl
        have p8 : 12 ^ i ≤ 12 ^ 7 := Nat.pow_le_pow_right (by decide) (by omega)
        have p7 : (12 : Nat) ^ 7 = 35831808 := by decide
        have ps : 12 ^ (i + 1) = 12 * 12 ^ i := by rw [Nat.pow_succ, Nat.mul_comm]
        unfold bp_bars_l29 bp_bars_j87l29 bp_bars_j86l29 bp_bars_j87l29 md_bars_l31 md_bars_j67l31
        dsimp only
        rw [hC.T.nw, hR1.T.nw, if_neg (nI_ge hi (by omega)), if_neg (nI_ge hi (by omega)), hC.T.r ht hW.T (i := 8) (by decide) (by decide) hi, hh m (mj_up m 68 2 (.int 0))]
        simp only [o1, o1', o2, or_self, if_false, r8]
        by_cases cb : md_isOf v (nI i) (mj_up m 68 2 (.int 0)) = 0
        · rw [if_pos cb, if_pos cb]
          exact ⟨_, _, rfl, rfl, (nI_succ i).symm, (nI_succ i).symm, rfl, rfl, b, by omega, rfl⟩
        · have hg := Nat.gcd_pos_of_pos_right b (show 0 < T 8 i by omega)
          have hg2 := Nat.gcd_le_right b (show 0 < T 8 i by omega)
          have n0 : ¬ nI (Nat.gcd b (T 8 i)) = 0 := nI_ne0 hg (by omega)
          have hd : b / Nat.gcd b (T 8 i) ≤ b := Nat.div_le_self _ _
          have hm : b / Nat.gcd b (T 8 i) * T 8 i ≤ 12 * 12 ^ i := by
            rw [Nat.mul_comm 12]
            exact Nat.mul_le_mul (by omega) (by omega)
          rw [if_neg cb, if_neg cb, bp_gcd_e (by omega) (by omega), md_common_e (by omega) (by omega), Option.bind_some, Option.bind_some, if_pos (show (1 : Int32) ≤ nI (Nat.gcd b (T 8 i)) from nI_le (a := 1) hg (by omega)), if_neg n0, if_neg n0, pk_div (by omega) hg (by omega), pk_mul]
          exact ⟨_, _, rfl, rfl, (nI_succ i).symm, (nI_succ i).symm, rfl, rfl, _, by rw [ps]; exact hm, rfl⟩)
      (by
        intro s u ⟨h1, h2, h3, h4, _⟩
        obtain ⟨x, y⟩ := s
        obtain ⟨x', y', mm⟩ := u
        dsimp only at h1 h2 h3 h4
        subst h1 h2 h3 h4
        unfold bp_bars_l29 md_bars_l31
        dsimp only
        rw [hC.T.nw, hR1.T.nw, if_pos (nI_le (Nat.le_refl _) (by omega)), if_pos (nI_le (Nat.le_refl _) (by omega))]
        exact ⟨_, _, _, _, rfl, rfl, rfl, rfl⟩)
    rw [e1, e2, Option.bind_some, Option.bind_some, q1, q2]
    exact ⟨_, _, rfl, rfl, frQ_2⟩
  · rw [if_neg c2, if_neg c2]; exact ⟨_, _, rfl, rfl, frQ_2⟩
theorem up_div {D b k : Nat} (hb : 1 ≤ b) (hk : k < (D + b - 1) / b) : k * b < D := by
  have h1 : (k + 1) * b ≤ D + b - 1 := (Nat.le_div_iff_mul_le (by omega)).mp hk
  rw [Nat.succ_mul] at h1
  omega
theorem up_div2 {D b : Nat} (hb : 1 ≤ b) : D ≤ (D + b - 1) / b * b := by
  have h1 := Nat.div_add_mod (D + b - 1) b
  have h2 := Nat.mod_lt (D + b - 1) (show 0 < b by omega)
  rw [Nat.mul_comm] at h1
  omega
theorem q_canon (ht : t = 3 ∨ t = 17) (hC : CV t m T S n us I E B F) (hR : RV m T S n us I E B F) (hW : WV T S n us I E B F) {v w : Int32} : ∃ r m1, bp_canon t v w m = some r ∧ md_canon v w m = some (r, m1) ∧ frQ m m1 := by
  have hnw := hW.T.nw
  have hR1 : RV (mj_up m 68 2 (.int 0)) T S n us I E B F := RV_Q hR hW.T frQ_2
  unfold bp_canon md_canon
  rcases work_c hC hR hW v with ⟨h1, h2⟩ | ⟨i, hi, rfl, h1, h2⟩
  · rw [h1, h2, if_pos rfl, if_pos rfl]; exact ⟨_, _, rfl, rfl, frQ_2⟩
  rw [h1, h2, if_neg not01, if_neg not01]
  rcases work_c hC hR hW w with ⟨h1, h2⟩ | ⟨k, hk, rfl, h1, h2⟩
  · rw [h1, h2, if_pos rfl, if_pos rfl]; exact ⟨_, _, rfl, rfl, frQ_2⟩
  rw [h1, h2, if_neg not01, if_neg not01]
  by_cases c : nI i = nI k
  · rw [if_pos c, if_pos c]; exact ⟨_, _, rfl, rfl, frQ_2⟩
  rw [if_neg c, if_neg c]
  have hba := hW.T.bar i hi
  have hb1 := hW.T.beats i hi
  have hb2 := hW.T.beats k hk
  have n0 : ¬ nI (T 8 i) = 0 := nI_ne0 (by omega) (by omega)
  rw [hC.T.r ht hW.T (i := 8) (by decide) (by decide) hi, hC.T.r ht hW.T (i := 7) (by decide) (by decide) hi, hC.T.r ht hW.T (i := 7) (by decide) (by decide) hk, if_pos (show (1 : Int32) ≤ nI (T 8 i) from nI_le (a := 1) hba.1 (by omega)), if_neg n0, na_sat (by omega) (by omega)]
  have e0 : ((nI (T 7 i - T 7 k) + nI (T 8 i)) - 1) / nI (T 8 i) * nI (T 8 i) = nI ((T 7 i - T 7 k + T 8 i - 1) / T 8 i * T 8 i) := by
    rw [nI_add, show (1 : Int32) = nI 1 from rfl, pk_sub (by omega), pk_div (by omega) (by omega) (by omega), pk_mul]
  rw [e0]
  have r7i := hR1.T.row 7 i (by decide) (by decide) (by decide) hi
  have r7k := hR1.T.row 7 k (by decide) (by decide) (by decide) hk
  have r8 := hR1.T.row 8 i (by decide) (by decide) (by decide) hi
  have o1 : (nI i < 0) = False := eq_false (nI_pos (by omega))
  have o1' : (16 ≤ i) = False := eq_false (by omega)
  have o2 : (nI i).toNatClampNeg = i := nI_clamp (by omega)
  have w1 : (nI k < 0) = False := eq_false (nI_pos (by omega))
  have w1' : (16 ≤ k) = False := eq_false (by omega)
  have w2 : (nI k).toNatClampNeg = k := nI_clamp (by omega)
  have hq : (T 7 i - T 7 k + T 8 i - 1) / T 8 i ≤ 1010 := Nat.le_trans (Nat.div_le_self _ _) (by omega)
  generalize hD : T 7 i - T 7 k = D at *
  have e1 : mj_loop (md_canon_l30 (nI i) (nI k)) mj_F (0, mj_up m 68 2 (.int 0)) = some (0, (nI ((D + T 8 i - 1) / T 8 i * T 8 i), mj_up m 68 2 (.int 0))) := by
    refine (lp_eq (fun j => (nI (j * T 8 i), mj_up m 68 2 (.int 0))) ((D + T 8 i - 1) / T 8 i) (by unfold mj_F; omega) (fun j hj => ?_) ?_ : mj_loop (md_canon_l30 (nI i) (nI k)) mj_F (nI (0 * T 8 i), mj_up m 68 2 (.int 0)) = _) |> (fun z => by rw [Nat.zero_mul] at z; exact z)
    · have hj2 := up_div (D := D) hba.1 hj
      unfold md_canon_l30
      simp only [o1, o1', o2, w1, w1', w2, or_self, if_false, r7i, r7k, r8]
      rw [nI_add, nI_add, if_neg (nI_ge (by omega) (by omega)), ← Nat.succ_mul]
    · have h2 := up_div2 (D := D) hba.1
      have h3 : (D + T 8 i - 1) / T 8 i * T 8 i ≤ D + T 8 i - 1 := Nat.div_mul_le_self _ _
      unfold md_canon_l30
      simp only [o1, o1', o2, w1, w1', w2, or_self, if_false, r7i, r7k]
      rw [nI_add, if_pos (nI_le (by omega) (by omega))]
  rw [e1]
  exact ⟨_, _, rfl, rfl, frQ_2⟩
theorem isIn_c {v : Int32} {a b : Nat} {M : mj_M} (hb : b < 2 ^ 31) (hab : a ≤ b) : (md_isIn v (nI a) (nI b) M = 0 ∧ (v < nI a ∨ nI b < v)) ∨ ∃ x, a ≤ x ∧ x ≤ b ∧ v = nI x ∧ md_isIn v (nI a) (nI b) M = 1 := by
  unfold md_isIn
  by_cases c : v < nI a
  · rw [if_pos c]; exact Or.inl ⟨rfl, Or.inl c⟩
  · rw [if_neg c]
    by_cases c2 : nI b < v
    · rw [if_pos c2]; exact Or.inl ⟨rfl, Or.inr c2⟩
    · rw [if_neg c2]
      refine Or.inr ⟨v.toInt.toNat, ?_, ?_, ?_, rfl⟩
      · rw [na_ltI, nI_toInt (by omega)] at c; omega
      · rw [na_ltI, nI_toInt hb] at c2; omega
      · rw [na_ltI, nI_toInt (by omega)] at c
        rw [na_ltI, nI_toInt hb] at c2
        apply Int32.toInt_inj.mp
        rw [nI_toInt (by omega)]
        omega
theorem q_meet (hR : RV m T S n us I E B F) {a b c d : Int32} : ∃ r m1, bp_meet a b c d m = some r ∧ md_meet a b c d m = some (r, m1) ∧ frQ m m1 := by
  unfold bp_meet md_meet
  have i1 := isIn_c (v := a) (a := 1) (b := 999) (M := mj_up m 68 2 (.int 0)) (by decide) (by decide)
  have i2 := isIn_c (v := b) (a := 0) (b := 999) (M := mj_up m 68 2 (.int 0)) (by decide) (by decide)
  have i3 := isIn_c (v := c) (a := 1) (b := 999) (M := mj_up m 68 2 (.int 0)) (by decide) (by decide)
  have i4 := isIn_c (v := d) (a := 0) (b := 999) (M := mj_up m 68 2 (.int 0)) (by decide) (by decide)
  have z1 : (nI 1 : Int32) = 1 := rfl
  have z0 : (nI 0 : Int32) = 0 := rfl
  have z9 : (nI 999 : Int32) = 999 := rfl
  rw [z1, z9] at i1 i3
  rw [z0, z9] at i2 i4
  have out : ∀ {v l h : Int32} {α : Type} {x y : α}, (v < l ∨ h < v) → (if v < l then x else if h < v then x else y) = x := fun hv => by
    rcases hv with hv | hv
    · rw [if_pos hv]
    · rw [if_pos hv, ite_self]
  rcases i1 with ⟨j1, k1⟩ | ⟨A, A1, A2, rfl, j1⟩
  · rw [out k1, j1, if_pos rfl]; exact ⟨_, _, rfl, rfl, frQ_2⟩
  rcases i3 with ⟨j3, k3⟩ | ⟨C, C1, C2, rfl, j3⟩
  · rw [j1, if_neg not01, j3, if_pos rfl]
    refine ⟨-1, _, ?_, rfl, frQ_2⟩
    rw [out (v := c) (l := 1) (h := 999) k3]
    simp only [ite_self]
  rcases i2 with ⟨j2, k2⟩ | ⟨B, B1, B2, rfl, j2⟩
  · rw [j1, if_neg not01, j3, if_neg not01, j2, if_pos rfl]
    refine ⟨-1, _, ?_, rfl, frQ_2⟩
    rw [out (v := b) (l := 0) (h := 999) k2]
    simp only [ite_self]
  rw [j1, if_neg not01, j3, if_neg not01, j2, if_neg not01]
  have a1 : ¬ nI A < 1 := nI_nlt (a := A) (b := 1) A1 (by omega)
  have a2 : ¬ (999 : Int32) < nI A := nI_nlt (a := 999) (b := A) A2 (by decide)
  have b1 : ¬ nI B < 0 := nI_pos (by omega)
  have b2 : ¬ (999 : Int32) < nI B := nI_nlt (a := 999) (b := B) B2 (by decide)
  have c1 : ¬ nI C < 1 := nI_nlt (a := C) (b := 1) C1 (by omega)
  have c2 : ¬ (999 : Int32) < nI C := nI_nlt (a := 999) (b := C) C2 (by decide)
  rw [if_neg a1, if_neg a2, if_neg b1, if_neg b2, if_neg c1, if_neg c2]
  rcases i4 with ⟨j4, k4⟩ | ⟨D, D1, D2, rfl, j4⟩
  · rw [j4, if_pos rfl]
    refine ⟨-1, _, ?_, rfl, frQ_2⟩
    rcases k4 with k | k
    · rw [if_pos k]
    · by_cases q : d < 0
      · rw [if_pos q]
      · rw [if_neg q, if_neg (by rw [na_leI]; rw [na_ltI] at k; omega)]
  have d1 : ¬ nI D < 0 := nI_pos (by omega)
  have d2 : nI D ≤ 999 := nI_le (b := 999) D2 (by decide)
  have cn0 : ¬ nI C = 0 := nI_ne0 (by omega) (by omega)
  have an0 : ¬ nI A = 0 := nI_ne0 (by omega) (by omega)
  rw [j4, if_neg not01, if_neg d1, if_pos d2, if_neg an0]
  -- the first minute of the one that isn't ahead of the other's first
  have hdl : nI D ≤ nI B ↔ D ≤ B := nI_leI (by omega) (by omega)
  simp only [hdl]
  have hfirst : ∃ f, f ≤ 3000 ∧ (if D ≤ B then bp_meet_j74 (nI A) (nI C) (nI D) (nI B) m else bp_meet_j74 (nI A) (nI C) (nI D) (nI B + (nI D - nI B + nI A - 1) / nI A * nI A) m) = bp_meet_j74 (nI A) (nI C) (nI D) (nI f) m ∧ ∃ t s, mj_loop (md_meet_l55 (nI A) (nI C) (nI D)) mj_F (nI B, mj_up m 68 2 (.int 0)) = some (t, s) ∧ s = (nI f, mj_up m 68 2 (.int 0)) := by
    by_cases cd : D ≤ B
    · refine ⟨B, by omega, by rw [if_pos cd], 0, _, ?_, rfl⟩
      refine lp_eq (fun _ => (nI B, mj_up m 68 2 (.int 0))) 0 (by decide) (fun i hi => absurd hi (by omega)) ?_
      unfold md_meet_l55
      dsimp only
      rw [if_pos (hdl.mpr cd)]
    · have q1 : (D - B + A - 1) / A ≤ 1998 := Nat.le_trans (Nat.div_le_self _ _) (by omega)
      have q2 : (D - B + A - 1) / A * A ≤ D - B + A - 1 := Nat.div_mul_le_self _ _
      refine ⟨B + (D - B + A - 1) / A * A, by omega, ?_, 0, _, ?_, rfl⟩
      · rw [if_neg cd, pk_sub (by omega), nI_add, show (1 : Int32) = nI 1 from rfl, pk_sub (by omega), pk_div (by omega) (by omega) (by omega), pk_mul, nI_add]
      · refine (lp_eq (fun j => (nI (B + j * A), mj_up m 68 2 (.int 0))) ((D - B + A - 1) / A) (by unfold mj_F; omega) (fun j hj => ?_) ?_ : mj_loop (md_meet_l55 (nI A) (nI C) (nI D)) mj_F (nI (B + 0 * A), mj_up m 68 2 (.int 0)) = _) |> (fun z => by rw [Nat.zero_mul, Nat.add_zero] at z; exact z)
        · have := up_div (D := D - B) A1 hj
          unfold md_meet_l55
          dsimp only
          rw [if_neg (nI_ge (by omega) (by omega)), nI_add, Nat.succ_mul, Nat.add_assoc]
        · have := up_div2 (D := D - B) A1
          unfold md_meet_l55
          dsimp only
          rw [if_pos (nI_le (by omega) (by omega))]
  obtain ⟨f, hf, e1, t, s, e2, rfl⟩ := hfirst
  rw [e1, e2, Option.bind_some]
  dsimp only
  unfold bp_meet_j74
  obtain ⟨t1, s1, t2, u1, e3, e4, q⟩ := lpr2 (b1 := bp_meet_l79 (nI A) (nI C) (nI D) (nI f) m) (b2 := md_meet_l74 (nI A) (nI C) (nI D)) (s := (0, 0)) (u := (nI f, 0, mj_up m 68 2 (.int 0)))
    (fun i s u => s.1 = nI i ∧ u.1 = nI f + nI i * nI A ∧ u.2.1 = nI i ∧ u.2.2 = mj_up m 68 2 (.int 0))
    (fun t s t' u => u.2.2 = mj_up m 68 2 (.int 0) ∧ ((t = 0 ∧ t' = 0 ∧ s.2 = u.1) ∨ (t = 1 ∧ t' = 1))) C (by unfold mj_F; omega) ⟨rfl, by rw [show nI 0 = (0 : Int32) from rfl, Int32.zero_mul, Int32.add_zero], rfl, rfl⟩
    (by
      intro i s u hi ⟨h1, h2, h3, h4⟩
      obtain ⟨x, y⟩ := s
      obtain ⟨x', y', mm⟩ := u
      dsimp only at h1 h2 h3 h4
      subst h1 h2 h3 h4
      unfold bp_meet_l79 md_meet_l74
      dsimp only
      rw [if_neg (nI_ge hi (by omega)), if_neg (nI_ge hi (by omega)), if_neg cn0, if_neg cn0]
      by_cases cc : nI f + nI i * nI A - nI D - (nI f + nI i * nI A - nI D) / nI C * nI C = 0
      · rw [if_pos cc, if_pos cc]
        exact Or.inr ⟨0, _, 0, _, rfl, rfl, rfl, Or.inl ⟨rfl, rfl, rfl⟩⟩
      · rw [if_neg cc, if_neg cc]
        refine Or.inl ⟨_, _, rfl, rfl, (nI_succ i).symm, ?_, (nI_succ i).symm, rfl⟩
        show nI f + nI i * nI A + nI A = nI f + nI (i + 1) * nI A
        rw [pk_mul, pk_mul, nI_add, nI_add, nI_add, Nat.succ_mul, Nat.add_assoc])
    (by
      intro s u ⟨h1, h2, h3, h4⟩
      obtain ⟨x, y⟩ := s
      obtain ⟨x', y', mm⟩ := u
      dsimp only at h1 h2 h3 h4
      subst h1 h2 h3 h4
      unfold bp_meet_l79 md_meet_l74
      dsimp only
      rw [if_pos (nI_le (Nat.le_refl _) (by omega)), if_pos (nI_le (Nat.le_refl _) (by omega))]
      exact ⟨1, _, 1, _, rfl, rfl, rfl, Or.inr ⟨rfl, rfl⟩⟩)
  rw [e3, e4, Option.bind_some, Option.bind_some]
  dsimp only
  obtain ⟨q0, q⟩ := q
  rcases q with ⟨rfl, rfl, q⟩ | ⟨rfl, rfl⟩
  · rw [if_pos rfl, if_pos rfl, q0, q]; exact ⟨_, _, rfl, rfl, frQ_2⟩
  · rw [if_neg (by decide), if_neg (by decide), q0]; exact ⟨_, _, rfl, rfl, frQ_2⟩
end ASK5
