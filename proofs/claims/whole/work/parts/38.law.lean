/-! LAWS, ON BOTH SIDES: a stack of numbers (own work) -/
theorem lgc (x y : Int64) : (y.toInt < x.toInt ∧ lg_cmp x y = 1) ∨ (x.toInt = y.toInt ∧ lg_cmp x y = 0) ∨ (x.toInt < y.toInt ∧ lg_cmp x y = -1) := by
  unfold lg_cmp
  by_cases h : x > y
  · rw [if_pos h]; exact Or.inl ⟨Int64.lt_iff_toInt_lt.mp h, rfl⟩
  · rw [if_neg h]
    by_cases h2 : x = y
    · rw [if_pos h2, h2]; exact Or.inr (Or.inl ⟨rfl, rfl⟩)
    · rw [if_neg h2]
      refine Or.inr (Or.inr ⟨?_, rfl⟩)
      have h3 : ¬ y.toInt < x.toInt := fun z => h (Int64.lt_iff_toInt_lt.mpr z)
      have h4 : ¬ x.toInt = y.toInt := fun z => h2 (Int64.toInt_inj.mp z)
      omega
theorem lgc_pos {x y : Int64} : 0 < lg_cmp x y ↔ y.toInt < x.toInt := by
  rcases lgc x y with ⟨a, e⟩ | ⟨a, e⟩ | ⟨a, e⟩ <;> rw [e]
  · exact ⟨fun _ => a, fun _ => by decide⟩
  · exact ⟨fun h => absurd h (by decide), fun h => by omega⟩
  · exact ⟨fun h => absurd h (by decide), fun h => by omega⟩
theorem lgc_ge {x y : Int64} : 0 ≤ lg_cmp x y ↔ y.toInt ≤ x.toInt := by
  rcases lgc x y with ⟨a, e⟩ | ⟨a, e⟩ | ⟨a, e⟩ <;> rw [e]
  · exact ⟨fun _ => by omega, fun _ => by decide⟩
  · exact ⟨fun _ => by omega, fun _ => by decide⟩
  · exact ⟨fun h => absurd h (by decide), fun h => by omega⟩
theorem lgc_le {x y : Int64} : lg_cmp x y ≤ 0 ↔ x.toInt ≤ y.toInt := by
  rcases lgc x y with ⟨a, e⟩ | ⟨a, e⟩ | ⟨a, e⟩ <;> rw [e]
  · exact ⟨fun h => absurd h (by decide), fun h => by omega⟩
  · exact ⟨fun _ => by omega, fun _ => by decide⟩
  · exact ⟨fun _ => by omega, fun _ => by decide⟩
theorem lgc_lt {x y : Int64} : lg_cmp x y < 0 ↔ x.toInt < y.toInt := by
  rcases lgc x y with ⟨a, e⟩ | ⟨a, e⟩ | ⟨a, e⟩ <;> rw [e]
  · exact ⟨fun h => absurd h (by decide), fun h => by omega⟩
  · exact ⟨fun h => absurd h (by decide), fun h => by omega⟩
  · exact ⟨fun _ => a, fun _ => by decide⟩
theorem lgc_eq {x y : Int64} : lg_cmp x y = 0 ↔ x = y := by
  rw [← Int64.toInt_inj]
  rcases lgc x y with ⟨a, e⟩ | ⟨a, e⟩ | ⟨a, e⟩ <;> rw [e]
  · exact ⟨fun h => absurd h (by decide), fun h => by omega⟩
  · exact ⟨fun _ => a, fun _ => rfl⟩
  · exact ⟨fun h => absurd h (by decide), fun h => by omega⟩
theorem lM : ((1000000000000 : Int64)).toInt = zM := by decide +kernel
theorem lMn : ((-1000000000000 : Int64)).toInt = -zM := by decide +kernel
theorem lZ : ((0 : Int64)).toInt = 0 := by decide +kernel
/-- what |v| may be -/
def inM (v : Int64) : Prop := -zM ≤ v.toInt ∧ v.toInt ≤ zM
theorem inM_bit {c : Prop} {d : Decidable c} : inM (@ite _ c d (1 : Int64) 0) := by
  by_cases h : c
  · rw [if_pos h]; unfold inM; decide +kernel
  · rw [if_neg h]; unfold inM; decide +kernel
theorem inM_lN {n : Nat} (h : n < 2 ^ 31) : inM (lN n) := by
  unfold inM zM
  rw [lN_toInt h]
  omega
theorem sPush_in {v : Int64} {s s1 : List Int64} (h : sPush v s = some s1) (hs : ∀ x ∈ s, inM x) : ∀ x ∈ s1, inM x := by
  unfold sPush at h
  by_cases c : zM < v.toInt ∨ v.toInt < -zM
  · rw [if_pos c] at h; cases h
  · rw [if_neg c] at h
    cases h
    intro x hx
    rcases List.mem_cons.mp hx with rfl | hx
    · unfold inM; omega
    · exact hs x hx
/-- the class's stack -/
def sv (m : mj_M) : List Int64 → Prop
  | [] => True
  | v :: r => mj_J (m 40 r.length) = v ∧ sv m r
def SV (m : mj_M) (s : List Int64) : Prop := mj_I (m 38 3) = 0 ∧ mj_I (m 38 2) = nI s.length ∧ sv m s
theorem sv_up {m m1 : mj_M} : ∀ {s : List Int64}, (∀ j, j < s.length → m1 40 j = m 40 j) → sv m s → sv m1 s
  | [], _, _ => trivial
  | v :: r, h, hs => ⟨by rw [h r.length (by simp)]; exact hs.1, sv_up (fun j hj => h j (by simp; omega)) hs.2⟩
/-- behind a knot: the stack, or wrong -/
def wr (m : mj_M) : Prop := mj_I (m 38 3) = 1 ∧ ∃ n : Nat, n ≤ 64 ∧ mj_I (m 38 2) = nI n
def okC (o : Option (List Int64)) (m : mj_M) : Prop := (∀ s, o = some s → SV m s) ∧ (o = none → wr m)
theorem okC_some {s : List Int64} {m : mj_M} (h : SV m s) : okC (some s) m := ⟨fun s1 e => by cases e; exact h, fun e => by cases e⟩
theorem okC_none {m : mj_M} (h : wr m) : okC none m := ⟨fun s1 e => (by cases e), fun _ => h⟩
theorem rk_wrong {m : mj_M} : mj_I ((mj_up m 38 3 (.int 1)) 38 3) = 1 := rfl
theorem rk_push_e {m : mj_M} {s : List Int64} (h : SV m s) (hl : s.length < 64) (v : Int64) : ∃ m1, rk_push v m = some m1 ∧ (∀ k, k ≠ 38 → k ≠ 40 → m1 k = m k) ∧ okC (sPush v s) m1 := by
  unfold rk_push sPush
  have hp : nI s.length < 0 ↔ False := iff_false_intro (nI_pos (by omega))
  rw [h.2.1, if_neg (show ¬ nI s.length < 0 from nI_pos (by omega)), if_neg (show ¬ Int32.ofNat 64 ≤ nI s.length from nI_ge hl (by decide))]
  by_cases h1 : zM < v.toInt
  · have e1 : 0 < lg_cmp v 1000000000000 := by rw [lgc_pos, lM]; exact h1
    have e2 : zM < v.toInt ∨ v.toInt < -zM := Or.inl h1
    rw [if_pos e1, if_pos e2]
    exact ⟨_, rfl, fun k hk _ => fr_up hk, okC_none ⟨rk_wrong, s.length, by omega, h.2.1⟩⟩
  · have e1 : ¬ 0 < lg_cmp v 1000000000000 := by rw [lgc_pos, lM]; exact h1
    rw [if_neg e1]
    by_cases h2 : v.toInt < -zM
    · have e2 : ¬ 0 ≤ lg_cmp v (-1000000000000) := by rw [lgc_ge, lMn]; omega
      have e3 : zM < v.toInt ∨ v.toInt < -zM := Or.inr h2
      rw [if_neg e2, if_pos e3]
      exact ⟨_, rfl, fun k hk _ => fr_up hk, okC_none ⟨rk_wrong, s.length, by omega, h.2.1⟩⟩
    · have e2 : 0 ≤ lg_cmp v (-1000000000000) := by rw [lgc_ge, lMn]; omega
      have e3 : ¬ (zM < v.toInt ∨ v.toInt < -zM) := by omega
      rw [if_pos e2, if_neg (nI_in hl (by decide)), if_neg e3]
      refine ⟨_, rfl, fun k hk hk2 => (fr_up hk).trans (fr_up hk2), okC_some ⟨?_, ?_, ?_, ?_⟩⟩
      · exact h.1
      · show nI s.length + 1 = _
        rw [← nI_succ]; rfl
      · rw [nI_clamp (by omega)]
        simp [mj_up, mj_J]
      · refine sv_up (fun j hj => ?_) h.2.2
        rw [nI_clamp (by omega)]
        have : j ≠ s.length := by omega
        simp [mj_up, this]
theorem rk_pop_e {m : mj_M} {v : Int64} {s : List Int64} (h : SV m (v :: s)) (hl : s.length < 64) : ∃ m1, rk_pop m = some (v, m1) ∧ (∀ k, k ≠ 38 → m1 k = m k) ∧ SV m1 s := by
  unfold rk_pop
  have e : mj_I (m 38 2) = nI (s.length + 1) := h.2.1
  have e1 : nI (s.length + 1) - 1 = nI s.length := nI_pred _
  have hl2 : s.length < 2 ^ 31 := by omega
  rw [e, if_neg (show ¬ nI (s.length + 1) < 1 from nI_nlt (a := s.length + 1) (b := 1) (by omega) (by omega)), if_pos (show nI (s.length + 1) ≤ Int32.ofNat 64 from nI_le (a := s.length + 1) (b := 64) (by omega) (by decide)), e1, if_neg (nI_in hl (by decide)), nI_clamp hl2, h.2.2.1]
  exact ⟨_, rfl, fun k hk => fr_up hk, h.1, rfl, sv_up (m := m) (fun j _ => rfl) h.2.2.2⟩
theorem rk_holds_e {g : Nat} (hg : g = 12 ∨ g = 13 ∨ (28 ≤ g ∧ g ≤ 33)) {a b : Int64} {m : mj_M} : rk_holds (nI g) a b m = if sHolds g a b = true then 1 else 0 := by
  have z : ∀ x y : Int64, (x < y ↔ x.toInt < y.toInt) := fun x y => Int64.lt_iff_toInt_lt
  have z2 : ∀ x y : Int64, (x ≤ y ↔ x.toInt ≤ y.toInt) := fun x y => Int64.le_iff_toInt_le
  have z3 : ∀ x y : Int64, (x = y ↔ x.toInt = y.toInt) := fun x y => Int64.toInt_inj.symm
  rcases hg with rfl | rfl | ⟨h1, h2⟩
  · show (if lg_cmp a 0 = 0 then (0 : Int32) else if lg_cmp b 0 = 0 then 0 else 1) = if decide (a ≠ 0 ∧ b ≠ 0) = true then 1 else 0
    simp only [lgc_eq, decide_eq_true_eq]
    by_cases ha : a = 0 <;> by_cases hb : b = 0 <;> simp [ha, hb]
  · show (if lg_cmp a 0 = 0 then (if lg_cmp b 0 = 0 then (0 : Int32) else 1) else 1) = if decide (a ≠ 0 ∨ b ≠ 0) = true then 1 else 0
    simp only [lgc_eq, decide_eq_true_eq]
    by_cases ha : a = 0 <;> by_cases hb : b = 0 <;> simp [ha, hb]
  · rcases (show g = 28 ∨ g = 29 ∨ g = 30 ∨ g = 31 ∨ g = 32 ∨ g = 33 by omega) with rfl | rfl | rfl | rfl | rfl | rfl
    · show (if 0 ≤ lg_cmp a b then (0 : Int32) else 1) = if decide (a < b) = true then 1 else 0
      simp only [lgc_ge, decide_eq_true_eq, z]
      split <;> split <;> first | rfl | omega
    · show (if 0 < lg_cmp a b then (0 : Int32) else 1) = if decide (a ≤ b) = true then 1 else 0
      simp only [lgc_pos, decide_eq_true_eq, z2]
      split <;> split <;> first | rfl | omega
    · show (if lg_cmp a b = 0 then (1 : Int32) else 0) = if decide (a = b) = true then 1 else 0
      simp only [lgc_eq, decide_eq_true_eq]
    · show (if lg_cmp a b = 0 then (0 : Int32) else 1) = if decide (a ≠ b) = true then 1 else 0
      simp only [lgc_eq, decide_eq_true_eq]
      by_cases c : a = b <;> simp [c]
    · show (if lg_cmp a b < 0 then (0 : Int32) else 1) = if decide (b ≤ a) = true then 1 else 0
      simp only [lgc_lt, decide_eq_true_eq, z2]
      split <;> split <;> first | rfl | omega
    · show (if lg_cmp a b ≤ 0 then (0 : Int32) else 1) = if decide (b < a) = true then 1 else 0
      simp only [lgc_le, decide_eq_true_eq, z]
      split <;> split <;> first | rfl | omega
