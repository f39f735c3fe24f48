/-! A KNOT, A LAW, ON THE REFERENCE'S SIDE (own work) -/
theorem frE_err {m m1 : mj_M} (h : frE m m1) : m1 86 = m 86 ∧ m1 87 = m 87 ∧ m1 88 = m 88 ∧ m1 91 = m 91 ∧ m1 92 = m 92 := ⟨funext fun b => h _ b (by omega), funext fun b => h _ b (by omega), funext fun b => h _ b (by omega), funext fun b => h _ b (by omega), funext fun b => h _ b (by omega)⟩
/-- what a knot leaves: its value on top, or the sign of an error -/
def okR (m m1 : mj_M) (v : Int64) (o : Option (List Int64)) (r : List Int64) : Prop := frE m m1 ∧ (mj_I (m 68 50) = 1 → mj_I (m1 68 50) = 1) ∧ (mj_I (m 68 50) = 0 → (o = some (v :: r) ∧ mj_I (m1 68 50) = 0) ∨ (o = none ∧ mj_I (m1 68 50) = 1))
theorem okR_same {m : mj_M} {v : Int64} {r : List Int64} : okR m m v (some (v :: r)) r := ⟨frE_rfl, id, fun h => Or.inl ⟨rfl, h⟩⟩
theorem okR_bit {m : mj_M} {c : Prop} {d : Decidable c} {r : List Int64} {v : Int64} (hv : v = @ite _ c d (1 : Int64) 0) : okR m m v (some ((@ite _ c d (1 : Int64) 0) :: r)) r := by
  subst hv
  exact okR_same
theorem okR_if {m : mj_M} {v : Int64} {c : Prop} {d : Decidable c} {r : List Int64} (he : mj_I (m 68 50) = 0 ∨ mj_I (m 68 50) = 1) : ∃ v1 m1, (if mj_I (m 68 50) = 0 ∧ ¬ c then some (v, er m 0) else some (0, er m 1)) = some (v1, m1) ∧ okR m m1 v1 (@ite _ c d none (some (v :: r))) r := by
  rcases he with he | he
  · by_cases hc : c
    · rw [if_neg (fun z => z.2 hc), if_pos hc]
      exact ⟨_, _, rfl, frE_er, fun h => rfl, fun _ => Or.inr ⟨rfl, rfl⟩⟩
    · rw [if_pos ⟨he, hc⟩, if_neg hc]
      exact ⟨_, _, rfl, frE_er, fun h => (by rw [he] at h; exact absurd h (by decide)), fun _ => Or.inl ⟨rfl, rfl⟩⟩
  · rw [if_neg (fun z => by rw [he] at z; exact absurd z.1 (by decide))]
    exact ⟨_, _, rfl, frE_er, fun h => rfl, fun h => (by rw [he] at h; exact absurd h (by decide))⟩
def Vm (m : mj_M) (st : List Nat) : List Int64 := st.map (fun j => mj_J (m 92 j))
theorem md_valueOf_e {m : mj_M} {c k : Nat} {st : List Nat} {N : Nat → Int64} (hk : k < 64) (hst : ∀ j ∈ st, j < 64) (hR : knR m c k st) (hO : kOk c st.length) (hN : ∀ j, j < 7 → mj_J (m 91 j) = N j) (he : mj_I (m 68 50) = 0 ∨ mj_I (m 68 50) = 1) (hin : mj_I (m 68 50) = 0 → ∀ x ∈ Vm m st, inM x) : ∃ v m1, md_valueOf (nI k) m = some (v, m1) ∧ okR m m1 v (sKnot c N (Vm m st)) (Vm m (restN c st)) := by
  have o1 : (nI k < 0) = False := eq_false (nI_pos (by omega))
  have o1' : (128 ≤ k) = False := eq_false (by omega)
  have o2 : (nI k).toNatClampNeg = k := nI_clamp (by omega)
  have o3 : ∀ j, j < 64 → (nI j < 0) = False := fun j hj => eq_false (nI_pos (by omega))
  have o3' : ∀ j, j < 64 → (64 ≤ j) = False := fun j hj => eq_false (by omega)
  have o4 : ∀ j, j < 64 → (nI j).toNatClampNeg = j := fun j hj => nI_clamp (by omega)
  unfold md_valueOf
  simp only [o1, o1', o2, or_self, if_false]
  rcases hO with h1 | ⟨h1, h2⟩ | ⟨g, h1, h2, h3⟩
  · by_cases c1 : c < 10000
    · obtain ⟨r1, r2⟩ := hR.1 c1
      rw [r1, r2, if_pos (show (0 : Int32) = 0 from rfl), nI_l (by omega)]
      unfold sKnot restN
      rw [if_pos c1, if_pos (show c < 20000 by omega)]
      exact ⟨_, _, rfl, okR_same⟩
    · obtain ⟨r1, r2⟩ := hR.2.1 (by omega) (by omega)
      have hj : c - 10000 < 7 := by omega
      have o5 : (nI (c - 10000) < 0 ∨ 7 ≤ (nI (c - 10000)).toNatClampNeg) = False := eq_false (nI_in hj (by decide))
      rw [r1, r2, if_neg (show ¬ (1 : Int32) = 0 by decide), if_pos (show (1 : Int32) = 1 from rfl)]
      simp only [o5, if_false]
      rw [nI_clamp (by omega), hN _ hj]
      unfold sKnot restN
      rw [if_neg c1, if_pos (show c < 20000 by omega), if_pos (show c < 20000 by omega)]
      exact ⟨_, _, rfl, okR_same⟩
  · subst h1
    obtain ⟨r1, r2⟩ := hR.2.2.1 rfl
    cases st with
    | nil => simp at h2
    | cons a s =>
      have ha : a < 64 := hst a (by simp)
      have r2 : mj_I (m 87 k) = nI a := r2
      rw [r1, r2, if_neg (show ¬ (2 : Int32) = 0 by decide), if_neg (show ¬ (2 : Int32) = 1 by decide), if_pos (show (2 : Int32) = 2 from rfl)]
      simp only [o3 a ha, o3' a ha, o4 a ha, or_self, if_false]
      show ∃ v m1, (if lg_cmp (mj_J (m 92 a)) 0 = 0 then some ((1 : Int64), m) else some (0, m)) = some (v, m1) ∧ okR m m1 v (some ((if mj_J (m 92 a) = 0 then 1 else 0) :: Vm m s)) (Vm m s)
      simp only [lgc_eq]
      by_cases hz : mj_J (m 92 a) = 0
      · rw [if_pos hz]
        exact ⟨_, _, rfl, okR_bit (by rw [if_pos hz])⟩
      · rw [if_neg hz]
        exact ⟨_, _, rfl, okR_bit (by rw [if_neg hz])⟩
  · subst h1
    obtain ⟨r1, r2, r3⟩ := hR.2.2.2 g rfl h2
    cases st with
    | nil => simp at h3
    | cons b s0 =>
    cases s0 with
    | nil => simp at h3
    | cons a s =>
      have ha : a < 64 := hst a (by simp)
      have hb : b < 64 := hst b (by simp)
      have r2 : mj_I (m 87 k) = nI a := r2
      have r3 : mj_I (m 88 k) = nI b := r3
      have ib : mj_I (m 68 50) = 0 → inM (mj_J (m 92 b)) := fun h => hin h _ (by simp [Vm])
      have ia : mj_I (m 68 50) = 0 → inM (mj_J (m 92 a)) := fun h => hin h _ (by simp [Vm])
      have hs : sKnot (20000 + g) N (Vm m (b :: a :: s)) = sBin g (mj_J (m 92 a)) (mj_J (m 92 b)) (Vm m s) := by
        have n1 : ¬ 20000 + g < 10000 := by omega
        have n2 : ¬ 20000 + g < 20000 := by omega
        have n3 : ¬ 20000 + g = 20011 := by unfold gOk at h2; omega
        unfold sKnot
        rw [if_neg n1, if_neg n2, if_neg n3]
        show sBin (20000 + g - 20000) _ _ _ = _
        rw [Nat.add_sub_cancel_left]
        rfl
      have hr : restN (20000 + g) (b :: a :: s) = s := by
        have n2 : ¬ 20000 + g < 20000 := by omega
        have n3 : ¬ 20000 + g = 20011 := by unfold gOk at h2; omega
        unfold restN
        rw [if_neg n2, if_neg n3]
        rfl
      rw [hs, hr]
      have hl : lwk g < 16 ∧ 3 ≤ lwk g := by
        unfold gOk at h2
        unfold lwk
        split
        · omega
        · split <;> omega
      have ne : ∀ x : Nat, x < 16 → (nI (lwk g) = nI x ↔ lwk g = x) := fun x hx => nI_eq (by omega) (by omega)
      have n0 : (nI (lwk g) = 0) = False := eq_false (fun z => by have := (ne 0 (by decide)).mp z; omega)
      have n1 : (nI (lwk g) = 1) = False := eq_false (fun z => by have := (ne 1 (by decide)).mp z; omega)
      have n2 : (nI (lwk g) = 2) = False := eq_false (fun z => by have := (ne 2 (by decide)).mp z; omega)
      have n3 : (nI (lwk g) = 3) = (lwk g = 3) := propext (ne 3 (by decide))
      have n4 : (nI (lwk g) = 4) = (lwk g = 4) := propext (ne 4 (by decide))
      have n5 : (nI (lwk g) = 5) = (lwk g = 5) := propext (ne 5 (by decide))
      have n6 : (nI (lwk g) = 6) = (lwk g = 6) := propext (ne 6 (by decide))
      have n7 : (nI (lwk g) = 7) = (lwk g = 7) := propext (ne 7 (by decide))
      have n8 : (nI (lwk g) = 8) = (lwk g = 8) := propext (ne 8 (by decide))
      have n9 : (nI (lwk g) = 9) = (lwk g = 9) := propext (ne 9 (by decide))
      have n10 : (nI (lwk g) = 10) = (lwk g = 10) := propext (ne 10 (by decide))
      have n11 : (nI (lwk g) = 11) = (lwk g = 11) := propext (ne 11 (by decide))
      have n12 : (nI (lwk g) = 12) = (lwk g = 12) := propext (ne 12 (by decide))
      have n13 : (nI (lwk g) = 13) = (lwk g = 13) := propext (ne 13 (by decide))
      have n14 : (nI (lwk g) = 14) = (lwk g = 14) := propext (ne 14 (by decide))
      simp only [r1, r2, r3, o3 a ha, o3' a ha, o4 a ha, o3 b hb, o3' b hb, o4 b hb, or_self, if_false, n0, n1, n2, n3, n4, n5, n6, n7, n8, n9, n10, n11, n12, n13, n14]
      generalize mj_J (m 92 a) = x at ia
      generalize mj_J (m 92 b) = y at ib
      unfold sBin
      rcases h2 with rfl | rfl | ⟨h4, h5⟩
      · have el : lwk 12 = 3 := rfl
        simp only [el, if_true]
        show ∃ v m1, (if lg_cmp x 0 = 0 then some ((0 : Int64), m) else if lg_cmp y 0 = 0 then some (0, m) else some (1, m)) = some (v, m1) ∧ okR m m1 v (some ((if decide (x ≠ 0 ∧ y ≠ 0) = true then 1 else 0) :: Vm m s)) (Vm m s)
        simp only [lgc_eq, decide_eq_true_eq]
        by_cases hx : x = 0
        · exact ⟨0, m, by rw [if_pos hx], okR_bit (by simp [hx])⟩
        · by_cases hy : y = 0
          · exact ⟨0, m, by rw [if_neg hx, if_pos hy], okR_bit (by simp [hy])⟩
          · exact ⟨1, m, by rw [if_neg hx, if_neg hy], okR_bit (by simp [hx, hy])⟩
      · have el : lwk 13 = 4 := rfl
        simp only [el, show (4 : Nat) = 3 ↔ False by decide, if_false, if_true]
        show ∃ v m1, (if lg_cmp x 0 = 0 then (if lg_cmp y 0 = 0 then some ((0 : Int64), m) else some (1, m)) else some (1, m)) = some (v, m1) ∧ okR m m1 v (some ((if decide (x ≠ 0 ∨ y ≠ 0) = true then 1 else 0) :: Vm m s)) (Vm m s)
        simp only [lgc_eq, decide_eq_true_eq]
        by_cases hx : x = 0
        · by_cases hy : y = 0
          · exact ⟨0, m, by rw [if_pos hx, if_pos hy], okR_bit (by simp [hx, hy])⟩
          · exact ⟨1, m, by rw [if_pos hx, if_neg hy], okR_bit (by simp [hy])⟩
        · exact ⟨1, m, by rw [if_neg hx], okR_bit (by simp [hx])⟩
      · have el : lwk g = g - 23 := by unfold lwk; rw [if_neg (show ¬ g = 12 by omega), if_neg (show ¬ g = 13 by omega)]
        have cmpc : 28 ≤ g → g ≤ 33 → ∃ v m1, md_valueOf_j259 (nI k) x y m = some (v, m1) ∧ okR m m1 v (if g = 34 then sPush (x + y) (Vm m s) else if g = 35 then sPush (x - y) (Vm m s) else if g = 36 then (if zM < x.toInt * y.toInt ∨ x.toInt * y.toInt < -zM then none else some (x * y :: Vm m s)) else if g = 37 then (if y = 0 then none else some (x / y :: Vm m s)) else some ((if sHolds g x y = true then 1 else 0) :: Vm m s)) (Vm m s) := by
          intro q1 q2
          unfold md_valueOf_j259
          simp only [o1, o1', o2, or_self, if_false]
          rw [r1, el, md_compares_e q1 q2, if_neg (show ¬ g = 34 by omega), if_neg (show ¬ g = 35 by omega), if_neg (show ¬ g = 36 by omega), if_neg (show ¬ g = 37 by omega)]
          by_cases hh : sHolds g x y = true
          · rw [if_pos hh, if_neg (show ¬ (1 : Int32) = 0 by decide)]
            exact ⟨_, _, rfl, okR_bit (by rw [if_pos hh])⟩
          · rw [if_neg hh, if_pos (show (0 : Int32) = 0 from rfl)]
            exact ⟨_, _, rfl, okR_bit (by rw [if_neg hh])⟩
        rw [el]
        rcases (show g ≤ 33 ∨ g = 34 ∨ g = 35 ∨ g = 36 ∨ g = 37 by omega) with q | rfl | rfl | rfl | rfl
        · have p3 : (g - 23 = 3) = False := eq_false (by omega)
          have p4 : (g - 23 = 4) = False := eq_false (by omega)
          have p11 : (g - 23 = 11) = False := eq_false (by omega)
          have p12 : (g - 23 = 12) = False := eq_false (by omega)
          have p13 : (g - 23 = 13) = False := eq_false (by omega)
          have p14 : (g - 23 = 14) = False := eq_false (by omega)
          simp only [p3, p4, p11, p12, p13, p14, if_false, ite_self]
          exact cmpc h4 q
        · simp (decide := true) only [if_true, if_false]
          rw [md_bounded_e he]
          obtain ⟨v1, m1, e1, k1⟩ := okR_if (m := m) (v := x + y) (c := zM < (x + y).toInt ∨ (x + y).toInt < -zM) (d := inferInstance) (r := Vm m s) he
          rw [e1]
          exact ⟨v1, m1, rfl, k1⟩
        · simp (decide := true) only [if_true, if_false]
          rw [md_bounded_e he]
          obtain ⟨v1, m1, e1, k1⟩ := okR_if (m := m) (v := x - y) (c := zM < (x - y).toInt ∨ (x - y).toInt < -zM) (d := inferInstance) (r := Vm m s) he
          rw [e1]
          exact ⟨v1, m1, rfl, k1⟩
        · simp (decide := true) only [if_true, if_false]
          rw [md_times_e he (fun h => ⟨ia h, ib h⟩)]
          obtain ⟨v1, m1, e1, k1⟩ := okR_if (m := m) (v := x * y) (c := zM < x.toInt * y.toInt ∨ x.toInt * y.toInt < -zM) (d := inferInstance) (r := Vm m s) he
          rw [e1]
          exact ⟨v1, m1, rfl, k1⟩
        · simp (decide := true) only [if_true, if_false]
          have key : (if mj_I (m 68 50) = 0 then (if lg_cmp y 0 = 0 then md_valueOf_j235 x y m else md_valueOf_j240 x y 0 m) else md_valueOf_j235 x y m) = (if mj_I (m 68 50) = 0 ∧ ¬ y = 0 then some (x / y, er m 0) else some (0, er m 1)) := by
            unfold md_valueOf_j235 md_valueOf_j240 er
            simp only [lgc_eq]
            rcases he with he | he <;> rw [he] <;> by_cases hy : y = 0 <;> simp [hy]
          rw [key]
          exact okR_if he
