/-! A LAW'S VALUE, ON THE CLASS'S SIDE (own work) -/
/-- the numbers of the knots whose values stand on the stack -/
def stk (f : Nat → Nat) (a : Nat) : Nat → List Nat
  | 0 => []
  | n + 1 => if f (a + n) < 20000 then (a + n) :: stk f a n else if f (a + n) = 20011 then (a + n) :: (stk f a n).tail else (a + n) :: (stk f a n).tail.tail
def kOk (c k : Nat) : Prop := c < 10007 ∨ (c = 20011 ∧ 1 ≤ k) ∨ ∃ g, c = 20000 + g ∧ gOk g ∧ 2 ≤ k
def WL (T : zT) : Prop := ∀ l, l < 3 → T 12 l < T 13 l → (∀ i, i < T 13 l - T 12 l → kOk (T 11 (T 12 l + i)) (stk (T 11) (T 12 l) i).length) ∧ (stk (T 11) (T 12 l) (T 13 l - T 12 l)).length = 1
theorem stk_len {f : Nat → Nat} {a : Nat} : ∀ n, (stk f a n).length ≤ n := by
  intro n
  induction n with
  | zero => exact Nat.le_refl _
  | succ n ih =>
    unfold stk
    split
    · simp only [List.length_cons]; omega
    · split
      · simp only [List.length_cons, List.length_tail]; omega
      · simp only [List.length_cons, List.length_tail]; omega
theorem sRow_none {f : Nat → Nat} {N : Nat → Int64} {a i : Nat} (h : sRow f N a i = none) : ∀ n, i ≤ n → sRow f N a n = none := by
  intro n hn
  induction hn with
  | refl => exact h
  | step _ ih => show (sRow f N a _).bind _ = none; rw [ih]; rfl
theorem sRow_ok {f : Nat → Nat} {N : Nat → Int64} {a n : Nat} (hN : ∀ j, j < 7 → inM (N j)) (hk : ∀ i, i < n → kOk (f (a + i)) (stk f a i).length) : ∀ i, i ≤ n → ∀ s, sRow f N a i = some s → s.length = (stk f a i).length ∧ ∀ x ∈ s, inM x := by
  intro i
  induction i with
  | zero =>
    intro _ s h
    cases h
    exact ⟨rfl, fun x hx => by cases hx⟩
  | succ i ih =>
    intro hi s h
    have h' : (sRow f N a i).bind (sKnot (f (a + i)) N) = some s := h
    obtain ⟨s0, e0, h1⟩ := mj_bnd h'
    obtain ⟨hl, hin⟩ := ih (by omega) s0 e0
    have hk1 := hk i (by omega)
    generalize hst : stk f a i = st at hk1 hl
    unfold stk
    rw [hst]
    generalize f (a + i) = c at h1 hk1
    unfold sKnot at h1
    by_cases c1 : c < 10000
    · rw [if_pos c1] at h1
      cases h1
      rw [if_pos (show c < 20000 by omega)]
      refine ⟨by simp [hl], fun x hx => ?_⟩
      rcases List.mem_cons.mp hx with rfl | hx
      · exact inM_lN (by omega)
      · exact hin x hx
    rw [if_neg c1] at h1
    by_cases c2 : c < 20000
    · rw [if_pos c2] at h1
      cases h1
      rw [if_pos c2]
      refine ⟨by simp [hl], fun x hx => ?_⟩
      rcases List.mem_cons.mp hx with rfl | hx
      · refine hN _ ?_
        rcases hk1 with h | ⟨h, _⟩ | ⟨g, h, _⟩ <;> omega
      · exact hin x hx
    rw [if_neg c2] at h1
    rw [if_neg c2]
    by_cases c3 : c = 20011
    · rw [if_pos c3] at h1
      rw [if_pos c3]
      cases s0 with
      | nil => cases h1
      | cons b r =>
        have h1 : some ((if b = 0 then (1 : Int64) else 0) :: r) = some s := h1
        cases h1
        simp only [List.length_cons] at hl
        refine ⟨by simp only [List.length_cons, List.length_tail]; omega, fun x hx => ?_⟩
        rcases List.mem_cons.mp hx with rfl | hx
        · exact inM_bit
        · exact hin x (List.mem_cons_of_mem _ hx)
    · rw [if_neg c3] at h1
      rw [if_neg c3]
      cases s0 with
      | nil => cases h1
      | cons b r0 =>
      cases r0 with
      | nil => cases h1
      | cons a' r =>
        have h1 : sBin (c - 20000) a' b r = some s := h1
        have hb : inM b := hin b (by simp)
        have ha : inM a' := hin a' (by simp)
        have hr : ∀ x ∈ r, inM x := fun x hx => hin x (by simp [hx])
        simp only [List.length_cons] at hl
        have fin : ∀ v, inM v → some (v :: r) = some s → s.length = ((a + i) :: st.tail.tail).length ∧ ∀ x ∈ s, inM x := by
          intro v hv e
          cases e
          refine ⟨by simp only [List.length_cons, List.length_tail]; omega, fun x hx => ?_⟩
          rcases List.mem_cons.mp hx with rfl | hx
          · exact hv
          · exact hr x hx
        have finP : ∀ v, sPush v r = some s → s.length = ((a + i) :: st.tail.tail).length ∧ ∀ x ∈ s, inM x := by
          intro v e
          unfold sPush at e
          by_cases cc : zM < v.toInt ∨ v.toInt < -zM
          · rw [if_pos cc] at e; cases e
          · rw [if_neg cc] at e
            exact fin v (by unfold inM; omega) e
        unfold sBin at h1
        by_cases c34 : c - 20000 = 34
        · rw [if_pos c34] at h1; exact finP _ h1
        rw [if_neg c34] at h1
        by_cases c35 : c - 20000 = 35
        · rw [if_pos c35] at h1; exact finP _ h1
        rw [if_neg c35] at h1
        by_cases c36 : c - 20000 = 36
        · rw [if_pos c36] at h1
          by_cases cc : zM < a'.toInt * b.toInt ∨ a'.toInt * b.toInt < -zM
          · rw [if_pos cc] at h1; cases h1
          · rw [if_neg cc] at h1
            exact fin _ (by unfold inM; rw [mul_N cc]; omega) h1
        rw [if_neg c36] at h1
        by_cases c37 : c - 20000 = 37
        · rw [if_pos c37] at h1
          by_cases cc : b = 0
          · rw [if_pos cc] at h1; cases h1
          · rw [if_neg cc] at h1
            exact fin _ (inM_div ha hb cc) h1
        rw [if_neg c37] at h1
        exact fin _ inM_bit h1
theorem rk_knot_e {m : mj_M} {s : List Int64} {N : Nat → Int64} {c t : Nat} {v3 i : Int32} (h : SV m s) (hl : s.length < 64) (hin : ∀ x ∈ s, inM x) (hk : kOk c s.length) (hN : ∀ j, j < 7 → mj_J (m 39 j) = N j) (hNi : ∀ j, j < 7 → inM (N j)) (hx : fx_at m (t + 11) i = nI c) (hi : ¬ v3 ≤ i) : ∃ m1, rk_value_l29 t v3 (i, m) = some (0, (i + 1, m1)) ∧ (∀ k, k ≠ 38 → k ≠ 40 → m1 k = m k) ∧ okC (sKnot c N s) m1 := by
  have hc : c < 2 ^ 31 := by
    rcases hk with h | ⟨h, _⟩ | ⟨g, h, h2, _⟩
    · omega
    · omega
    · unfold gOk at h2; omega
  unfold rk_value_l29
  dsimp only
  rw [if_neg hi, h.1, if_pos (show (0 : Int32) = 0 from rfl), hx]
  have k1 : (10000 : Int32) ≤ nI c ↔ 10000 ≤ c := nI_leI (a := 10000) (by decide) hc
  have k2 : (20000 : Int32) ≤ nI c ↔ 20000 ≤ c := nI_leI (a := 20000) (by decide) hc
  by_cases c1 : 10000 ≤ c
  · rw [if_pos (k1.mpr c1)]
    by_cases c2 : 20000 ≤ c
    · rw [if_pos (k2.mpr c2)]
      obtain ⟨g, rfl⟩ : ∃ g, c = 20000 + g := ⟨c - 20000, by omega⟩
      have eg : nI (20000 + g) - 20000 = nI g := by
        rw [show (20000 : Int32) = nI 20000 from rfl, pk_sub (by omega), Nat.add_sub_cancel_left]
      rw [eg]
      rcases hk with h1 | ⟨h1, h2⟩ | ⟨g', h1, h2, h3⟩
      · omega
      · have e11 : g = 11 := by omega
        subst e11
        obtain ⟨m1, e1, f1, v1⟩ := rk_join_not h hl h2 N
        rw [e1]
        exact ⟨m1, rfl, f1, v1⟩
      · have e2 : g' = g := by omega
        subst e2
        obtain ⟨m1, e1, f1, v1⟩ := rk_join_two h hl h3 hin h2 N
        rw [e1]
        exact ⟨m1, rfl, f1, v1⟩
    · rw [if_neg (fun q => c2 (k2.mp q))]
      obtain ⟨j, rfl⟩ : ∃ j, c = 10000 + j := ⟨c - 10000, by omega⟩
      have hj : j < 7 := by
        rcases hk with h1 | ⟨h1, _⟩ | ⟨g', h1, _⟩ <;> omega
      have ej : nI (10000 + j) - 10000 = nI j := by
        rw [show (10000 : Int32) = nI 10000 from rfl, pk_sub (by omega), Nat.add_sub_cancel_left]
      have en : rk_nameValue (nI j) m = some (N j) := by
        unfold rk_nameValue
        rw [if_neg (show ¬ nI j < 0 from nI_pos (by omega)), if_neg (show ¬ Int32.ofNat 7 ≤ nI j from nI_ge hj (by decide)), if_neg (nI_in hj (by decide)), nI_clamp (by omega), hN j hj]
      rw [ej, en, Option.bind_some]
      obtain ⟨m1, e1, f1, v1⟩ := rk_push_e h hl (N j)
      have es : sKnot (10000 + j) N s = some (N j :: s) := by
        have n1 : ¬ 10000 + j < 10000 := by omega
        unfold sKnot
        rw [if_neg n1, if_pos (show 10000 + j < 20000 by omega), Nat.add_sub_cancel_left]
      rw [e1]
      refine ⟨m1, rfl, f1, ?_⟩
      rw [es, ← sPush_some (hNi j hj)]
      exact v1
  · rw [if_neg (fun q => c1 (k1.mp q))]
    have el : (nI c).toInt64 = lN c := nI_l hc
    obtain ⟨m1, e1, f1, v1⟩ := rk_push_e h hl (lN c)
    rw [el, e1]
    refine ⟨m1, rfl, f1, ?_⟩
    rw [sPush_some (inM_lN hc)] at v1
    unfold sKnot
    rw [if_pos (show c < 10000 by omega)]
    exact v1
theorem rk_value_e {t l : Nat} {T : zT} {m : mj_M} {N : Nat → Int64} (ht : t = 3 ∨ t = 17) (hT : TC t m T) (hw : WT T) (hL : WL T) (hl : l < 3) (hN : ∀ j, j < 7 → mj_J (m 39 j) = N j) (hNi : ∀ j, j < 7 → inM (N j)) : ∃ m1, rk_value t (nI l) m = some ((sLaw T l N).getD (-9223372036854775808), m1) ∧ ∀ k, k ≠ 38 → k ≠ 40 → m1 k = m k := by
  obtain ⟨hab, hb⟩ := hw.law l hl
  have h12 := (hT.law l hl).1
  have h13 := (hT.law l hl).2
  have hz : mj_siz (t + 12) = 3 ∧ mj_siz (t + 13) = 3 ∧ mj_siz (t + 11) = 64 := by rcases ht with rfl | rfl <;> decide
  have n38 : t + 11 ≠ 38 ∧ t + 12 ≠ 38 ∧ t + 13 ≠ 38 ∧ t + 11 ≠ 40 := by omega
  have a12 : ∀ i v j w, fx_at (mj_up (mj_up m 38 i v) 38 j w) (t + 12) (nI l) = nI (T 12 l) := fun i v j w => by
    rw [na_atU n38.2.1, na_atU n38.2.1, na_at (by omega) (by omega), h12]
  have a13 : ∀ i v j w, fx_at (mj_up (mj_up m 38 i v) 38 j w) (t + 13) (nI l) = nI (T 13 l) := fun i v j w => by
    rw [na_atU n38.2.2.1, na_atU n38.2.2.1, na_at (by omega) (by omega), h13]
  unfold rk_value
  rw [a12, a13]
  obtain ⟨n, hn⟩ : ∃ n, T 13 l = T 12 l + n := ⟨T 13 l - T 12 l, by omega⟩
  have hk : ∀ i, i < n → kOk (T 11 (T 12 l + i)) (stk (T 11) (T 12 l) i).length := by
    intro i hi
    have := (hL l hl (by omega)).1 i (by omega)
    exact this
  obtain ⟨tt, s1, e1, q1⟩ := lp_ex (body := rk_value_l29 t (nI (T 13 l))) (s := (nI (T 12 l), mj_up (mj_up m 38 2 (.int 0)) 38 3 (.int 0)))
    (fun i s => s.1 = nI (T 12 l + i) ∧ (∀ k, k ≠ 38 → k ≠ 40 → s.2 k = m k) ∧ okC (sRow (T 11) N (T 12 l) i) s.2)
    (fun _ s => (∀ k, k ≠ 38 → k ≠ 40 → s.2 k = m k) ∧ okC (sRow (T 11) N (T 12 l) n) s.2) n (by unfold mj_F; omega)
    ⟨rfl, fun k hk _ => (fr_up hk).trans (fr_up hk), okC_some ⟨rfl, rfl, trivial⟩⟩
    (by
      intro i s hi ⟨h1, h2, h3⟩
      obtain ⟨x, ms⟩ := s
      dsimp only at h1 h2 h3
      subst h1
      have hle : ¬ nI (T 13 l) ≤ nI (T 12 l + i) := nI_ge (by omega) (by omega)
      cases hr : sRow (T 11) N (T 12 l) i with
      | none =>
        refine Or.inr ⟨0, (nI (T 12 l + i), ms), ?_, h2, ?_⟩
        · unfold rk_value_l29
          dsimp only
          rw [if_neg hle, (h3.2 hr).1, if_neg (show ¬ (1 : Int32) = 0 by decide)]
        · dsimp only
          rw [sRow_none hr n (by omega)]
          exact okC_none (h3.2 hr)
      | some s0 =>
        obtain ⟨g1, g2⟩ := sRow_ok hNi hk i (by omega) s0 hr
        have hsl : s0.length < 64 := by
          have := stk_len (f := T 11) (a := T 12 l) i
          omega
        have hx : fx_at ms (t + 11) (nI (T 12 l + i)) = nI (T 11 (T 12 l + i)) := by
          rw [na_at (by omega) (by omega), h2 _ n38.1 n38.2.2.2]
          exact hT.code l _ hl (by omega) (by omega)
        have hN' : ∀ j, j < 7 → mj_J (ms 39 j) = N j := fun j hj => by rw [h2 39 (by decide) (by decide)]; exact hN j hj
        obtain ⟨m1, z1, z2, z3⟩ := rk_knot_e (h3.1 s0 hr) hsl g2 (by rw [g1]; exact hk i hi) hN' hNi hx hle
        refine Or.inl ⟨_, z1, ?_, fun k hk1 hk2 => (z2 k hk1 hk2).trans (h2 k hk1 hk2), ?_⟩
        · dsimp only
          rw [← nI_succ]
          rfl
        · show okC ((sRow (T 11) N (T 12 l) i).bind _) m1
          rw [hr]
          exact z3)
    (by
      intro s ⟨h1, h2, h3⟩
      obtain ⟨x, ms⟩ := s
      dsimp only at h1 h2 h3
      subst h1
      refine ⟨0, (nI (T 12 l + n), ms), ?_, h2, h3⟩
      unfold rk_value_l29
      dsimp only
      rw [if_pos (show nI (T 13 l) ≤ nI (T 12 l + n) by rw [hn]; exact nI_le (Nat.le_refl _) (by omega))])
  rw [e1, Option.bind_some]
  obtain ⟨f1, ok1⟩ := q1
  unfold rk_value_j112 sLaw
  have en : T 13 l - T 12 l = n := by omega
  rw [en]
  dsimp only
  cases hr : sRow (T 11) N (T 12 l) n with
  | none =>
    obtain ⟨w1, h, w2, w3⟩ := ok1.2 hr
    have : ∃ q, rk_pop s1.2 = some q ∧ mj_I (q.2 38 3) = 1 ∧ ∀ k, k ≠ 38 → q.2 k = s1.2 k := by
      unfold rk_pop
      rw [w3]
      by_cases hh : nI h < 1
      · rw [if_pos hh]
        exact ⟨_, rfl, rfl, fun k hk => fr_up hk⟩
      · have h1 : ¬ h < 1 := fun z => hh (nI_lt (b := 1) z (by decide))
        rw [if_neg hh, if_pos (show nI h ≤ Int32.ofNat 64 from nI_le (b := 64) w2 (by decide))]
        obtain ⟨h, rfl⟩ : ∃ j, h = j + 1 := ⟨h - 1, by omega⟩
        rw [nI_pred, if_neg (nI_in (by omega) (by decide))]
        exact ⟨_, rfl, w1, fun k hk => fr_up hk⟩
    obtain ⟨q, p1, p2, p3⟩ := this
    rw [p1, Option.bind_some, p2, if_neg (show ¬ (1 : Int32) = 0 by decide)]
    exact ⟨_, rfl, fun k hk hk2 => (p3 k hk).trans (f1 k hk hk2)⟩
  | some s =>
    obtain ⟨g1, g2⟩ := sRow_ok hNi hk n (Nat.le_refl _) s hr
    have v1 := ok1.1 s hr
    cases s with
    | nil =>
      unfold rk_pop
      rw [v1.2.1, if_pos (show nI ([] : List Int64).length < 1 by decide)]
      unfold rk_pop_j20
      rw [Option.bind_some]
      dsimp only
      rw [rk_wrong, if_neg (show ¬ (1 : Int32) = 0 by decide)]
      exact ⟨_, rfl, fun k hk hk2 => (fr_up hk).trans (f1 k hk hk2)⟩
    | cons v r =>
      have hsl : r.length < 64 := by
        have := stk_len (f := T 11) (a := T 12 l) n
        simp only [List.length_cons] at g1
        omega
      obtain ⟨m2, e2, f2, v2⟩ := rk_pop_e v1 hsl
      rw [e2, Option.bind_some]
      dsimp only
      rw [v2.1, if_pos (show (0 : Int32) = 0 from rfl)]
      exact ⟨_, rfl, fun k hk hk2 => (f2 k hk).trans (f1 k hk hk2)⟩
