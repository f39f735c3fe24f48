/-! A LAW, ON THE CLASS'S SIDE (own work) -/
theorem rk_push_w {m : mj_M} {n : Nat} (hn : mj_I (m 38 2) = nI n) (hl : n < 64) (hw : mj_I (m 38 3) = 1) (v : Int64) : ∃ m1, rk_push v m = some m1 ∧ (∀ k, k ≠ 38 → k ≠ 40 → m1 k = m k) ∧ wr m1 := by
  unfold rk_push
  rw [hn, if_neg (show ¬ nI n < 0 from nI_pos (by omega)), if_neg (show ¬ Int32.ofNat 64 ≤ nI n from nI_ge hl (by decide))]
  by_cases h1 : 0 < lg_cmp v 1000000000000
  · rw [if_pos h1]
    exact ⟨_, rfl, fun k hk _ => fr_up hk, rk_wrong, n, by omega, hn⟩
  · rw [if_neg h1]
    by_cases h2 : 0 ≤ lg_cmp v (-1000000000000)
    · rw [if_pos h2, if_neg (nI_in hl (by decide))]
      exact ⟨_, rfl, fun k hk hk2 => (fr_up hk).trans (fr_up hk2), hw, n + 1, by omega, (nI_succ n).symm⟩
    · rw [if_neg h2]
      exact ⟨_, rfl, fun k hk _ => fr_up hk, rk_wrong, n, by omega, hn⟩
theorem absN {v : Int64} (h : inM v) : (if 0 ≤ lg_cmp v 0 then v else 0 - v) = lN v.toInt.natAbs := by
  have hb : v.toInt.natAbs < 2 ^ 63 := by
    have := h.1
    have := h.2
    unfold zM at *
    omega
  apply Int64.toInt_inj.mp
  rw [pk_lT hb]
  by_cases c : 0 ≤ lg_cmp v 0
  · rw [if_pos c]
    have := lgc_ge.mp c
    rw [lZ] at this
    omega
  · rw [if_neg c]
    have c2 : ¬ 0 ≤ v.toInt := fun z => c (lgc_ge.mpr (by rw [lZ]; exact z))
    have := h.1
    unfold zM at *
    rw [Int64.toInt_sub, lZ, bm64 (by omega) (by omega)]
    omega
theorem lMN : (1000000000000 : Int64) = lN 1000000000000 := by decide +kernel
theorem mul_in {a b : Int64} (ha : inM a) (hb : inM b) : (a.toInt * b.toInt).natAbs = a.toInt.natAbs * b.toInt.natAbs := Int.natAbs_mul _ _
theorem mul_N {a b : Int64} (h : ¬ (zM < a.toInt * b.toInt ∨ a.toInt * b.toInt < -zM)) : (a * b).toInt = a.toInt * b.toInt := by
  rw [Int64.toInt_mul]
  generalize a.toInt * b.toInt = p at h
  unfold zM at h
  exact bm64 (by omega) (by omega)
theorem mul_le {a b : Int64} (ha : inM a) (hb : inM b) (h0 : b ≠ 0) : lg_cmp (lN a.toInt.natAbs) (1000000000000 / lN b.toInt.natAbs) ≤ 0 ↔ ¬ (zM < a.toInt * b.toInt ∨ a.toInt * b.toInt < -zM) := by
  have h1 := ha.1
  have h2 := ha.2
  have h3 := hb.1
  have h4 := hb.2
  have hz : b.toInt ≠ 0 := fun z => h0 (Int64.toInt_inj.mp (by rw [z, lZ]))
  have hp := mul_in ha hb
  generalize a.toInt * b.toInt = p at hp
  unfold zM at *
  rw [lgc_le, lMN, pk_lDiv (by decide) (by omega) (by omega), pk_lT (by omega), pk_lT (by
    have := Nat.div_le_self 1000000000000 b.toInt.natAbs
    omega)]
  have hd : a.toInt.natAbs ≤ 1000000000000 / b.toInt.natAbs ↔ a.toInt.natAbs * b.toInt.natAbs ≤ 1000000000000 := Nat.le_div_iff_mul_le (by omega)
  rw [← hp] at hd
  omega
theorem rk_join_not {m : mj_M} {s : List Int64} (h : SV m s) (hl : s.length < 64) (h1 : 1 ≤ s.length) (N : Nat → Int64) : ∃ m1, rk_join (nI 11) m = some m1 ∧ (∀ k, k ≠ 38 → k ≠ 40 → m1 k = m k) ∧ okC (sKnot 20011 N s) m1 := by
  cases s with
  | nil => simp at h1
  | cons b r =>
    simp only [List.length_cons] at hl
    obtain ⟨m1, e1, f1, v1⟩ := rk_pop_e h (by omega)
    unfold rk_join
    rw [e1, Option.bind_some, if_pos (show nI 11 = 11 from rfl)]
    have key : ∀ v : Int64, inM v → okC (some (v :: r)) = okC (sPush v r) := by
      intro v hv
      have hn : ¬ (zM < v.toInt ∨ v.toInt < -zM) := by have := hv.1; have := hv.2; omega
      unfold sPush
      rw [if_neg hn]
    show ∃ m1', (if lg_cmp b 0 = 0 then rk_join_j23 1 m1 else rk_join_j23 0 m1) = some m1' ∧ _ ∧ okC (some ((if b = 0 then 1 else 0) :: r)) m1'
    rw [key _ inM_bit]
    by_cases hb : b = 0
    · rw [if_pos (lgc_eq.mpr hb), if_pos hb]
      obtain ⟨m2, e2, f2, v2⟩ := rk_push_e v1 (by omega) 1
      unfold rk_join_j23
      rw [e2]
      exact ⟨m2, rfl, fun k hk hk2 => (f2 k hk hk2).trans (f1 k hk), v2⟩
    · have hq : ¬ lg_cmp b 0 = 0 := fun q => hb (lgc_eq.mp q)
      rw [if_neg hq, if_neg hb]
      obtain ⟨m2, e2, f2, v2⟩ := rk_push_e v1 (by omega) 0
      unfold rk_join_j23
      rw [e2]
      exact ⟨m2, rfl, fun k hk hk2 => (f2 k hk hk2).trans (f1 k hk), v2⟩
theorem sPush_some {v : Int64} {r : List Int64} (hv : inM v) : sPush v r = some (v :: r) := by
  have hn : ¬ (zM < v.toInt ∨ v.toInt < -zM) := by have := hv.1; have := hv.2; omega
  unfold sPush
  rw [if_neg hn]
theorem inM_div {a b : Int64} (ha : inM a) (hb : inM b) (h0 : b ≠ 0) : inM (a / b) := by
  have h1 := ha.1
  have h2 := ha.2
  unfold inM zM at *
  rw [Int64.toInt_div]
  have k : (a.toInt.tdiv b.toInt).natAbs ≤ a.toInt.natAbs := by
    rw [Int.natAbs_tdiv]
    exact Nat.div_le_self _ _
  generalize a.toInt.tdiv b.toInt = p at k
  rw [bm64 (by omega) (by omega)]
  omega
def gOk (g : Nat) : Prop := g = 12 ∨ g = 13 ∨ (28 ≤ g ∧ g ≤ 37)
theorem rk_join_two {m : mj_M} {s : List Int64} (h : SV m s) (hl : s.length < 64) (h1 : 2 ≤ s.length) (hin : ∀ x ∈ s, inM x) {g : Nat} (hg : gOk g) (N : Nat → Int64) : ∃ m1, rk_join (nI g) m = some m1 ∧ (∀ k, k ≠ 38 → k ≠ 40 → m1 k = m k) ∧ okC (sKnot (20000 + g) N s) m1 := by
  match s, h1, h, hl, hin with
  | b :: a :: r, _, h, hl, hin =>
    simp only [List.length_cons] at hl
    have hb : inM b := hin b (by simp)
    have ha : inM a := hin a (by simp)
    obtain ⟨m1, e1, f1, v1⟩ := rk_pop_e h (by simp only [List.length_cons]; omega)
    obtain ⟨m2, e2, f2, v2⟩ := rk_pop_e v1 (by omega)
    have hk : sKnot (20000 + g) N (b :: a :: r) = sBin g a b r := by
      have n1 : ¬ 20000 + g < 10000 := by omega
      have n2 : ¬ 20000 + g < 20000 := by omega
      have n3 : ¬ 20000 + g = 20011 := by unfold gOk at hg; omega
      unfold sKnot
      rw [if_neg n1, if_neg n2, if_neg n3]
      show sBin (20000 + g - 20000) a b r = _
      rw [Nat.add_sub_cancel_left]
    rw [hk]
    have hgb : g < 2 ^ 31 := by unfold gOk at hg; omega
    have ne : ∀ x : Nat, x < 2 ^ 31 → g ≠ x → ¬ nI g = nI x := fun x hx hn e => hn ((nI_eq hgb hx).mp e)
    have fr : ∀ k, k ≠ 38 → k ≠ 40 → m2 k = m k := fun k hk _ => (f2 k hk).trans (f1 k hk)
    have push : ∀ v, ∃ m3, rk_push v m2 = some m3 ∧ (∀ k, k ≠ 38 → k ≠ 40 → m3 k = m k) ∧ okC (sPush v r) m3 := fun v => by
      obtain ⟨m3, e3, f3, v3⟩ := rk_push_e v2 (by omega) v
      exact ⟨m3, e3, fun k hk hk2 => (f3 k hk hk2).trans (fr k hk hk2), v3⟩
    have pushw : ∀ v x, mj_I x = 1 → ∃ m3, rk_push v (mj_up m2 38 3 x) = some m3 ∧ (∀ k, k ≠ 38 → k ≠ 40 → m3 k = m k) ∧ okC none m3 := fun v x hx => by
      obtain ⟨m3, e3, f3, v3⟩ := rk_push_w (m := mj_up m2 38 3 x) (n := r.length) v2.2.1 (by omega) hx v
      exact ⟨m3, e3, fun k hk hk2 => (f3 k hk hk2).trans ((fr_up hk).trans (fr k hk hk2)), okC_none v3⟩
    have push0 : ∀ v, ∃ m3, rk_push v (mj_up m2 38 3 (.int 0)) = some m3 ∧ (∀ k, k ≠ 38 → k ≠ 40 → m3 k = m k) ∧ okC (sPush v r) m3 := fun v => by
      have v3 : SV (mj_up m2 38 3 (.int 0)) r := ⟨rfl, v2.2.1, sv_up (m := m2) (fun j _ => rfl) v2.2.2⟩
      obtain ⟨m3, e3, f3, v3⟩ := rk_push_e v3 (by omega) v
      exact ⟨m3, e3, fun k hk hk2 => (f3 k hk hk2).trans ((fr_up hk).trans (fr k hk hk2)), v3⟩
    unfold rk_join
    rw [e1, Option.bind_some, if_neg (show ¬ nI g = 11 from ne 11 (by decide) (by unfold gOk at hg; omega))]
    dsimp only
    rw [e2, Option.bind_some]
    dsimp only
    unfold sBin
    by_cases c34 : g = 34
    · subst c34
      rw [if_pos (show nI 34 = 34 from rfl), if_pos rfl]
      obtain ⟨m3, e3, f3, v3⟩ := push (a + b)
      rw [e3]
      exact ⟨m3, rfl, f3, v3⟩
    rw [if_neg (show ¬ nI g = 34 from ne 34 (by decide) c34), if_neg c34]
    by_cases c35 : g = 35
    · subst c35
      rw [if_pos (show nI 35 = 35 from rfl), if_pos rfl]
      obtain ⟨m3, e3, f3, v3⟩ := push (a - b)
      rw [e3]
      exact ⟨m3, rfl, f3, v3⟩
    rw [if_neg (show ¬ nI g = 35 from ne 35 (by decide) c35), if_neg c35]
    by_cases c36 : g = 36
    · subst c36
      rw [if_pos (show nI 36 = 36 from rfl), if_pos rfl, v2.1, if_pos (show (0 : Int32) = 0 from rfl)]
      have good : ¬ (zM < a.toInt * b.toInt ∨ a.toInt * b.toInt < -zM) → ∃ m1', rk_join_j121 b a m2 = some m1' ∧ (∀ k, k ≠ 38 → k ≠ 40 → m1' k = m k) ∧ okC (if zM < a.toInt * b.toInt ∨ a.toInt * b.toInt < -zM then none else some (a * b :: r)) m1' := fun hc => by
        obtain ⟨m3, e3, f3, v3⟩ := push0 (a * b)
        rw [if_neg hc, ← sPush_some (v := a * b) (by unfold inM; rw [mul_N hc]; omega)]
        unfold rk_join_j121 rk_join_j122 rk_join_j141
        rw [if_pos (Or.inl rfl), if_pos rfl]
        rw [e3]
        exact ⟨m3, rfl, f3, v3⟩
      by_cases hb0 : b = 0
      · show ∃ m1', (if lg_cmp b 0 = 0 then rk_join_j121 b a m2 else _) = some m1' ∧ _
        rw [if_pos (lgc_eq.mpr hb0)]
        refine good ?_
        rw [hb0, lZ, Int.mul_zero]
        decide
      · show ∃ m1', (if lg_cmp b 0 = 0 then _ else (if (ma_absJ b m2 : Int64) = 0 then none else (if (lg_cmp (ma_absJ a m2) ((1000000000000 : Int64) / (ma_absJ b m2))) ≤ 0 then rk_join_j121 b a m2 else rk_join_j117 b a m2))) = some m1' ∧ _
        have eb : ma_absJ b m2 = lN b.toInt.natAbs := absN hb
        have ea : ma_absJ a m2 = lN a.toInt.natAbs := absN ha
        have hz : b.toInt ≠ 0 := fun z => hb0 (Int64.toInt_inj.mp (by rw [z, lZ]))
        have hbb := hb.1
        have hbb2 := hb.2
        unfold zM at hbb hbb2
        have q1 : ¬ lg_cmp b 0 = 0 := fun q => hb0 (lgc_eq.mp q)
        have q2 : ¬ lN b.toInt.natAbs = 0 := fun q => by
          have : lN b.toInt.natAbs = lN 0 := q
          rw [pk_lEQ (by omega) (by decide)] at this
          omega
        rw [if_neg q1, eb, ea, if_neg q2]
        by_cases hc : zM < a.toInt * b.toInt ∨ a.toInt * b.toInt < -zM
        · rw [if_neg (fun q => (mul_le ha hb hb0).mp q hc), if_pos hc]
          unfold rk_join_j117 rk_join_j122 rk_join_j141
          rw [if_pos (Or.inr rfl), if_neg (show ¬ (1 : Int32) = 0 by decide)]
          obtain ⟨m3, e3, f3, v3⟩ := pushw 0 (.int 1) rfl
          rw [e3]
          exact ⟨m3, rfl, f3, v3⟩
        · rw [if_pos ((mul_le ha hb hb0).mpr hc)]
          exact good hc
    rw [if_neg (show ¬ nI g = 36 from ne 36 (by decide) c36), if_neg c36]
    by_cases c37 : g = 37
    · subst c37
      rw [if_pos (show nI 37 = 37 from rfl), if_pos rfl, v2.1, if_pos (show (0 : Int32) = 0 from rfl)]
      by_cases hb0 : b = 0
      · show ∃ m1', (if lg_cmp b 0 = 0 then rk_join_j161 b a m2 else _) = some m1' ∧ _
        rw [if_pos (lgc_eq.mpr hb0), if_pos hb0]
        unfold rk_join_j161 rk_join_j166 rk_join_j184
        rw [if_pos (Or.inr rfl), if_pos (lgc_eq.mpr hb0)]
        obtain ⟨m3, e3, f3, v3⟩ := pushw 0 (.int 1) rfl
        rw [e3]
        exact ⟨m3, rfl, f3, v3⟩
      · show ∃ m1', (if lg_cmp b 0 = 0 then _ else rk_join_j166 b a 0 m2) = some m1' ∧ _
        have q1 : ¬ lg_cmp b 0 = 0 := fun q => hb0 (lgc_eq.mp q)
        rw [if_neg q1, if_neg hb0]
        unfold rk_join_j166 rk_join_j184
        rw [if_pos (Or.inl rfl), if_neg q1, if_neg hb0, ← sPush_some (v := a / b) (inM_div ha hb hb0)]
        obtain ⟨m3, e3, f3, v3⟩ := push0 (a / b)
        rw [e3]
        exact ⟨m3, rfl, f3, v3⟩
    rw [if_neg (show ¬ nI g = 37 from ne 37 (by decide) c37), if_neg c37, ← sPush_some inM_bit]
    show ∃ m1', (if rk_holds (nI g) a b m2 = 0 then rk_join_j206 0 m2 else rk_join_j206 1 m2) = some m1' ∧ _
    rw [rk_holds_e (by unfold gOk at hg; omega)]
    unfold rk_join_j206
    by_cases hc : sHolds g a b = true
    · rw [if_pos hc, if_pos hc, if_neg (show ¬ (1 : Int32) = 0 by decide)]
      obtain ⟨m3, e3, f3, v3⟩ := push 1
      rw [e3]
      exact ⟨m3, rfl, f3, v3⟩
    · rw [if_neg hc, if_neg hc, if_pos (show (0 : Int32) = 0 from rfl)]
      obtain ⟨m3, e3, f3, v3⟩ := push 0
      rw [e3]
      exact ⟨m3, rfl, f3, v3⟩
