/-! CALLS THAT ASK, 2: count, slowest, idle, goOn, strange, law (own work) -/
theorem sa_hicc_e {sp : Nat} {T : zT} {S : zS} {m : mj_M} {H : Nat} (hw : WT T) (hS : SC T sp m S) (hW : WS T H S) : sa_hiccupping sp m = some (nI (cnt (fun p => decide (0 < S.1 2 p)) (T 0 0))) := by
  have hnp := hw.np
  have key : ∀ i, i < 6 → (mj_I (m (sp + 2) i) ≤ 0 ↔ ¬ (i < T 0 0 ∧ 0 < S.1 2 i)) := by
    intro i hi
    by_cases c : i < T 0 0
    · have h9 := hW.hic i c
      rw [hS.hic i c, show (0 : Int32) = nI 0 from rfl, nI_leI (by omega) (by decide)]
      omega
    · rw [hS.hic0 i (by omega) hi]
      exact ⟨fun _ => fun z => c z.1, fun _ => by decide⟩
  unfold sa_hiccupping
  have e : mj_loop (sa_hiccupping_l4 sp m) mj_F (0, 0) = some (0, (nI (cnt (fun p => decide (p < T 0 0 ∧ 0 < S.1 2 p)) 6), nI 6)) := by
    refine lp_eq (fun i => (nI (cnt (fun p => decide (p < T 0 0 ∧ 0 < S.1 2 p)) i), nI i)) 6 (by decide) (fun i hi => ?_) rfl
    have o1 : (nI i < 0) = False := eq_false (nI_pos (by omega))
    have o1' : (6 ≤ i) = False := eq_false (by omega)
    have o2 : (nI i).toNatClampNeg = i := nI_clamp (by omega)
    unfold sa_hiccupping_l4 sa_hiccupping_j25l4
    simp only [o1, o1', o2, or_self, if_false, key i hi]
    rw [if_neg (show ¬ Int32.ofNat 6 ≤ nI i from nI_ge hi (by decide)), ← nI_succ i]
    have eb : cnt (fun p => decide (p < T 0 0 ∧ 0 < S.1 2 p)) (i + 1) = cnt (fun p => decide (p < T 0 0 ∧ 0 < S.1 2 p)) i + (if decide (i < T 0 0 ∧ 0 < S.1 2 i) = true then 1 else 0) := rfl
    rw [eb]
    by_cases c : i < T 0 0 ∧ 0 < S.1 2 i
    · rw [if_neg (fun z => z c), if_pos (decide_eq_true c), ← nI_succ (cnt _ _)]
    · rw [if_pos c, if_neg (by rw [decide_eq_false c]; decide)]; rfl
  rw [e, Option.bind_some]
  dsimp only
  rw [cnt_more hnp (fun p h1 _ => decide_eq_false (by omega)), cnt_congr (g := fun p => decide (0 < S.1 2 p)) (fun p hp => decide_eq_decide.mpr (by omega))]
theorem sumN_le {f : Nat → Nat} {k : Nat} : ∀ n, (∀ p, p < n → f p ≤ k) → sumN f n ≤ k * n := by
  intro n
  induction n with
  | zero => intro _; exact Nat.zero_le _
  | succ n ih =>
    intro h
    have h1 := ih (fun p hp => h p (by omega))
    have h2 := h n (by omega)
    show sumN f n + f n ≤ k * (n + 1)
    rw [Nat.mul_succ]
    omega
theorem to_ties_e {t : Nat} {T : zT} {m : mj_M} (hw : WT T) (hT : TC t m T) (h0 : ∀ p, T 0 0 ≤ p → p < 6 → mj_I (m (t + 4) p) = 0) (hs : sumN (fun p => cnt (fun i => (T 4 p).testBit i) 8) (T 0 0) = 2 * T 0 12) : to_tieCount t m = some (nI (T 0 12)) := by
  have hnp := hw.np
  have row : ∀ i, i < 6 → mj_I (m (t + 4) i) = nI (if i < T 0 0 then T 4 i else 0) := by
    intro i hi
    by_cases c : i < T 0 0
    · rw [if_pos c]; exact hT.row 4 i (by decide) (by decide) c
    · rw [if_neg c]; exact h0 i (by omega) hi
  have lt : ∀ i, (if i < T 0 0 then T 4 i else 0) < 256 := by
    intro i
    split
    · have := hw.tied i (by assumption); omega
    · decide
  unfold to_tieCount
  have e : mj_loop (to_tieCount_l4 t m) mj_F (0, 0) = some (0, (nI (sumN (fun p => cnt (fun i => (if p < T 0 0 then T 4 p else 0).testBit i) 8) 6), nI 6)) := by
    refine lp_eq (fun i => (nI (sumN (fun p => cnt (fun i => (if p < T 0 0 then T 4 p else 0).testBit i) 8) i), nI i)) 6 (by decide) (fun i hi => ?_) rfl
    have o1 : (nI i < 0) = False := eq_false (nI_pos (by omega))
    have o1' : (6 ≤ i) = False := eq_false (by omega)
    have o2 : (nI i).toNatClampNeg = i := nI_clamp (by omega)
    unfold to_tieCount_l4
    simp only [o1, o1', o2, or_self, if_false]
    rw [if_neg (show ¬ Int32.ofNat 6 ≤ nI i from nI_ge hi (by decide)), ← nI_succ i, row i hi, ig_bits_e (lt i), nI_add]
    rfl
  rw [e, Option.bind_some]
  dsimp only
  have e2 : sumN (fun p => cnt (fun i => (if p < T 0 0 then T 4 p else 0).testBit i) 8) 6 = sumN (fun p => cnt (fun i => (T 4 p).testBit i) 8) (T 0 0) := by
    have more : ∀ k, T 0 0 ≤ k → sumN (fun p => cnt (fun i => (if p < T 0 0 then T 4 p else 0).testBit i) 8) k = sumN (fun p => cnt (fun i => (T 4 p).testBit i) 8) (T 0 0) := by
      intro k hk
      induction hk with
      | refl =>
        have cg : ∀ k, k ≤ T 0 0 → sumN (fun p => cnt (fun i => (if p < T 0 0 then T 4 p else 0).testBit i) 8) k = sumN (fun p => cnt (fun i => (T 4 p).testBit i) 8) k := by
          intro k
          induction k with
          | zero => intro _; rfl
          | succ k ih =>
            intro hk
            show sumN _ k + _ = sumN _ k + _
            rw [ih (by omega)]
            show _ + cnt (fun i => (if k < T 0 0 then T 4 k else 0).testBit i) 8 = _
            rw [if_pos (by omega)]
        exact cg _ (Nat.le_refl _)
      | @step k hk ih =>
        show sumN _ k + cnt (fun i => (if k < T 0 0 then T 4 k else 0).testBit i) 8 = _
        have hk' : T 0 0 ≤ k := hk
        rw [ih, if_neg (show ¬ k < T 0 0 by omega)]
        have : cnt (fun i => (0 : Nat).testBit i) 8 = 0 := by decide
        rw [this, Nat.add_zero]
    exact more 6 hnp
  have hb := sumN_le (k := 8) (f := fun p => cnt (fun i => (T 4 p).testBit i) 8) (T 0 0) (fun p _ => cnt_le 8)
  rw [e2, hs, show (2 : Int32) = nI 2 from rfl, pk_div (by omega) (by decide) (by decide)]
  have : 2 * T 0 12 / 2 = T 0 12 := by omega
  rw [this]
section ASK2
variable {t : Nat} {m : mj_M} {T : zT} {S : zS} {n : Nat} {us : List zS} {I : Option (zS × Nat)} {E : zE} {B : zB} {F : Int32 × Int32}
theorem q_count (ht : t = 3 ∨ t = 17) (hC : CV t m T S n us I E B F) (hR : RV m T S n us I E B F) (hW : WV T S n us I E B F) {v : Int32} : ∃ r m1, bp_count t v m = some r ∧ md_count v m = some (r, m1) ∧ frQ m m1 := by
  have hnp := hW.T.np
  have hR1 : RV (mj_up m 68 2 (.int 0)) T S n us I E B F := RV_Q hR hW.T frQ_2
  have t0 : ((0 : Int32)).toNatClampNeg = 0 := rfl
  unfold bp_count md_count
  rw [t0]
  have s0 := hR.S
  by_cases c : v = 0
  · rw [if_pos c, if_pos c, hC.T.np, hR.T.np]; exact ⟨_, _, rfl, rfl, frQ_2⟩
  rw [if_neg c, if_neg c]
  by_cases c : v = 1
  · rw [if_pos c, if_pos c, to_ties_e hW.T hC.T hC.ti hW.ti.2, hR.ti]; exact ⟨_, _, rfl, rfl, frQ_2⟩
  rw [if_neg c, if_neg c]
  by_cases c : v = 2
  · rw [if_pos c, if_pos c, hC.T.nw, hR.T.nw]; exact ⟨_, _, rfl, rfl, frQ_2⟩
  rw [if_neg c, if_neg c]
  by_cases c : v = 3
  · rw [if_pos c, if_pos c, hC.kn, hR.kn]; exact ⟨_, _, rfl, rfl, frQ_2⟩
  rw [if_neg c, if_neg c]
  by_cases c : v = 4
  · rw [if_pos c, if_pos c, hC.S.hour, s0.hour]; exact ⟨_, _, rfl, rfl, frQ_2⟩
  rw [if_neg c, if_neg c]
  by_cases c : v = 5
  · rw [if_pos c, if_pos c, hC.S.coil, s0.coil]; exact ⟨_, _, rfl, rfl, frQ_2⟩
  rw [if_neg c, if_neg c]
  by_cases c : v = 6
  · rw [if_pos c, if_pos c, hC.S.shift, s0.shift]; exact ⟨_, _, rfl, rfl, frQ_2⟩
  rw [if_neg c, if_neg c]
  by_cases c : v = 7
  · have e := md_doneAll_e (b := 0) (by decide) hW.T hR1.T hR1.S hW.S
    have e : md_doneAll 0 (mj_up m 68 2 (.int 0)) = _ := e
    rw [if_pos c, if_pos c, hC.T.nw, sa_doneCount_e (Or.inl rfl) hW.T hC.S hW.S, e]; exact ⟨_, _, rfl, rfl, frQ_2⟩
  rw [if_neg c, if_neg c]
  by_cases c : v = 8
  · have e := md_slipsAll_e (b := 0) (by decide) hW.T hR1.T hR1.S
    have e : md_slipsAll 0 (mj_up m 68 2 (.int 0)) = _ := e
    rw [if_pos c, if_pos c, sa_allSlips_e hW.T hC.S, e]; exact ⟨_, _, rfl, rfl, frQ_2⟩
  rw [if_neg c, if_neg c]
  by_cases c : v = 9
  · rw [if_pos c, if_pos c, sa_hicc_e hW.T hC.S hW.S]
    have e : mj_loop md_count_l135 mj_F (0, 0, mj_up m 68 2 (.int 0)) = some (0, (nI (cnt (fun p => decide (0 < S.1 2 p)) (T 0 0)), nI (T 0 0), mj_up m 68 2 (.int 0))) := by
      refine lp_eq (fun i => (nI (cnt (fun p => decide (0 < S.1 2 p)) i), nI i, mj_up m 68 2 (.int 0))) (T 0 0) (by unfold mj_F; omega) (fun i hi => ?_) ?_
      · have h9 := hW.S.hic i hi
        have o1 : (nI i < 0) = False := eq_false (nI_pos (by omega))
        have o1' : (12 ≤ i) = False := eq_false (by omega)
        have o2 : (nI i).toNatClampNeg = i := nI_clamp (by omega)
        have l1 := hR1.S.hic i hi
        rw [show 6 * 0 + i = i by omega] at l1
        have z : nI (S.1 2 i) ≤ 0 ↔ ¬ 0 < S.1 2 i := by
          rw [show (0 : Int32) = nI 0 from rfl, nI_leI (by omega) (by decide)]; omega
        unfold md_count_l135 md_count_j158l135
        dsimp only
        rw [hR1.T.np, if_neg (nI_ge hi (by omega))]
        simp only [o1, o1', o2, or_self, if_false, l1, z]
        rw [← nI_succ i]
        have eb : cnt (fun p => decide (0 < S.1 2 p)) (i + 1) = cnt (fun p => decide (0 < S.1 2 p)) i + (if decide (0 < S.1 2 i) = true then 1 else 0) := rfl
        rw [eb]
        by_cases c : 0 < S.1 2 i
        · rw [if_neg (fun q => q c), if_pos (decide_eq_true c), ← nI_succ (cnt _ _)]
        · rw [if_pos c, if_neg (by rw [decide_eq_false c]; decide), Int32.add_zero]; rfl
      · unfold md_count_l135
        dsimp only
        rw [hR1.T.np, if_pos (nI_le (Nat.le_refl _) (by omega))]
    rw [e]; exact ⟨_, _, rfl, rfl, frQ_2⟩
  rw [if_neg c, if_neg c]
  by_cases c : v = 10
  · rw [if_pos c, if_pos c, hC.S.here, ig_bz (by omega), md_hereBits_e hW.T hR1.T hR1.S hW.S, Option.bind_some, md_manyOf_e (bz_le (k := 31) (by omega)), cnt_bz (by omega)]; exact ⟨_, _, rfl, rfl, frQ_2⟩
  rw [if_neg c, if_neg c]
  by_cases c : v = 11
  · rw [if_pos c, if_pos c, hC.se.cnt, hR.se.cnt]; exact ⟨_, _, rfl, rfl, frQ_2⟩
  rw [if_neg c, if_neg c]
  by_cases c : v = 12
  · rw [if_pos c, if_pos c]
    have e : si_knownCount m = md_knownBy (mj_up m 68 2 (.int 0)) := by
      unfold si_knownCount md_knownBy
      rw [hC.se.kn, hC.se.cnt, hR1.se.kn, hR1.se.cnt]
      have hc := hW.se.cnt
      rcases hW.se.kn with k | ⟨k, k1, k2⟩
      · rw [k, if_pos rfl, if_neg (by decide)]
      · rw [k2, if_neg (na_neg (by omega)), if_pos (nI_pos' (by omega))]
    rw [e]; exact ⟨_, _, rfl, rfl, frQ_2⟩
  rw [if_neg c, if_neg c]
  by_cases c : v = 13
  · rw [if_pos c, if_pos c, hC.uc, hR.uc]; exact ⟨_, _, rfl, rfl, frQ_2⟩
  rw [if_neg c, if_neg c]
  exact ⟨_, _, rfl, rfl, frQ_2⟩
theorem here01 (hW : WV T S n us I E B F) {p : Nat} (hp : p < T 0 0) : (nI (S.1 5 p) = 0 ↔ ¬ S.1 5 p = 1) := by
  have := hW.S.here p hp
  rw [show (0 : Int32) = nI 0 from rfl, nI_eq (by omega) (by decide)]
  omega
theorem has_here (hC : CV t m T S n us I E B F) (hW : WV T S n us I E B F) {m' : mj_M} {p : Nat} (hp : p < T 0 0) : bp_has (mj_I (m 42 4)) (nI p) m' = if S.1 5 p = 1 then 1 else 0 := by
  have hnp := hW.T.np
  rw [hC.S.here, na_bp_has (bz_le (k := 31) (by omega)) (by omega), bz_here hp]
  by_cases c : S.1 5 p = 1
  · rw [if_pos (decide_eq_true c), if_pos c]
  · rw [if_neg (by rw [decide_eq_false c]; decide), if_neg c]
theorem q_slowest (ht : t = 3 ∨ t = 17) (hC : CV t m T S n us I E B F) (hR : RV m T S n us I E B F) (hW : WV T S n us I E B F) : ∃ r m1, bp_slowest t m = some r ∧ md_slowest m = some (r, m1) ∧ frQ m m1 := by
  have hnp := hW.T.np
  have hR1 : RV (mj_up m 68 2 (.int 0)) T S n us I E B F := RV_Q hR hW.T frQ_2
  unfold bp_slowest md_slowest
  obtain ⟨a, s, b, u, e1, e2, q1, q2⟩ := lpr2 (b1 := bp_slowest_l5 t m) (b2 := md_slowest_l10) (s := (-2, 0)) (u := (-2, 0, mj_up m 68 2 (.int 0)))
    (fun i s u => s.2 = nI i ∧ u.2.1 = nI i ∧ u.2.2 = mj_up m 68 2 (.int 0) ∧ s.1 = u.1 ∧ (s.1 = -2 ∨ ∃ p, p < i ∧ s.1 = nI p))
    (fun _ s _ u => s.1 = u.1 ∧ u.2.2 = mj_up m 68 2 (.int 0)) (T 0 0) (by unfold mj_F; omega) ⟨rfl, rfl, rfl, rfl, Or.inl rfl⟩
    (by
      intro i s u hi ⟨h1, h2, h3, h4, h5⟩
      obtain ⟨x, y⟩ := s
      obtain ⟨x', y', mm⟩ := u
      dsimp only at h1 h2 h3 h4 h5
      subst h1 h2 h3 h4
      refine Or.inl ?_
      have o1 : (nI i < 0) = False := eq_false (nI_pos (by omega))
      have o1' : (12 ≤ i) = False := eq_false (by omega)
      have o2 : (nI i).toNatClampNeg = i := nI_clamp (by omega)
      have l1 := hR1.S.here i hi
      rw [show 6 * 0 + i = i by omega] at l1
      have r2 := hR1.T.row 2 i (by decide) (by decide) (by decide) hi
      have c2 := hC.T.r ht hW.T (i := 2) (by decide) (by decide) hi
      unfold bp_slowest_l5 bp_slowest_j61l5 bp_slowest_j59l5 md_slowest_l10 md_slowest_j50l10 md_slowest_j46l10 md_slowest_j51l10 bp_slowest_j61l5
      dsimp only
      rw [hC.T.np, hR1.T.np, if_neg (nI_ge hi (by omega)), if_neg (nI_ge hi (by omega)), has_here hC hW hi]
      simp only [o1, o1', o2, or_self, if_false, l1, here01 hW hi, r2]
      by_cases c : S.1 5 i = 1
      · rw [if_pos c, if_neg not01, if_neg (show ¬ ¬ S.1 5 i = 1 from fun z => z c)]
        rcases h5 with rfl | ⟨p, p1, rfl⟩
        · rw [if_pos (show (-2 : Int32) < 0 by decide), if_pos (show (-2 : Int32) < 0 by decide)]
          exact ⟨_, _, rfl, rfl, (nI_succ i).symm, (nI_succ i).symm, rfl, rfl, Or.inr ⟨i, by omega, rfl⟩⟩
        · have hpn : p < T 0 0 := by omega
          have w1 : (nI p < 0) = False := eq_false (nI_pos (by omega))
          have w1' : (12 ≤ p) = False := eq_false (by omega)
          have w2 : (nI p).toNatClampNeg = p := nI_clamp (by omega)
          have r2' := hR1.T.row 2 p (by decide) (by decide) (by decide) hpn
          simp only [w1, w1', w2, or_self, if_false, r2', c2, hC.T.r ht hW.T (i := 2) (by decide) (by decide) (show p < cntT T 2 from hpn)]
          by_cases cc : nI (T 2 p) ≤ nI (T 2 i)
          · rw [if_pos cc, if_pos cc]
            exact ⟨_, _, rfl, rfl, (nI_succ i).symm, (nI_succ i).symm, rfl, rfl, Or.inr ⟨p, by omega, rfl⟩⟩
          · rw [if_neg cc, if_neg cc]
            exact ⟨_, _, rfl, rfl, (nI_succ i).symm, (nI_succ i).symm, rfl, rfl, Or.inr ⟨i, by omega, rfl⟩⟩
      · rw [if_neg c, if_pos rfl, if_pos c]
        refine ⟨_, _, rfl, rfl, (nI_succ i).symm, (nI_succ i).symm, rfl, rfl, ?_⟩
        rcases h5 with h5 | ⟨p, p1, p2⟩
        · exact Or.inl h5
        · exact Or.inr ⟨p, by omega, p2⟩)
    (by
      intro s u ⟨h1, h2, h3, h4, h5⟩
      obtain ⟨x, y⟩ := s
      obtain ⟨x', y', mm⟩ := u
      dsimp only at h1 h2 h3 h4 h5
      subst h1 h2 h3 h4
      unfold bp_slowest_l5 md_slowest_l10
      dsimp only
      rw [hC.T.np, hR1.T.np, if_pos (nI_le (Nat.le_refl _) (by omega)), if_pos (nI_le (Nat.le_refl _) (by omega))]
      exact ⟨_, _, _, _, rfl, rfl, rfl, rfl⟩)
  rw [e1, e2, Option.bind_some, Option.bind_some, q1, q2]
  exact ⟨_, _, rfl, rfl, frQ_2⟩
theorem q_idle (ht : t = 3 ∨ t = 17) (hC : CV t m T S n us I E B F) (hR : RV m T S n us I E B F) (hW : WV T S n us I E B F) : ∃ r m1, bp_idle t m = some r ∧ md_idle m = some (r, m1) ∧ frQ m m1 := by
  have hnp := hW.T.np
  have hnw := hW.T.nw
  have hR1 : RV (mj_up m 68 2 (.int 0)) T S n us I E B F := RV_Q hR hW.T frQ_2
  unfold bp_idle md_idle
  have e0 : mj_loop md_idle_l9 mj_F (0, 0, mj_up m 68 2 (.int 0)) = some (0, (nI (bz (fun p => decide (S.1 5 p = 1)) (T 0 0)), nI (T 0 0), mj_up m 68 2 (.int 0))) := by
    refine lp_eq (fun i => (nI (bz (fun p => decide (S.1 5 p = 1)) i), nI i, mj_up m 68 2 (.int 0))) (T 0 0) (by unfold mj_F; omega) (fun i hi => ?_) ?_
    · have o1 : (nI i < 0) = False := eq_false (nI_pos (by omega))
      have o1' : (12 ≤ i) = False := eq_false (by omega)
      have o2 : (nI i).toNatClampNeg = i := nI_clamp (by omega)
      have l1 := hR1.S.here i hi
      rw [show 6 * 0 + i = i by omega] at l1
      unfold md_idle_l9 md_idle_j34l9
      dsimp only
      rw [hR1.T.np, if_neg (nI_ge hi (by omega))]
      simp only [o1, o1', o2, or_self, if_false, l1, here01 hW hi]
      rw [na_set (by omega), ← nI_succ]
      have eb : bz (fun p => decide (S.1 5 p = 1)) (i + 1) = if decide (S.1 5 i = 1) = true then bz (fun p => decide (S.1 5 p = 1)) i ||| 2 ^ i else bz (fun p => decide (S.1 5 p = 1)) i := rfl
      have e0 : nI (bz (fun p => decide (S.1 5 p = 1)) i) ||| (0 : Int32) = nI (bz (fun p => decide (S.1 5 p = 1)) i) := by rw [show (0 : Int32) = nI 0 from rfl, na_or, Nat.or_zero]
      rw [eb, e0]
      by_cases c : S.1 5 i = 1
      · rw [if_neg (fun z => z c), if_pos (decide_eq_true c)]
      · rw [if_pos c, if_neg (by rw [decide_eq_false c]; decide)]
    · unfold md_idle_l9
      dsimp only
      rw [hR1.T.np, if_pos (nI_le (Nat.le_refl _) (by omega))]
  rw [e0, Option.bind_some]
  obtain ⟨a, s, b, u, e1, e2, q1, q2⟩ := lpr2 (b1 := bp_idle_l10 t m) (b2 := md_idle_l44) (s := (mj_I (m 42 4), 0)) (u := (nI (bz (fun p => decide (S.1 5 p = 1)) (T 0 0)), 0, mj_up m 68 2 (.int 0)))
    (fun i s u => s.2 = nI i ∧ u.2.1 = nI i ∧ u.2.2 = mj_up m 68 2 (.int 0) ∧ s.1 = u.1)
    (fun _ s _ u => s.1 = u.1 ∧ u.2.2 = mj_up m 68 2 (.int 0)) (T 0 5) (by unfold mj_F; omega) ⟨rfl, rfl, rfl, hC.S.here⟩
    (by
      intro i s u hi ⟨h1, h2, h3, h4⟩
      obtain ⟨x, y⟩ := s
      obtain ⟨x', y', mm⟩ := u
      dsimp only at h1 h2 h3 h4
      subst h1 h2 h3 h4
      refine Or.inl ?_
      have o1 : (nI i < 0) = False := eq_false (nI_pos (by omega))
      have o1' : (16 ≤ i) = False := eq_false (by omega)
      have o2 : (nI i).toNatClampNeg = i := nI_clamp (by omega)
      have hl := hW.S.left i hi
      have l1 := hR1.S.left i hi
      rw [show 8 * 0 + i = i by omega] at l1
      have r6 := hR1.T.row 6 i (by decide) (by decide) (by decide) hi
      have z1 : nI (S.1 3 i) = 0 ↔ S.1 3 i = 0 := nI_eq (b := 0) (by omega) (by decide)
      have z2 : nI (S.1 3 i) ≤ 0 ↔ S.1 3 i = 0 := by
        rw [show (0 : Int32) = nI 0 from rfl, nI_leI (by omega) (by decide)]; omega
      have am : x &&& (-1 : Int32) = x := Int32.and_neg_one
      unfold bp_idle_l10 bp_idle_j50l10 md_idle_l44 md_idle_j76l44 sa_isDone
      dsimp only
      rw [hC.T.nw, hR1.T.nw, if_neg (nI_ge hi (by omega)), if_neg (nI_ge hi (by omega)), (SC_at hC.S (Or.inl rfl) hW.T).2.2.1 i hi, hC.T.r ht hW.T (i := 6) (by decide) (by decide) hi]
      simp only [o1, o1', o2, or_self, if_false, l1, z1, z2, r6, am]
      by_cases c : S.1 3 i = 0
      · rw [if_pos c, if_neg not01, if_pos c]
        exact ⟨_, _, rfl, rfl, (nI_succ i).symm, (nI_succ i).symm, rfl, rfl⟩
      · rw [if_neg c, if_pos rfl, if_neg c]
        exact ⟨_, _, rfl, rfl, (nI_succ i).symm, (nI_succ i).symm, rfl, rfl⟩)
    (by
      intro s u ⟨h1, h2, h3, h4⟩
      obtain ⟨x, y⟩ := s
      obtain ⟨x', y', mm⟩ := u
      dsimp only at h1 h2 h3 h4
      subst h1 h2 h3 h4
      unfold bp_idle_l10 md_idle_l44
      dsimp only
      rw [hC.T.nw, hR1.T.nw, if_pos (nI_le (Nat.le_refl _) (by omega)), if_pos (nI_le (Nat.le_refl _) (by omega))]
      exact ⟨_, _, _, _, rfl, rfl, rfl, rfl⟩)
  rw [e1, Option.bind_some]
  dsimp only
  rw [e2, Option.bind_some, q1, q2]
  exact ⟨_, _, rfl, rfl, frQ_2⟩
end ASK2
