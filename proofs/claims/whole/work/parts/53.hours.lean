/-! HOURS ONE BEHIND ANOTHER; sums and numbers of bits (own work) -/
def sHours (T : zT) (pc mode : Nat) (q : zS × Nat) : Nat → zS × Nat
  | 0 => q
  | k + 1 => sHour T pc mode (sHours T pc mode q k)
theorem sHours_n {T : zT} {pc mode : Nat} {q : zS × Nat} (h : q.2 < 2 ^ 31) : ∀ k, (sHours T pc mode q k).2 < 2 ^ 31 := by
  intro k
  induction k with
  | zero => exact h
  | succ k ih => exact sBt_n ih
theorem sHours_WS {T : zT} {pc mode H : Nat} {q : zS × Nat} (hw : WT T) (h : WS T H q.1) : ∀ k, WS T (H + k) (sHours T pc mode q k).1 := by
  intro k
  induction k with
  | zero => exact h
  | succ k ih => exact sHr_WS hw ih
theorem bp_tryHours_e {t pc H mode n num : Nat} {T : zT} {S : zS} {m : mj_M} (ht : t = 3 ∨ t = 17) (hT : TC t m T) (hw : WT T) (hL : WL T) (hS : SC T 47 m S) (hW : WS T H S) (hH : H + n ≤ 20000) (hp : mj_I (m 37 1) = nI pc) (hpc : pc ≤ 199) (hmo : mode ≤ 2) (hn : num < 2 ^ 31) (hN : mj_I (m 47 3) = nI num) : ∃ m1, bp_tryHours t (nI n) (nI mode) m = some m1 ∧ frC 47 m m1 ∧ SC T 47 m1 (sHours T pc mode (S, num) n).1 ∧ mj_I (m1 47 3) = nI (sHours T pc mode (S, num) n).2 := by
  unfold bp_tryHours
  obtain ⟨tt, s1, e1, q1, q2, q3⟩ := lp_up (body := bp_tryHours_l2 t (nI n) (nI mode)) (s := (0, m))
    (fun i s => s.1 = nI i ∧ frC 47 m s.2 ∧ SC T 47 s.2 (sHours T pc mode (S, num) i).1 ∧ mj_I (s.2 47 3) = nI (sHours T pc mode (S, num) i).2)
    (fun _ s => frC 47 m s.2 ∧ SC T 47 s.2 (sHours T pc mode (S, num) n).1 ∧ mj_I (s.2 47 3) = nI (sHours T pc mode (S, num) n).2) n (by unfold mj_F; omega)
    ⟨rfl, frC_rfl, hS, hN⟩
    (by
      intro i s hi ⟨h1, h2, h3, h4⟩
      obtain ⟨x, ms⟩ := s
      dsimp only at h1 h2 h3 h4
      subst h1
      obtain ⟨m1, p1, p2, p3, p4, p5, p6⟩ := ck_pass_e (n := (sHours T pc mode (S, num) i).2) ht (Or.inr (Or.inl rfl)) (hT.cong (frC_t h2 (by omega) ht)) hw hL h3 (sHours_WS hw hW i) (by omega) (by rw [h2 37 (by omega) (by omega) (by omega) (by omega) (by omega)]; exact hp) hpc hmo (sHours_n hn i) h4
      unfold bp_tryHours_l2
      dsimp only
      rw [if_neg (nI_ge hi (by omega)), p1, Option.bind_some]
      exact ⟨_, rfl, (nI_succ i).symm, frC_tr h2 p2, p3, p4⟩)
    (by
      intro s ⟨h1, h2, h3, h4⟩
      obtain ⟨x, ms⟩ := s
      dsimp only at h1 h2 h3 h4
      subst h1
      refine ⟨0, (nI n, ms), ?_, h2, h3, h4⟩
      unfold bp_tryHours_l2
      dsimp only
      rw [if_pos (nI_le (Nat.le_refl _) (by omega))])
  rw [e1, Option.bind_some]
  exact ⟨s1.2, rfl, q1, q2, q3⟩
theorem md_goMany_e {pc H mode n num : Nat} {T : zT} {S : zS} {m : mj_M} (hT : TR m T) (hR : LR m T) (hO : HO m T) (hw : WT T) (hL : WL T) (hS : SR T 1 m S) (hW : WS T H S) (hH : H + n ≤ 20000) (hF : RF m pc mode) (hpc : pc ≤ 199) (hmo : mode ≤ 2) (hn : num < 2 ^ 31) (hN : mj_J (m 68 60) = lN num) (h65 : mj_I (m 68 65) = 0) : ∃ m1, md_goMany (nI n) m = some m1 ∧ frR 1 m m1 ∧ SR T 1 m1 (sHours T pc mode (S, num) n).1 ∧ mj_J (m1 68 60) = lN (sHours T pc mode (S, num) n).2 := by
  unfold md_goMany
  obtain ⟨tt, s1, e1, q1, q2, q3⟩ := lp_up (body := md_goMany_l2 (nI n)) (s := (0, m))
    (fun i s => s.1 = nI i ∧ frR 1 m s.2 ∧ SR T 1 s.2 (sHours T pc mode (S, num) i).1 ∧ mj_J (s.2 68 60) = lN (sHours T pc mode (S, num) i).2)
    (fun _ s => frR 1 m s.2 ∧ SR T 1 s.2 (sHours T pc mode (S, num) n).1 ∧ mj_J (s.2 68 60) = lN (sHours T pc mode (S, num) n).2) n (by unfold mj_F; omega)
    ⟨rfl, frR_rfl, hS, hN⟩
    (by
      intro i s hi ⟨h1, h2, h3, h4⟩
      obtain ⟨x, ms⟩ := s
      dsimp only at h1 h2 h3 h4
      subst h1
      obtain ⟨m1, p1, p2, p3, p4, p5, p6⟩ := md_hourGoes_e (b := 1) (nh := false) (n := (sHours T pc mode (S, num) i).2) (by decide) (frR_TR h2 hT) (frR_LR h2 hR) (frR_HO h2 hO) hw hL h3 (sHours_WS hw hW i) (by omega) (frR_RF h2 hF) hpc hmo h4 (by rw [h2 68 65 (by unfold okc; omega)]; exact h65)
      have p1 : md_hourGoes 1 ms = some m1 := p1
      unfold md_goMany_l2
      dsimp only
      rw [if_neg (nI_ge hi (by omega)), p1, Option.bind_some]
      exact ⟨_, rfl, (nI_succ i).symm, frR_tr h2 p2, p3, p4⟩)
    (by
      intro s ⟨h1, h2, h3, h4⟩
      obtain ⟨x, ms⟩ := s
      dsimp only at h1 h2 h3 h4
      subst h1
      refine ⟨0, (nI n, ms), ?_, h2, h3, h4⟩
      unfold md_goMany_l2
      dsimp only
      rw [if_pos (nI_le (Nat.le_refl _) (by omega))])
  rw [e1, Option.bind_some]
  exact ⟨s1.2, rfl, q1, q2, q3⟩
/-! sums -/
def sumI (f : Nat → Int32) : Nat → Int32
  | 0 => 0
  | n + 1 => sumI f n + f n
theorem sumI_congr {f g : Nat → Int32} {n : Nat} (h : ∀ p, p < n → f p = g p) : sumI f n = sumI g n := by
  induction n with
  | zero => rfl
  | succ n ih => unfold sumI; rw [ih (fun p hp => h p (by omega)), h n (by omega)]
theorem sumI_more {f : Nat → Int32} {n k : Nat} (hk : n ≤ k) (h : ∀ p, n ≤ p → p < k → f p = 0) : sumI f k = sumI f n := by
  induction hk with
  | refl => rfl
  | @step k hk ih =>
    show sumI f k + f k = _
    rw [ih (fun p h1 h2 => h p h1 (by omega)), h k hk (by omega), Int32.add_zero]
theorem sa_allSlips_e {sp : Nat} {T : zT} {S : zS} {m : mj_M} (hw : WT T) (hS : SC T sp m S) : sa_allSlips sp m = some (sumI (S.2 1) (T 0 0)) := by
  have hnp := hw.np
  unfold sa_allSlips
  have e : mj_loop (sa_allSlips_l4 sp m) mj_F (0, 0) = some (0, (sumI (fun p => mj_I (m (sp + 1) p)) 6, nI 6)) := by
    refine lp_eq (fun i => (sumI (fun p => mj_I (m (sp + 1) p)) i, nI i)) 6 (by decide) (fun i hi => ?_) rfl
    have o1 : (nI i < 0) = False := eq_false (nI_pos (by omega))
    have o1' : (6 ≤ i) = False := eq_false (by omega)
    have o2 : (nI i).toNatClampNeg = i := nI_clamp (by omega)
    unfold sa_allSlips_l4
    simp only [o1, o1', o2, or_self, if_false]
    rw [if_neg (show ¬ Int32.ofNat 6 ≤ nI i from nI_ge hi (by decide)), ← nI_succ]
    rfl
  rw [e, Option.bind_some]
  dsimp only
  rw [sumI_more (n := T 0 0) hnp (fun p h1 h2 => hS.slips0 p h1 h2)]
  exact congrArg some (sumI_congr (fun p hp => hS.slips p hp))
theorem md_slipsAll_e {b : Nat} {T : zT} {S : zS} {m : mj_M} (hb : b < 2) (hw : WT T) (hT : TR m T) (hS : SR T b m S) : md_slipsAll (nI b) m = some (sumI (S.2 1) (T 0 0)) := by
  have hnp := hw.np
  unfold md_slipsAll
  have e : mj_loop (md_slipsAll_l4 (nI b) m) mj_F (0, 0) = some (0, (sumI (S.2 1) (T 0 0), nI (T 0 0))) := by
    refine lp_eq (fun i => (sumI (S.2 1) i, nI i)) (T 0 0) (by unfold mj_F; omega) (fun i hi => ?_) ?_
    · have w1 : (nI (6 * b + i) < 0) = False := eq_false (nI_pos (by omega))
      have w1' : (12 ≤ 6 * b + i) = False := eq_false (by omega)
      have w2 : (nI (6 * b + i)).toNatClampNeg = 6 * b + i := nI_clamp (by omega)
      unfold md_slipsAll_l4
      simp only [hT.np, ix6, w1, w1', w2, or_self, if_false]
      rw [if_neg (nI_ge hi (by omega)), hS.slips i hi, ← nI_succ]
      rfl
    · unfold md_slipsAll_l4
      dsimp only
      rw [hT.np, if_pos (nI_le (Nat.le_refl _) (by omega))]
  rw [e]
  rfl
/-! how many -/
def cnt (f : Nat → Bool) : Nat → Nat
  | 0 => 0
  | n + 1 => cnt f n + (if f n = true then 1 else 0)
theorem cnt_le {f : Nat → Bool} : ∀ n, cnt f n ≤ n := by
  intro n
  induction n with
  | zero => exact Nat.le_refl _
  | succ n ih => unfold cnt; split <;> omega
theorem cnt_congr {f g : Nat → Bool} {n : Nat} (h : ∀ p, p < n → f p = g p) : cnt f n = cnt g n := by
  induction n with
  | zero => rfl
  | succ n ih => unfold cnt; rw [ih (fun p hp => h p (by omega)), h n (by omega)]
theorem cnt_more {f : Nat → Bool} {n k : Nat} (hk : n ≤ k) (h : ∀ p, n ≤ p → p < k → f p = false) : cnt f k = cnt f n := by
  induction hk with
  | refl => rfl
  | @step k hk ih =>
    show cnt f k + _ = _
    rw [ih (fun p h1 h2 => h p h1 (by omega)), h k hk (by omega), if_neg (by decide), Nat.add_zero]
theorem cnt_bz {f : Nat → Bool} {n k : Nat} (h : n ≤ k) : cnt (fun i => (bz f n).testBit i) k = cnt f n := by
  rw [cnt_more h (fun p h1 _ => by rw [bz_bit, decide_eq_false (by omega)]; rfl)]
  exact cnt_congr (fun p hp => by rw [bz_bit, decide_eq_true hp]; rfl)
theorem ig_bits_m {v : Int32} {m m' : mj_M} : ig_bitCount v m = ig_bitCount v m' := rfl
theorem ig_bits : ∀ v : Nat, v < 256 → ig_bitCount (nI v) (fun _ _ => .int 0) = nI (cnt (fun i => v.testBit i) 8) := by decide +kernel
theorem ig_bits_e {v : Nat} {m : mj_M} (h : v < 256) : ig_bitCount (nI v) m = nI (cnt (fun i => v.testBit i) 8) := ig_bits v h
theorem ig_bz {f : Nat → Bool} {n : Nat} {m : mj_M} (h : n ≤ 8) : ig_bitCount (nI (bz f n)) m = nI (cnt f n) := by
  rw [ig_bits_e (bz_le (k := 8) h), cnt_bz h]
theorem sa_doneBits_e {sp : Nat} {T : zT} {S : zS} {m : mj_M} {H : Nat} (hsp : sp = 42 ∨ sp = 47 ∨ sp = 52) (hw : WT T) (hS : SC T sp m S) (hW : WS T H S) : sa_doneBits sp (nI (T 0 5)) m = some (nI (bz (fun w => decide (S.1 3 w = 0)) (T 0 5))) := by
  have hnw := hw.nw
  unfold sa_doneBits
  have e : mj_loop (sa_doneBits_l4 sp (nI (T 0 5)) m) mj_F (0, 0) = some (0, (nI (bz (fun w => decide (S.1 3 w = 0)) (T 0 5)), nI (T 0 5))) := by
    refine lp_eq (fun i => (nI (bz (fun w => decide (S.1 3 w = 0)) i), nI i)) (T 0 5) (by unfold mj_F; omega) (fun i hi => ?_) ?_
    · have hl := hW.left i hi
      have z : nI (S.1 3 i) = 0 ↔ S.1 3 i = 0 := nI_eq (b := 0) (by omega) (by decide)
      unfold sa_doneBits_l4 sa_doneBits_j23l4 sa_isDone
      dsimp only
      rw [if_neg (nI_ge hi (by omega)), (SC_at hS hsp hw).2.2.1 i hi, na_set (by omega), ← nI_succ]
      simp only [z]
      have eb : bz (fun w => decide (S.1 3 w = 0)) (i + 1) = if decide (S.1 3 i = 0) = true then bz (fun w => decide (S.1 3 w = 0)) i ||| 2 ^ i else bz (fun w => decide (S.1 3 w = 0)) i := rfl
      rw [eb]
      by_cases c : S.1 3 i = 0
      · simp [c]
      · simp [c]
    · unfold sa_doneBits_l4
      dsimp only
      rw [if_pos (nI_le (Nat.le_refl _) (by omega))]
  rw [e]
  rfl
theorem sa_doneCount_e {sp : Nat} {T : zT} {S : zS} {m : mj_M} {H : Nat} (hsp : sp = 42 ∨ sp = 47 ∨ sp = 52) (hw : WT T) (hS : SC T sp m S) (hW : WS T H S) : sa_doneCount sp (nI (T 0 5)) m = some (nI (cnt (fun w => decide (S.1 3 w = 0)) (T 0 5))) := by
  have hnw := hw.nw
  unfold sa_doneCount
  rw [sa_doneBits_e hsp hw hS hW, Option.bind_some, ig_bz hnw]
theorem md_doneAll_e {b : Nat} {T : zT} {S : zS} {m : mj_M} {H : Nat} (hb : b < 2) (hw : WT T) (hT : TR m T) (hS : SR T b m S) (hW : WS T H S) : md_doneAll (nI b) m = some (nI (cnt (fun w => decide (S.1 3 w = 0)) (T 0 5))) := by
  have hnw := hw.nw
  unfold md_doneAll
  have e : mj_loop (md_doneAll_l4 (nI b) m) mj_F (0, 0) = some (0, (nI (cnt (fun w => decide (S.1 3 w = 0)) (T 0 5)), nI (T 0 5))) := by
    refine lp_eq (fun i => (nI (cnt (fun w => decide (S.1 3 w = 0)) i), nI i)) (T 0 5) (by unfold mj_F; omega) (fun i hi => ?_) ?_
    · have hl := hW.left i hi
      have x1 : (nI (8 * b + i) < 0) = False := eq_false (nI_pos (by omega))
      have x1' : (16 ≤ 8 * b + i) = False := eq_false (by omega)
      have x2 : (nI (8 * b + i)).toNatClampNeg = 8 * b + i := nI_clamp (by omega)
      have z : nI (S.1 3 i) = 0 ↔ S.1 3 i = 0 := nI_eq (b := 0) (by omega) (by decide)
      unfold md_doneAll_l4 md_doneAll_j32l4
      simp only [hT.nw, ix8, x1, x1', x2, or_self, if_false]
      rw [if_neg (nI_ge hi (by omega)), hS.left i hi, ← nI_succ i]
      simp only [z]
      have eb : cnt (fun w => decide (S.1 3 w = 0)) (i + 1) = cnt (fun w => decide (S.1 3 w = 0)) i + (if decide (S.1 3 i = 0) = true then 1 else 0) := rfl
      rw [eb]
      by_cases c : S.1 3 i = 0
      · rw [if_pos c, if_pos (decide_eq_true c), ← nI_succ (cnt _ _)]
      · rw [if_neg c, if_neg (by rw [decide_eq_false c]; decide), Int32.add_zero]; rfl
    · unfold md_doneAll_l4
      dsimp only
      rw [hT.nw, if_pos (nI_le (Nat.le_refl _) (by omega))]
  rw [e]
  rfl
theorem md_hereBits_e {T : zT} {S : zS} {m : mj_M} {H : Nat} (hw : WT T) (hT : TR m T) (hS : SR T 0 m S) (hW : WS T H S) : md_hereBits m = some (nI (bz (fun p => decide (S.1 5 p = 1)) (T 0 0))) := by
  have hnp := hw.np
  unfold md_hereBits
  have e : mj_loop (md_hereBits_l4 m) mj_F (0, 0) = some (0, (nI (bz (fun p => decide (S.1 5 p = 1)) (T 0 0)), nI (T 0 0))) := by
    refine lp_eq (fun i => (nI (bz (fun p => decide (S.1 5 p = 1)) i), nI i)) (T 0 0) (by unfold mj_F; omega) (fun i hi => ?_) ?_
    · have hl := hW.here i hi
      have x1 : (nI i < 0) = False := eq_false (nI_pos (by omega))
      have x1' : (12 ≤ i) = False := eq_false (by omega)
      have x2 : (nI i).toNatClampNeg = i := nI_clamp (by omega)
      have v := hS.here i hi
      rw [show 6 * 0 + i = i by omega] at v
      have z : nI (S.1 5 i) = 0 ↔ S.1 5 i = 0 := nI_eq (b := 0) (by omega) (by decide)
      unfold md_hereBits_l4 md_hereBits_j29l4
      simp only [hT.np, x1, x1', x2, or_self, if_false, v, z]
      rw [if_neg (nI_ge hi (by omega)), na_set (by omega), ← nI_succ]
      have eb : bz (fun p => decide (S.1 5 p = 1)) (i + 1) = if decide (S.1 5 i = 1) = true then bz (fun p => decide (S.1 5 p = 1)) i ||| 2 ^ i else bz (fun p => decide (S.1 5 p = 1)) i := rfl
      have e0 : nI (bz (fun p => decide (S.1 5 p = 1)) i) ||| (0 : Int32) = nI (bz (fun p => decide (S.1 5 p = 1)) i) := by rw [show (0 : Int32) = nI 0 from rfl, na_or, Nat.or_zero]
      rw [eb, e0]
      by_cases c : S.1 5 i = 0
      · have : ¬ S.1 5 i = 1 := by omega
        simp [c]
      · have : S.1 5 i = 1 := by omega
        simp [this]
    · unfold md_hereBits_l4
      dsimp only
      rw [hT.np, if_pos (nI_le (Nat.le_refl _) (by omega))]
  rw [e]
  rfl
theorem md_manyOf_e {v : Nat} {m : mj_M} (hv : v < 2 ^ 31) : md_manyOf (nI v) m = some (nI (cnt (fun i => v.testBit i) 8)) := by
  unfold md_manyOf
  have e : mj_loop (md_manyOf_l4 (nI v) m) mj_F (0, 0) = some (0, (nI (cnt (fun i => v.testBit i) 8), nI 8)) := by
    refine lp_eq (fun i => (nI (cnt (fun i => v.testBit i) i), nI i)) 8 (by decide) (fun i hi => ?_) rfl
    unfold md_manyOf_l4
    dsimp only
    rw [if_neg (show ¬ (8 : Int32) ≤ nI i from nI_ge (b := 8) hi (by decide)), na_has hv (by omega), ← nI_succ i]
    have eb : cnt (fun i => v.testBit i) (i + 1) = cnt (fun i => v.testBit i) i + (if v.testBit i = true then 1 else 0) := rfl
    rw [eb]
    by_cases c : v.testBit i = true
    · rw [if_pos c, if_pos c, ← nI_succ (cnt _ _)]
    · rw [if_neg c, if_neg c, Int32.add_zero]; rfl
  rw [e]
  rfl
