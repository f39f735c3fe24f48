/-! AN HOUR, ON THE CLASS'S SIDE (own work) -/
theorem TC.cong {t : Nat} {m m1 : mj_M} {T : zT} (h : TC t m T) (hm : ∀ i, i ≤ 13 → m1 (t + i) = m (t + i)) : TC t m1 T := by
  have e0 : m1 t = m t := hm 0 (by omega)
  refine ⟨?_, ?_, ?_, ?_, ?_, ?_, ?_, ?_, ?_⟩
  · rw [e0]; exact h.np
  · rw [e0]; exact h.nw
  · rw [e0]; exact h.ns
  · rw [e0]; exact h.spring
  · rw [e0]; exact h.wasp
  · rw [e0]; exact h.seed
  · intro i j h1 h2 h3; rw [hm i (by omega)]; exact h.row i j h1 h2 h3
  · intro l hl; rw [hm 12 (by omega), hm 13 (by omega)]; exact h.law l hl
  · intro l i hl h1 h2; rw [hm 11 (by omega)]; exact h.code l i hl h1 h2
theorem ck_speed_e {t pc : Nat} {T : zT} {S : zS} {m : mj_M} (ht : t = 3 ∨ t = 17) (hT : TC t m T) (hw : WT T) (hp : mj_I (m 37 1) = nI pc) (hpc : pc ≤ 199) (hh : S.1 0 0 ≤ 20000) : ck_speedOf t (nI (S.1 0 0)) m = some (nI (sSpeed T pc S)) := by
  have hns := hw.ns
  unfold ck_speedOf sSpeed
  rw [hp, hT.ns]
  by_cases h0 : 0 < pc
  · rw [if_neg (nI_nle h0 (by omega)), if_pos h0]
  · have e : pc = 0 := by omega
    subst e
    rw [if_pos (show nI 0 ≤ 0 by decide), if_neg h0]
    by_cases hn : T 0 11 = 0
    · rw [if_pos hn, hn]; rfl
    · have h1 : ¬ nI (T 0 11) < 1 := nI_nlt (a := T 0 11) (b := 1) (by omega) (by omega)
      rw [if_neg hn, if_neg h1, if_pos (nI_pos' (by omega)), if_neg (nI_ne0 (by omega) (by omega)), pk_rem (by omega) (by omega) (by omega)]
      have hm := Nat.mod_lt (S.1 0 0) (show 0 < T 0 11 by omega)
      rw [hT.r ht hw (i := 10) (by decide) (by decide) hm]
theorem na_addI {s : Nat} {x : Int32} (hs : s ≤ 100000) (hx : -99 ≤ x.toInt ∧ x.toInt ≤ 99) : (nI s + x).toInt = (s : Int) + x.toInt := by
  rw [Int32.toInt_add, nI_toInt (by omega), bm32 (by omega) (by omega)]
theorem na_ltI {x y : Int32} : x < y ↔ x.toInt < y.toInt := Int32.lt_iff_toInt_lt
theorem na_leI {x y : Int32} : x ≤ y ↔ x.toInt ≤ y.toInt := Int32.le_iff_toInt_le
theorem k199 : ((199 : Int32)).toInt = 199 := rfl
theorem k1 : ((1 : Int32)).toInt = 1 := rfl
theorem na_cl {s : Nat} {x : Int32} {m : mj_M} (hs : s ≤ 199) (hx : -99 ≤ x.toInt ∧ x.toInt ≤ 99) : ma_max 1 (ma_min 199 (nI s + x) m) m = nI (max 1 (min 199 ((s : Int) + x.toInt))).toNat := by
  have e := na_addI (s := s) (by omega) hx
  have fin : ∀ y : Int32, y.toInt = max 1 (min 199 ((s : Int) + x.toInt)) → y = nI (max 1 (min 199 ((s : Int) + x.toInt))).toNat := by
    intro y hy
    apply Int32.toInt_inj.mp
    rw [nI_toInt (by omega)]
    omega
  apply fin
  unfold ma_max ma_min
  simp only [na_ltI, e, k199, k1]
  by_cases c : (s : Int) + x.toInt < 199
  · simp only [if_pos c, e]
    by_cases c2 : 1 < (s : Int) + x.toInt
    · rw [if_pos c2, e]; omega
    · rw [if_neg c2, k1]; omega
  · simp only [if_neg c, k199]
    rw [if_pos (by decide), k199]
    omega
theorem ck_plain_e {t sp pc H : Nat} {T : zT} {S : zS} {m : mj_M} (ht : t = 3 ∨ t = 17) (hT : TC t m T) (hw : WT T) (hS : SC T sp m S) (hW : WS T H S) (hH : H ≤ 20000) (hp : mj_I (m 37 1) = nI pc) (hpc : pc ≤ 199) : ck_plainBeat t sp m = some (nI (sBeat T pc S)) := by
  have hc := hW.coil
  have hh := hW.hour
  unfold ck_plainBeat sBeat
  rw [hS.coil, hS.hour, hS.shift]
  by_cases h0 : S.1 0 1 = 0
  · rw [if_pos h0, h0]; rfl
  · rw [if_neg h0, if_neg (nI_ne0 (by omega) (by omega)), ck_speed_e ht hT hw hp hpc (by omega), Option.bind_some, na_cl (sSpeed_b hw hpc).2 hW.shift]
theorem na_andL {a b : Nat} : lN a &&& lN b = lN (a &&& b) := by
  apply Int64.toBitVec_inj.mp
  apply BitVec.eq_of_getLsbD_eq
  intro i hi
  simp [lN, hi]
theorem na_nxtL {n : Nat} : (lN n * 1103515245 + 12345) &&& 2147483647 = lN (sNxt n) := by
  rw [show (1103515245 : Int64) = lN 1103515245 from rfl, show (12345 : Int64) = lN 12345 from rfl, lN_mul, lN_add, show (2147483647 : Int64) = lN (2 ^ 31 - 1) from rfl, na_andL, Nat.and_two_pow_sub_one_eq_mod]
  rfl
theorem na_nxt {n : Nat} (hn : n < 2 ^ 31) : ((((((nI n).toInt64) * 1103515245) + 12345) &&& 2147483647).toInt32) = nI (sNxt n) := by
  rw [nI_l hn, na_nxtL, lN_i]
theorem ck_beat_e {t sp pc H mode n : Nat} {T : zT} {S : zS} {m : mj_M} (ht : t = 3 ∨ t = 17) (hT : TC t m T) (hw : WT T) (hS : SC T sp m S) (hW : WS T H S) (hH : H ≤ 20000) (hp : mj_I (m 37 1) = nI pc) (hpc : pc ≤ 199) (hmo : mode ≤ 2) (hn : n < 2 ^ 31) (hN : mj_I (m sp 3) = nI n) : ∃ m1, ck_beatOf t sp (nI mode) m = some (nI (sBt T pc mode S n).1, m1) ∧ mj_I (m1 sp 3) = nI (sBt T pc mode S n).2 ∧ ∀ a b, ¬ (a = sp ∧ b = 3) → m1 a b = m a b := by
  have hb := @sBeat_le T pc S
  unfold ck_beatOf
  rw [ck_plain_e ht hT hw hS hW hH hp hpc, Option.bind_some]
  unfold sBt
  generalize sBeat T pc S = b at hb
  by_cases h0 : b = 0
  · subst h0
    have e : sWasp T mode 0 n = (false, n) := by unfold sWasp; rw [if_pos (Or.inr (Or.inr rfl))]
    rw [if_pos (show nI 0 ≤ 0 by decide), e]
    exact ⟨m, rfl, hN, fun _ _ _ => rfl⟩
  have hdb : ma_min 199 (2 * nI b) m = nI (min 199 (2 * b)) := by
    unfold ma_min
    rw [show (2 : Int32) = nI 2 from rfl, pk_mul, show (199 : Int32) = nI 199 from rfl]
    simp only [nI_ltI (show 2 * b < 2 ^ 31 by omega) (show 199 < 2 ^ 31 by omega)]
    split
    · congr 1; omega
    · congr 1; omega
  have hdb' : ∀ m', ma_min 199 (2 * nI b) m' = nI (min 199 (2 * b)) := fun m' => hdb
  rw [if_neg (nI_nle (by omega) (by omega))]
  have hwp := hw.wasp
  unfold ck_isWaspIn sWasp
  rw [hT.wasp]
  by_cases c2 : mode = 2
  · subst c2
    rw [if_pos (show nI 2 = 2 from rfl), if_pos (Or.inl rfl)]
    exact ⟨m, rfl, hN, fun _ _ _ => rfl⟩
  rw [if_neg (show ¬ nI mode = 2 from fun e => c2 ((nI_eq (b := 2) (by omega) (by decide)).mp e))]
  by_cases c0 : T 0 14 = 0
  · rw [if_pos (show nI (T 0 14) = 0 by rw [c0]; rfl), if_pos (Or.inr (Or.inl c0))]
    exact ⟨m, rfl, hN, fun _ _ _ => rfl⟩
  rw [if_neg (nI_ne0 (by omega) (by omega)), if_neg (show ¬ (mode = 2 ∨ T 0 14 = 0 ∨ b = 0) by omega)]
  have d50 : nI (T 0 14) < 50 ↔ T 0 14 < 50 := nI_ltI (b := 50) (by omega) (by decide)
  by_cases c1 : mode = 1
  · subst c1
    rw [if_pos (show nI 1 = 1 from rfl), if_pos rfl]
    simp only [d50]
    by_cases c : T 0 14 < 50
    · rw [if_pos c, Option.bind_some]
      have : ¬ 50 ≤ T 0 14 := by omega
      simp only [this, decide_false, if_true]
      exact ⟨m, rfl, hN, fun _ _ _ => rfl⟩
    · rw [if_neg c, Option.bind_some]
      have : 50 ≤ T 0 14 := by omega
      simp only [this, decide_true, if_true]
      rw [if_neg (show ¬ (1 : Int32) = 0 by decide), hdb]
      exact ⟨m, rfl, hN, fun _ _ _ => rfl⟩
  rw [if_neg (show ¬ nI mode = 1 from fun e => c1 ((nI_eq (b := 1) (by omega) (by decide)).mp e)), if_neg c1]
  by_cases c3 : T 0 14 = 100
  · rw [if_pos (show nI (T 0 14) = 100 by rw [c3]; rfl), if_pos c3, Option.bind_some]
    dsimp only
    rw [if_neg (show ¬ (1 : Int32) = 0 by decide), hdb]
    exact ⟨m, rfl, hN, fun _ _ _ => rfl⟩
  rw [if_neg (show ¬ nI (T 0 14) = 100 from fun e => c3 ((nI_eq (b := 100) (by omega) (by decide)).mp e)), if_neg c3, hN, na_nxt hn]
  have hx := @sNxt_lt n
  have e65 : nI (sNxt n) / 65536 = nI (sNxt n / 65536) := pk_div (d := 65536) hx (by decide) (by decide)
  have hx2 : sNxt n / 65536 < 2 ^ 31 := Nat.lt_of_le_of_lt (Nat.div_le_self _ _) hx
  have e100 : nI (sNxt n / 65536) - nI (sNxt n / 65536) / 100 * 100 = nI (sNxt n / 65536 % 100) := pk_rem (d := 100) hx2 (by decide) (by decide)
  rw [e65, e100]
  have hm := Nat.mod_lt (sNxt n / 65536) (show 0 < 100 by decide)
  simp only [nI_leI (show T 0 14 < 2 ^ 31 by omega) (show sNxt n / 65536 % 100 < 2 ^ 31 by omega)]
  have fr : ∀ a b, ¬ (a = sp ∧ b = 3) → mj_up m sp 3 (.int (nI (sNxt n))) a b = m a b := fun a b h => na_upN h
  by_cases c : T 0 14 ≤ sNxt n / 65536 % 100
  · rw [if_pos c, Option.bind_some]
    have : ¬ sNxt n / 65536 % 100 < T 0 14 := by omega
    simp only [this, decide_false, if_true]
    exact ⟨_, rfl, by rw [na_upS]; rfl, fr⟩
  · rw [if_neg c, Option.bind_some]
    have : sNxt n / 65536 % 100 < T 0 14 := by omega
    simp only [this, decide_true, if_true]
    rw [if_neg (show ¬ (1 : Int32) = 0 by decide), hdb']
    exact ⟨_, rfl, by rw [na_upS]; rfl, fr⟩
theorem rk_set_e {j : Nat} (hj : j < 7) {v : Int64} {m : mj_M} : rk_set (nI j) v m = some (mj_up m 39 j (.long v)) := by
  unfold rk_set
  rw [if_neg (show ¬ nI j < 0 from nI_pos (by omega)), if_neg (show ¬ Int32.ofNat 7 ≤ nI j from nI_ge hj (by decide)), if_neg (nI_in hj (by decide)), nI_clamp (by omega)]
theorem ck_name_e {t sp b f a l r c h : Nat} {v3 v4 : Int32} {m : mj_M} (ht : t = 3 ∨ t = 17) (hsp : sp = 42 ∨ sp = 47 ∨ sp = 52) (hf : fx_at m (t + 2) v3 = nI f) (ha : fx_at m (t + 3) v3 = nI a) (hl : fx_at m (sp + 3) v4 = nI l) (hr : fx_at m (t + 8) v4 = nI r) (hc : mj_I (m sp 1) = nI c) (hh : mj_I (m sp 0) = nI h) (bb : b < 2 ^ 31 ∧ f < 2 ^ 31 ∧ a < 2 ^ 31 ∧ l < 2 ^ 31 ∧ r < 2 ^ 31 ∧ c < 2 ^ 31 ∧ h < 2 ^ 31) : ∃ m1, ck_name t sp (nI b) v3 v4 m = some m1 ∧ (∀ j, j < 7 → mj_J (m1 39 j) = sNm b f a l r c h j) ∧ ∀ k, k ≠ 39 → m1 k = m k := by
  obtain ⟨b1, b2, b3, b4, b5, b6, b7⟩ := bb
  have n1 : t + 2 ≠ 39 := by omega
  have n2 : t + 3 ≠ 39 := by omega
  have n3 : t + 8 ≠ 39 := by omega
  have n4 : sp + 3 ≠ 39 := by omega
  have n5 : sp ≠ 39 := by omega
  have up0 : ∀ (m : mj_M) i v j, mj_up m 39 i v sp j = m sp j := fun m i v j => na_upN (fun z => n5 z.1)
  have s0 : ∀ v m, rk_set 0 v m = some (mj_up m 39 0 (.long v)) := fun v m => rk_set_e (j := 0) (by decide)
  have s1 : ∀ v m, rk_set 1 v m = some (mj_up m 39 1 (.long v)) := fun v m => rk_set_e (j := 1) (by decide)
  have s2 : ∀ v m, rk_set 2 v m = some (mj_up m 39 2 (.long v)) := fun v m => rk_set_e (j := 2) (by decide)
  have s3 : ∀ v m, rk_set 3 v m = some (mj_up m 39 3 (.long v)) := fun v m => rk_set_e (j := 3) (by decide)
  have s4 : ∀ v m, rk_set 4 v m = some (mj_up m 39 4 (.long v)) := fun v m => rk_set_e (j := 4) (by decide)
  have s5 : ∀ v m, rk_set 5 v m = some (mj_up m 39 5 (.long v)) := fun v m => rk_set_e (j := 5) (by decide)
  have s6 : ∀ v m, rk_set 6 v m = some (mj_up m 39 6 (.long v)) := fun v m => rk_set_e (j := 6) (by decide)
  unfold ck_name
  simp only [s0, s1, s2, s3, s4, s5, s6, Option.bind_some, na_atU n1, na_atU n2, na_atU n3, na_atU n4, up0, hf, ha, hl, hr, hc, hh, nI_l b1, nI_l b2, nI_l b3, nI_l b4, nI_l b5, nI_l b6, nI_l b7]
  refine ⟨_, rfl, fun j hj => ?_, fun k hk => ?_⟩
  · rcases (show j = 0 ∨ j = 1 ∨ j = 2 ∨ j = 3 ∨ j = 4 ∨ j = 5 ∨ j = 6 by omega) with rfl | rfl | rfl | rfl | rfl | rfl | rfl <;> rfl
  · rw [fr_up hk, fr_up hk, fr_up hk, fr_up hk, fr_up hk, fr_up hk, fr_up hk]
