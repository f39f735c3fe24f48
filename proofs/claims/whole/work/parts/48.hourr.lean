/-! AN HOUR, ON THE REFERENCE'S SIDE: its pieces (own work) -/
theorem ix8 {b w : Nat} : (8 : Int32) * nI b + nI w = nI (8 * b + w) := by rw [show (8 : Int32) = nI 8 from rfl, pk_mul, nI_add]
theorem ix6 {b w : Nat} : (6 : Int32) * nI b + nI w = nI (6 * b + w) := by rw [show (6 : Int32) = nI 6 from rfl, pk_mul, nI_add]
/-- what an HOUR of the half b may change -/
def okc (b a j : Nat) : Prop := a = 91 ∨ a = 92 ∨ a = 101 ∨ (a = 68 ∧ (j = 50 ∨ j = 60 ∨ j = 61 ∨ j = 62)) ∨ ((a = 93 ∨ a = 94) ∧ 8 * b ≤ j ∧ j < 8 * b + 8) ∨ ((a = 95 ∨ a = 96) ∧ 6 * b ≤ j ∧ j < 6 * b + 6) ∨ ((a = 98 ∨ a = 100) ∧ j = b)
def frR (b : Nat) (m m1 : mj_M) : Prop := ∀ a j, ¬ okc b a j → m1 a j = m a j
theorem frR_rfl {b : Nat} {m : mj_M} : frR b m m := fun _ _ _ => rfl
theorem frR_tr {b : Nat} {m m1 m2 : mj_M} (h1 : frR b m m1) (h2 : frR b m1 m2) : frR b m m2 := fun a j h => (h2 a j h).trans (h1 a j h)
theorem frR_row {b : Nat} {m m1 : mj_M} (h : frR b m m1) {a : Nat} (h1 : a < 91 ∨ a = 97 ∨ a = 99 ∨ 102 ≤ a) (h2 : a ≠ 68) : m1 a = m a := funext fun j => h a j (by unfold okc; omega)
theorem TR.cong {m m1 : mj_M} {T : zT} (h : TR m T) (h0 : ∀ j, j = 12 ∨ j = 14 ∨ j = 15 → m1 68 j = m 68 j) (hr : ∀ k, 72 ≤ k → k ≤ 82 → k ≠ 81 → m1 k = m k) : TR m1 T := by
  refine ⟨?_, ?_, ?_, ?_, ?_, ?_, ?_⟩
  · rw [h0 12 (by omega)]; exact h.np
  · rw [h0 14 (by omega)]; exact h.nw
  · rw [h0 15 (by omega)]; exact h.ns
  · rw [hr 72 (by omega) (by omega) (by omega)]; exact h.spring
  · rw [hr 72 (by omega) (by omega) (by omega)]; exact h.wasp
  · rw [hr 72 (by omega) (by omega) (by omega)]; exact h.seed
  · intro i j h1 h2 h3 h4; rw [hr _ (by omega) (by omega) (by omega)]; exact h.row i j h1 h2 h3 h4
theorem LR.cong {m m1 : mj_M} {T : zT} (h : LR m T) (hr : ∀ k, 83 ≤ k → k ≤ 88 → m1 k = m k) : LR m1 T := by
  intro l hl
  unfold knR
  rw [hr 83 (by omega) (by omega), hr 84 (by omega) (by omega), hr 85 (by omega) (by omega), hr 86 (by omega) (by omega), hr 87 (by omega) (by omega), hr 88 (by omega) (by omega)]
  exact h l hl
theorem frR_TR {b : Nat} {m m1 : mj_M} {T : zT} (h : frR b m m1) (hT : TR m T) : TR m1 T := hT.cong (fun j hj => h 68 j (by unfold okc; omega)) (fun k h1 h2 _ => frR_row h (by omega) (by omega))
theorem frR_LR {b : Nat} {m m1 : mj_M} {T : zT} (h : frR b m m1) (hT : LR m T) : LR m1 T := hT.cong (fun k h1 h2 => frR_row h (by omega) (by omega))
/-- when a WORK begins, another one told for one of them or not -/
def HO (m : mj_M) (T : zT) : Prop := ∀ w, w < T 0 5 → (if nI w = mj_I (m 68 67) then mj_I (m 68 68) else mj_I (m 81 w)) = nI (T 9 w)
theorem frR_HO {b : Nat} {m m1 : mj_M} {T : zT} (h : frR b m m1) (hT : HO m T) : HO m1 T := by
  intro w hw
  rw [h 68 67 (by unfold okc; omega), h 68 68 (by unfold okc; omega), frR_row h (a := 81) (by omega) (by omega)]
  exact hT w hw
/-- the signs by which hours are tried -/
def RF (m : mj_M) (pc mode : Nat) : Prop := mj_I (m 68 66) = nI pc ∧ mj_I (m 68 63) = (if mode = 0 then 1 else 0) ∧ mj_I (m 68 64) = (if mode = 2 then 1 else 0)
theorem frR_RF {b : Nat} {m m1 : mj_M} {pc mode : Nat} (h : frR b m m1) (hT : RF m pc mode) : RF m1 pc mode := by
  unfold RF
  rw [h 68 66 (by unfold okc; omega), h 68 63 (by unfold okc; omega), h 68 64 (by unfold okc; omega)]
  exact hT
theorem md_speed_e {pc : Nat} {T : zT} {S : zS} {m : mj_M} (hT : TR m T) (hw : WT T) (hp : mj_I (m 68 66) = nI pc) (hpc : pc ≤ 199) (hh : S.1 0 0 ≤ 20000) : md_speedOf (nI (S.1 0 0)) m = some (nI (sSpeed T pc S)) := by
  have hns := hw.ns
  unfold md_speedOf sSpeed
  rw [hp, hT.ns]
  by_cases h0 : 0 < pc
  · rw [if_neg (nI_nle h0 (by omega)), if_pos h0]
  · have e : pc = 0 := by omega
    subst e
    rw [if_pos (show nI 0 ≤ 0 by decide), if_neg h0]
    by_cases hn : T 0 11 = 0
    · rw [if_pos hn, if_pos (show nI (T 0 11) = 0 by rw [hn]; rfl)]; rfl
    · have h1 : ¬ nI (T 0 11) = 0 := nI_ne0 (by omega) (by omega)
      have hm := Nat.mod_lt (S.1 0 0) (show 0 < T 0 11 by omega)
      rw [if_neg hn, if_neg h1, if_neg h1, pk_rem (by omega) (by omega) (by omega), if_neg (nI_in (N := 16) (by omega) (by decide)), nI_clamp (by omega)]
      have hr := hT.row 10 (S.1 0 0 % T 0 11) (by decide) (by decide) (by decide) hm
      rw [show 72 + 10 = 82 from rfl] at hr
      rw [hr]
theorem na_wi {s : Nat} {x : Int32} {m : mj_M} (hs : s ≤ 199) (hx : -99 ≤ x.toInt ∧ x.toInt ≤ 99) : md_within (nI s + x) 1 199 m = nI (max 1 (min 199 ((s : Int) + x.toInt))).toNat := by
  rw [← na_cl (m := m) hs hx]
  have e := na_addI (s := s) (by omega) hx
  apply Int32.toInt_inj.mp
  unfold md_within ma_max ma_min
  simp only [na_ltI, na_leI, e, k199, k1]
  by_cases c : (s : Int) + x.toInt < 199
  · simp only [if_pos c, e]
    by_cases c2 : 1 < (s : Int) + x.toInt
    · rw [if_pos c2, if_pos (show 1 ≤ (s : Int) + x.toInt by omega), if_pos (show (s : Int) + x.toInt ≤ 199 by omega)]
    · rw [if_neg c2]
      by_cases c3 : 1 ≤ (s : Int) + x.toInt
      · rw [if_pos c3, if_pos (show (s : Int) + x.toInt ≤ 199 by omega), e, k1]; omega
      · rw [if_neg c3]
  · simp only [if_neg c, k199]
    rw [if_pos (show 1 ≤ (s : Int) + x.toInt by omega), if_pos (show (1 : Int) < 199 by decide)]
    by_cases c3 : (s : Int) + x.toInt ≤ 199
    · rw [if_pos c3, e, k199]; omega
    · rw [if_neg c3]
theorem md_beatOf_e {b pc H : Nat} {T : zT} {S : zS} {m : mj_M} (hb : b < 2) (hT : TR m T) (hw : WT T) (hS : SR T b m S) (hW : WS T H S) (hH : H ≤ 20000) (hp : mj_I (m 68 66) = nI pc) (hpc : pc ≤ 199) {v2 : Int32} : md_beatOf (nI b) v2 m = some (nI (if v2 = 0 then sBeat T pc S else min 199 (2 * sBeat T pc S))) := by
  have hc := hW.coil
  have hh := hW.hour
  have o1 : (nI b < 0) = False := eq_false (nI_pos (by omega))
  have o1' : (2 ≤ b) = False := eq_false (by omega)
  have o2 : (nI b).toNatClampNeg = b := nI_clamp (by omega)
  unfold md_beatOf
  simp only [o2, o1, o1', or_self, if_false]
  rw [hS.coil, hS.hour, hS.shift]
  unfold sBeat
  by_cases h0 : S.1 0 1 = 0
  · rw [if_pos (show nI (S.1 0 1) = 0 by rw [h0]; rfl), if_pos h0]
    split <;> rfl
  · rw [if_neg (nI_ne0 (by omega) (by omega)), if_neg h0, md_speed_e hT hw hp hpc (by omega), Option.bind_some, na_wi (sSpeed_b hw hpc).2 hW.shift]
    have hx : (max 1 (min 199 ((sSpeed T pc S : Int) + (S.2 0 2).toInt))).toNat ≤ 199 := by omega
    generalize (max 1 (min 199 ((sSpeed T pc S : Int) + (S.2 0 2).toInt))).toNat = x at hx
    by_cases c : v2 = 0
    · rw [if_pos c, if_pos c]
    · rw [if_neg c, if_neg c, show (2 : Int32) = nI 2 from rfl, pk_mul, show (199 : Int32) = nI 199 from rfl]
      simp only [nI_leI (show 2 * x < 2 ^ 31 by omega) (show 199 < 2 ^ 31 by omega)]
      split
      · congr 2; omega
      · congr 2; omega
theorem md_wasp_e {b pc H mode n : Nat} {T : zT} {S : zS} {m : mj_M} (hb : b < 2) (hT : TR m T) (hw : WT T) (hS : SR T b m S) (hW : WS T H S) (hH : H ≤ 20000) (hF : RF m pc mode) (hpc : pc ≤ 199) (hmo : mode ≤ 2) (hN : mj_J (m 68 60) = lN n) : ∃ m1, md_isWasp (nI b) m = some ((if (sWasp T mode (sBeat T pc S) n).1 = true then 1 else 0), m1) ∧ mj_J (m1 68 60) = lN (sWasp T mode (sBeat T pc S) n).2 ∧ ∀ a j, ¬ (a = 68 ∧ j = 60) → m1 a j = m a j := by
  have hwp := hw.wasp
  have hbe := @sBeat_le T pc S
  have e1 : ((1 : Int32)).toNatClampNeg = 1 := rfl
  unfold md_isWasp sWasp
  rw [hF.2.2, e1, hT.wasp]
  by_cases c2 : mode = 2
  · rw [if_pos c2, if_neg (show ¬ (1 : Int32) = 0 by decide), if_pos (Or.inl c2)]
    exact ⟨m, rfl, hN, fun _ _ _ => rfl⟩
  rw [if_neg c2, if_pos (show (0 : Int32) = 0 from rfl)]
  by_cases c0 : T 0 14 = 0
  · rw [if_pos (show nI (T 0 14) = 0 by rw [c0]; rfl), if_pos (Or.inr (Or.inl c0))]
    exact ⟨m, rfl, hN, fun _ _ _ => rfl⟩
  rw [if_neg (nI_ne0 (by omega) (by omega)), md_beatOf_e hb hT hw hS hW hH hF.1 hpc, Option.bind_some, if_pos (show (0 : Int32) = 0 from rfl)]
  generalize sBeat T pc S = be at hbe
  by_cases cb : be = 0
  · rw [if_pos (show nI be = 0 by rw [cb]; rfl), if_pos (Or.inr (Or.inr cb))]
    exact ⟨m, rfl, hN, fun _ _ _ => rfl⟩
  rw [if_neg (nI_ne0 (by omega) (by omega)), if_neg (show ¬ (mode = 2 ∨ T 0 14 = 0 ∨ be = 0) by omega), hF.2.1]
  have d50 : nI (T 0 14) < 50 ↔ T 0 14 < 50 := nI_ltI (b := 50) (by omega) (by decide)
  have d100 : nI (T 0 14) = 100 ↔ T 0 14 = 100 := nI_eq (b := 100) (by omega) (by decide)
  simp only [d50, d100]
  by_cases c1 : mode = 1
  · subst c1
    rw [if_neg (show ¬ (1 : Nat) = 0 by decide), if_pos (show (0 : Int32) = 0 from rfl), if_pos (show (1 : Nat) = 1 from rfl)]
    by_cases c3 : T 0 14 = 100
    · rw [if_pos c3]
      have : 50 ≤ T 0 14 := by omega
      simp only [this, decide_true, if_true]
      exact ⟨m, rfl, hN, fun _ _ _ => rfl⟩
    · rw [if_neg c3]
      by_cases c : T 0 14 < 50
      · rw [if_pos c]
        have : ¬ 50 ≤ T 0 14 := by omega
        simp only [this, decide_false, if_neg (show ¬ false = true by decide)]
        exact ⟨m, rfl, hN, fun _ _ _ => rfl⟩
      · rw [if_neg c]
        have : 50 ≤ T 0 14 := by omega
        simp only [this, decide_true, if_true]
        exact ⟨m, rfl, hN, fun _ _ _ => rfl⟩
  rw [if_neg c1]
  by_cases c3 : T 0 14 = 100
  · rw [if_pos c3, if_pos c3]
    exact ⟨m, rfl, hN, fun _ _ _ => rfl⟩
  have m0 : mode = 0 := by omega
  rw [if_neg c3, if_neg c3, if_pos m0, if_neg (show ¬ (1 : Int32) = 0 by decide)]
  have hx := @sNxt_lt n
  have el : ((100 : Int32)).toInt64 = lN 100 := rfl
  unfold md_number1
  rw [el, if_neg (show ¬ lN 100 = 0 by decide), Option.bind_some, hN, na_nxtL]
  have e65 : lN (sNxt n) / 65536 = lN (sNxt n / 65536) := pk_lDiv (b := 65536) (by omega) (by decide) (by decide)
  have hx2 : sNxt n / 65536 < 2 ^ 31 := Nat.lt_of_le_of_lt (Nat.div_le_self _ _) hx
  have hm := Nat.mod_lt (sNxt n / 65536) (show 0 < 100 by decide)
  rw [e65, pk_lRem (by omega) (by decide) (by decide), lN_i]
  dsimp only
  have ew : mj_I (mj_up m 68 60 (.long (lN (sNxt n))) 72 1) = nI (T 0 14) := by rw [na_upN (by omega)]; exact hT.wasp
  have fr : ∀ a j, ¬ (a = 68 ∧ j = 60) → mj_up m 68 60 (.long (lN (sNxt n))) a j = m a j := fun a j h => na_upN h
  rw [ew]
  simp only [nI_leI (show T 0 14 < 2 ^ 31 by omega) (show sNxt n / 65536 % 100 < 2 ^ 31 by omega)]
  by_cases c : T 0 14 ≤ sNxt n / 65536 % 100
  · rw [if_pos c]
    have : ¬ sNxt n / 65536 % 100 < T 0 14 := by omega
    simp only [this, decide_false, if_neg (show ¬ false = true by decide)]
    exact ⟨_, rfl, by rw [na_upS]; rfl, fr⟩
  · rw [if_neg c]
    have : sNxt n / 65536 % 100 < T 0 14 := by omega
    simp only [this, decide_true, if_true]
    exact ⟨_, rfl, by rw [na_upS]; rfl, fr⟩
theorem md_isOn_e {b i beat : Nat} {T : zT} {S : zS} {m : mj_M} (hb : b < 2) (hT : TR m T) (hw : WT T) (hO : HO m T) (hi : i < T 0 5) (ho5 : mj_I (m 97 (6 * b + T 6 i)) = nI (S.1 5 (T 6 i))) (ho2 : mj_I (m 96 (6 * b + T 6 i)) = nI (S.1 2 (T 6 i))) (hl : mj_I (m 93 (8 * b + i)) = nI (S.1 3 i)) (hh : mj_I (m 100 b) = nI (S.1 0 0)) (bb : S.1 0 0 < 2 ^ 31 ∧ S.1 3 i < 2 ^ 31 ∧ S.1 5 (T 6 i) ≤ 1 ∧ S.1 2 (T 6 i) < 2 ^ 31) (hbt : 0 < beat) : md_isOn (nI b) (nI i) m = some (if sOn T S beat i = true then 1 else 0) := by
  have hnw := hw.nw
  have hnp := hw.np
  have ho := hw.owner i hi
  have hbg := hw.begins i hi
  have c6 : i < cntT T 6 := hi
  have r6 : mj_I (m 78 i) = nI (T 6 i) := hT.row 6 i (by decide) (by decide) (by decide) c6
  have o1 : (nI i < 0) = False := eq_false (nI_pos (by omega))
  have o1' : (16 ≤ i) = False := eq_false (by omega)
  have o2 : (nI i).toNatClampNeg = i := nI_clamp (by omega)
  have p1 : (nI b < 0) = False := eq_false (nI_pos (by omega))
  have p1' : (2 ≤ b) = False := eq_false (by omega)
  have p2 : (nI b).toNatClampNeg = b := nI_clamp (by omega)
  have q1 : (nI (8 * b + i) < 0) = False := eq_false (nI_pos (by omega))
  have q1' : (16 ≤ 8 * b + i) = False := eq_false (by omega)
  have q2 : (nI (8 * b + i)).toNatClampNeg = 8 * b + i := nI_clamp (by omega)
  have w1 : (nI (6 * b + T 6 i) < 0) = False := eq_false (nI_pos (by omega))
  have w1' : (12 ≤ 6 * b + T 6 i) = False := eq_false (by omega)
  have w2 : (nI (6 * b + T 6 i)).toNatClampNeg = 6 * b + T 6 i := nI_clamp (by omega)
  have e33 : md_isOn_j33 (nI b) (nI i) (nI (6 * b + T 6 i)) (nI (T 9 i)) m = some (if sOn T S beat i = true then 1 else 0) := by
    unfold md_isOn_j33
    simp only [ix8, p1, p1', p2, q1, q1', q2, w1, w1', w2, or_self, if_false]
    rw [hh, hl, ho5, ho2]
    have d1 : nI (S.1 0 0) < nI (T 9 i) ↔ S.1 0 0 < T 9 i := nI_ltI (by omega) (by omega)
    have d2 : nI (S.1 3 i) ≤ 0 ↔ S.1 3 i = 0 := by
      rw [show (0 : Int32) = nI 0 from rfl, nI_leI (by omega) (by decide)]; omega
    have d3 : nI (S.1 5 (T 6 i)) = 0 ↔ S.1 5 (T 6 i) = 0 := nI_eq (b := 0) (by omega) (by decide)
    have d4 : nI (S.1 2 (T 6 i)) = 0 ↔ S.1 2 (T 6 i) = 0 := nI_eq (b := 0) (by omega) (by decide)
    simp only [d1, d2, d3, d4]
    unfold sOn
    simp only [decide_eq_true_eq]
    by_cases x1 : S.1 0 0 < T 9 i
    · rw [if_pos x1, if_neg (by omega)]
    · rw [if_neg x1]
      by_cases x2 : S.1 3 i = 0
      · rw [if_pos x2, if_neg (by omega)]
      · rw [if_neg x2]
        by_cases x3 : S.1 5 (T 6 i) = 0
        · rw [if_pos x3, if_neg (by omega)]
        · rw [if_neg x3]
          by_cases x4 : S.1 2 (T 6 i) = 0
          · rw [if_pos x4, if_pos (by omega)]
          · rw [if_neg x4, if_neg (by omega)]
  unfold md_isOn
  simp only [o1, o1', o2, or_self, if_false, r6, ix6]
  have hh9 := hO i hi
  by_cases c : nI i = mj_I (m 68 67)
  · rw [if_pos c] at hh9
    rw [if_pos c, hh9, e33]
  · rw [if_neg c] at hh9
    rw [if_neg c, hh9, e33]
