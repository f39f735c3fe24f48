/-! AN HOUR, ON THE REFERENCE'S SIDE: names, works (own work) -/
def lay7 (m : mj_M) (b f a l r c h : Nat) : mj_M := mj_up (mj_up (mj_up (mj_up (mj_up (mj_up (mj_up m 91 0 (.long (lN b))) 91 1 (.long (lN f))) 91 2 (.long (lN a))) 91 3 (.long (lN l))) 91 4 (.long (lN r))) 91 5 (.long (lN c))) 91 6 (.long (lN h))
theorem lay7_fr {m : mj_M} {b f a l r c h k : Nat} (hk : k ≠ 91) : lay7 m b f a l r c h k = m k := by
  unfold lay7
  rw [fr_up hk, fr_up hk, fr_up hk, fr_up hk, fr_up hk, fr_up hk, fr_up hk]
theorem lay7_nm {m : mj_M} {b f a l r c h : Nat} : ∀ j, j < 7 → mj_J (lay7 m b f a l r c h 91 j) = sNm b f a l r c h j := by
  intro j hj
  rcases (show j = 0 ∨ j = 1 ∨ j = 2 ∨ j = 3 ∨ j = 4 ∨ j = 5 ∨ j = 6 by omega) with rfl | rfl | rfl | rfl | rfl | rfl | rfl <;> rfl
theorem lay_e {b be f a l r c h : Nat} {p w : Int32} {m : mj_M} (hb : b < 2) (hp : (∃ o, p = nI o ∧ o < 12 ∧ mj_I (m 74 o) = nI f ∧ mj_I (m 75 o) = nI a) ∨ (p = -1 ∧ f = 0 ∧ a = 0)) (hw : (∃ i, w = nI i ∧ i < 8 ∧ mj_I (m 93 (8 * b + i)) = nI l ∧ mj_I (m 80 i) = nI r) ∨ (w = -1 ∧ l = 0 ∧ r = 0)) (hc : mj_I (m 98 b) = nI c) (hh : mj_I (m 100 b) = nI h) (bb : be < 2 ^ 31 ∧ f < 2 ^ 31 ∧ a < 2 ^ 31 ∧ l < 2 ^ 31 ∧ r < 2 ^ 31 ∧ c < 2 ^ 31 ∧ h < 2 ^ 31) : md_layNames (nI b) (nI be) p w m = some (lay7 m be f a l r c h) := by
  obtain ⟨b1, b2, b3, b4, b5, b6, b7⟩ := bb
  have p1 : (nI b < 0) = False := eq_false (nI_pos (by omega))
  have p1' : (2 ≤ b) = False := eq_false (by omega)
  have p2 : (nI b).toNatClampNeg = b := nI_clamp (by omega)
  have t0 : ((0 : Int32)).toNatClampNeg = 0 := rfl
  have t1 : ((1 : Int32)).toNatClampNeg = 1 := rfl
  have t2 : ((2 : Int32)).toNatClampNeg = 2 := rfl
  have t3 : ((3 : Int32)).toNatClampNeg = 3 := rfl
  have t4 : ((4 : Int32)).toNatClampNeg = 4 := rfl
  have t5 : ((5 : Int32)).toNatClampNeg = 5 := rfl
  have t6 : ((6 : Int32)).toNatClampNeg = 6 := rfl
  have l1 : ((1 : Int32) < 0) = False := eq_false (by decide)
  have l2 : ((2 : Int32) < 0) = False := eq_false (by decide)
  have l3 : ((3 : Int32) < 0) = False := eq_false (by decide)
  have l4 : ((4 : Int32) < 0) = False := eq_false (by decide)
  have g1 : (7 ≤ 1) = False := eq_false (by decide)
  have g2 : (7 ≤ 2) = False := eq_false (by decide)
  have g3 : (7 ≤ 3) = False := eq_false (by decide)
  have g4 : (7 ≤ 4) = False := eq_false (by decide)
  have z0 : ((0 : Int64)) = lN 0 := rfl
  have neg : ((0 : Int32) ≤ -1) = False := eq_false (by decide)
  have up : ∀ (m : mj_M) i v k j, k ≠ 91 → mj_up m 91 i v k j = m k j := fun m i v k j hk => na_upN (fun z => hk z.1)
  have u74 : ∀ (m : mj_M) i v j, mj_up m 91 i v 74 j = m 74 j := fun m i v j => up m i v 74 j (by decide)
  have u75 : ∀ (m : mj_M) i v j, mj_up m 91 i v 75 j = m 75 j := fun m i v j => up m i v 75 j (by decide)
  have u80 : ∀ (m : mj_M) i v j, mj_up m 91 i v 80 j = m 80 j := fun m i v j => up m i v 80 j (by decide)
  have u93 : ∀ (m : mj_M) i v j, mj_up m 91 i v 93 j = m 93 j := fun m i v j => up m i v 93 j (by decide)
  have u98 : ∀ (m : mj_M) i v j, mj_up m 91 i v 98 j = m 98 j := fun m i v j => up m i v 98 j (by decide)
  have u100 : ∀ (m : mj_M) i v j, mj_up m 91 i v 100 j = m 100 j := fun m i v j => up m i v 100 j (by decide)
  have d0 : (nI be).toInt64 = lN be := nI_l b1
  unfold md_layNames md_layNames_j28 md_layNames_j49 md_layNames_j77 md_layNames_j100 lay7
  rcases hp with ⟨o, rfl, ho, hf, ha⟩ | ⟨rfl, rfl, rfl⟩
  · have q1 : (0 ≤ nI o) = True := eq_true (nI_pos' (by omega))
    have q1' : (nI o < 0) = False := eq_false (nI_pos (by omega))
    have q2 : (12 ≤ o) = False := eq_false (by omega)
    have q3 : (nI o).toNatClampNeg = o := nI_clamp (by omega)
    rcases hw with ⟨i, rfl, hi, hl, hr⟩ | ⟨rfl, rfl, rfl⟩
    · have w1 : (0 ≤ nI i) = True := eq_true (nI_pos' (by omega))
      have w1' : (nI i < 0) = False := eq_false (nI_pos (by omega))
      have w2 : (16 ≤ i) = False := eq_false (by omega)
      have w3 : (nI i).toNatClampNeg = i := nI_clamp (by omega)
      have x1 : (nI (8 * b + i) < 0) = False := eq_false (nI_pos (by omega))
      have x2 : (16 ≤ 8 * b + i) = False := eq_false (by omega)
      have x3 : (nI (8 * b + i)).toNatClampNeg = 8 * b + i := nI_clamp (by omega)
      simp only [p1, p1', p2, t0, t1, t2, t3, t4, t5, t6, l1, l2, l3, l4, g1, g2, g3, g4, u74, u75, u80, u93, u98, u100, q1, q1', q2, q3, w1, w1', w2, w3, ix8, x1, x2, x3, or_self, if_false, if_true, hf, ha, hl, hr, hc, hh, nI_l b2, nI_l b3, nI_l b4, nI_l b5, nI_l b6, nI_l b7, d0]
    · simp only [p1, p1', p2, t0, t1, t2, t3, t4, t5, t6, l1, l2, l3, l4, g1, g2, g3, g4, u74, u75, u80, u93, u98, u100, q1, q1', q2, q3, neg, or_self, if_false, if_true, hf, ha, hc, hh, nI_l b2, nI_l b3, nI_l b6, nI_l b7, d0, z0]
  · rcases hw with ⟨i, rfl, hi, hl, hr⟩ | ⟨rfl, rfl, rfl⟩
    · have w1 : (0 ≤ nI i) = True := eq_true (nI_pos' (by omega))
      have w1' : (nI i < 0) = False := eq_false (nI_pos (by omega))
      have w2 : (16 ≤ i) = False := eq_false (by omega)
      have w3 : (nI i).toNatClampNeg = i := nI_clamp (by omega)
      have x1 : (nI (8 * b + i) < 0) = False := eq_false (nI_pos (by omega))
      have x2 : (16 ≤ 8 * b + i) = False := eq_false (by omega)
      have x3 : (nI (8 * b + i)).toNatClampNeg = 8 * b + i := nI_clamp (by omega)
      simp only [p1, p1', p2, t0, t1, t2, t3, t4, t5, t6, l1, l2, l3, l4, g1, g2, g3, g4, u74, u75, u80, u93, u98, u100, neg, w1, w1', w2, w3, ix8, x1, x2, x3, or_self, if_false, if_true, hl, hr, hc, hh, nI_l b4, nI_l b5, nI_l b6, nI_l b7, d0, z0]
    · simp only [p1, p1', p2, t0, t1, t2, t3, t4, t5, t6, l1, l2, l3, l4, g1, g2, g3, g4, u74, u75, u80, u93, u98, u100, neg, or_self, if_false, if_true, hc, hh, nI_l b6, nI_l b7, d0, z0]
/-- a law that is asked behind its names -/
theorem asked_e {l b f a lf r c h wo low most : Nat} {T : zT} {m : mj_M} (hw : WT T) (hL : WL T) (hR : LR m T) (hl : l < 3) (bb : b < 2 ^ 31 ∧ f < 2 ^ 31 ∧ a < 2 ^ 31 ∧ lf < 2 ^ 31 ∧ r < 2 ^ 31 ∧ c < 2 ^ 31 ∧ h < 2 ^ 31) (hm : low ≤ most ∧ most < 1000) : ∃ m1, md_boundLaw (nI l) (nI wo) (nI low) (nI most) (lay7 m b f a lf r c h) = some (nI (sBl T l (sNm b f a lf r c h) wo low most), m1) ∧ ∀ x j, x ≠ 91 → x ≠ 92 → ¬ (x = 68 ∧ j = 50) → m1 x j = m x j := by
  obtain ⟨m1, e1, f1⟩ := md_boundLaw_e (m := lay7 m b f a lf r c h) (wo := wo) hw hL (hR.cong (fun k _ _ => lay7_fr (by omega))) hl lay7_nm (inM_nm bb) hm
  exact ⟨m1, e1, fun x j h1 h2 h3 => by rw [f1 x j h3 h2, lay7_fr h1]⟩
theorem md_slipsBy_e {b i be H : Nat} {T : zT} {S : zS} {m : mj_M} (hb : b < 2) (hT : TR m T) (hR : LR m T) (hw : WT T) (hL : WL T) (hW : WS T H S) (hH : H ≤ 20000) (hbe : be ≤ 199) (hi : i < T 0 5) (hl : mj_I (m 93 (8 * b + i)) = nI (S.1 3 i)) (hc : mj_I (m 98 b) = nI (S.1 0 1)) (hh : mj_I (m 100 b) = nI (S.1 0 0)) : ∃ m1, md_slipsBy (nI b) (nI be) (nI i) m = some (nI (sSlip T S be i), m1) ∧ ∀ x j, x ≠ 91 → x ≠ 92 → ¬ (x = 68 ∧ j = 50) → m1 x j = m x j := by
  have hnw := hw.nw
  have hnp := hw.np
  have ho := hw.owner i hi
  have hfa := hw.fast _ ho
  have hag := hw.aged _ ho
  have hba := hw.bar i hi
  have hle := hW.left i hi
  have hco := hW.coil
  have hho := hW.hour
  have r6 : mj_I (m 78 i) = nI (T 6 i) := hT.row 6 i (by decide) (by decide) (by decide) hi
  have r2 : mj_I (m 74 (T 6 i)) = nI (T 2 (T 6 i)) := hT.row 2 _ (by decide) (by decide) (by decide) ho
  have r3 : mj_I (m 75 (T 6 i)) = nI (T 3 (T 6 i)) := hT.row 3 _ (by decide) (by decide) (by decide) ho
  have r8 : mj_I (m 80 i) = nI (T 8 i) := hT.row 8 i (by decide) (by decide) (by decide) hi
  have o1 : (nI i < 0) = False := eq_false (nI_pos (by omega))
  have o1' : (16 ≤ i) = False := eq_false (by omega)
  have o2 : (nI i).toNatClampNeg = i := nI_clamp (by omega)
  have q1 : (nI (T 6 i) < 0) = False := eq_false (nI_pos (by omega))
  have q1' : (12 ≤ T 6 i) = False := eq_false (by omega)
  have q2 : (nI (T 6 i)).toNatClampNeg = T 6 i := nI_clamp (by omega)
  have bb : be < 2 ^ 31 ∧ T 2 (T 6 i) < 2 ^ 31 ∧ T 3 (T 6 i) < 2 ^ 31 ∧ S.1 3 i < 2 ^ 31 ∧ T 8 i < 2 ^ 31 ∧ S.1 0 1 < 2 ^ 31 ∧ S.1 0 0 < 2 ^ 31 := by omega
  have e1 := lay_e (p := nI (T 6 i)) (w := nI i) hb (Or.inl ⟨_, rfl, by omega, r2, r3⟩) (Or.inl ⟨_, rfl, by omega, hl, r8⟩) hc hh bb
  obtain ⟨m1, e2, f2⟩ := asked_e (l := 0) (wo := (be - T 2 (T 6 i)) / 10) (low := 0) (most := 99) (m := m) hw hL hR (by decide) bb (by omega)
  have e2 : md_boundLaw 0 (nI ((be - T 2 (T 6 i)) / 10)) 0 99 (lay7 m be (T 2 (T 6 i)) (T 3 (T 6 i)) (S.1 3 i) (T 8 i) (S.1 0 1) (S.1 0 0)) = some (nI (sSlip T S be i), m1) := e2
  unfold md_slipsBy md_slipsBy_j46
  simp only [o1, o1', o2, or_self, if_false, r6]
  rw [e1, Option.bind_some]
  simp only [q1, q1', q2, or_self, if_false]
  have k74 : mj_I (lay7 m be (T 2 (T 6 i)) (T 3 (T 6 i)) (S.1 3 i) (T 8 i) (S.1 0 1) (S.1 0 0) 74 (T 6 i)) = nI (T 2 (T 6 i)) := by rw [lay7_fr (by decide)]; exact r2
  rw [k74]
  have d1 : nI be ≤ nI (T 2 (T 6 i)) ↔ be ≤ T 2 (T 6 i) := nI_leI (by omega) (by omega)
  simp only [d1]
  refine ⟨m1, ?_, f2⟩
  by_cases c : be ≤ T 2 (T 6 i)
  · have z : (be - T 2 (T 6 i)) / 10 = 0 := by
      have : be - T 2 (T 6 i) = 0 := by omega
      rw [this]
    rw [z] at e2
    have e2 : md_boundLaw 0 0 0 99 _ = some _ := e2
    rw [if_pos c, e2]
    rfl
  · rw [if_neg c, pk_sub (by omega), show (10 : Int32) = nI 10 from rfl, pk_div (by omega) (by decide) (by decide), e2]
    rfl
theorem md_works1_e {b i be H : Nat} {T : zT} {S : zS} {m : mj_M} (hb : b < 2) (hT : TR m T) (hR : LR m T) (hw : WT T) (hL : WL T) (hW : WS T H S) (hH : H ≤ 20000) (hbe : be ≤ 199) (hi : i < T 0 5) (hS : SR T b m (sWk T S be i).1) (h61 : mj_I (m 68 61) = nI (sWk T S be i).2.2) (h62 : mj_I (m 68 62) = nI (sWk T S be i).2.1) : ∃ m1, md_works1 (nI b) (nI be) (nI i) m = some m1 ∧ frR b m m1 ∧ m1 68 60 = m 68 60 ∧ SR T b m1 (sWk1 T S be i (sWk T S be i)).1 ∧ mj_I (m1 68 61) = nI (sWk1 T S be i (sWk T S be i)).2.2 ∧ mj_I (m1 68 62) = nI (sWk1 T S be i (sWk T S be i)).2.1 := by
  have hnw := hw.nw
  have hnp := hw.np
  have ho := hw.owner i hi
  have hle := hW.left i hi
  have hho := hW.hour
  have hbits := sWk_bits (S := S) (beat := be) hw i (by omega)
  have e3 : (sWk T S be i).1.1 3 i = S.1 3 i := by rw [sWk_left, if_neg (fun z => absurd z.1 (Nat.lt_irrefl i))]
  have hl : mj_I (m 93 (8 * b + i)) = nI (S.1 3 i) := by rw [hS.left i hi, e3]
  have hc : mj_I (m 98 b) = nI (S.1 0 1) := by rw [hS.coil, sWk_row (by decide)]
  have hh : mj_I (m 100 b) = nI (S.1 0 0) := by rw [hS.hour, sWk_row (by decide)]
  have hsl := sSlip_le (T := T) (S := S) (w := i) hbe
  obtain ⟨m2, e2, f2⟩ := md_slipsBy_e hb hT hR hw hL hW hH hbe hi hl hc hh
  have r6 : mj_I (m 78 i) = nI (T 6 i) := hT.row 6 i (by decide) (by decide) (by decide) hi
  have g : ∀ x j, x ≠ 91 → x ≠ 92 → x ≠ 68 → m2 x j = m x j := fun x j h1 h2 h3 => f2 x j h1 h2 (fun z => h3 z.1)
  have o1 : (nI i < 0) = False := eq_false (nI_pos (by omega))
  have o1' : (16 ≤ i) = False := eq_false (by omega)
  have o2 : (nI i).toNatClampNeg = i := nI_clamp (by omega)
  have p1 : (nI b < 0) = False := eq_false (nI_pos (by omega))
  have p1' : (2 ≤ b) = False := eq_false (by omega)
  have p2 : (nI b).toNatClampNeg = b := nI_clamp (by omega)
  have x1 : (nI (8 * b + i) < 0) = False := eq_false (nI_pos (by omega))
  have x1' : (16 ≤ 8 * b + i) = False := eq_false (by omega)
  have x2 : (nI (8 * b + i)).toNatClampNeg = 8 * b + i := nI_clamp (by omega)
  have w1 : (nI (6 * b + T 6 i) < 0) = False := eq_false (nI_pos (by omega))
  have w1' : (12 ≤ 6 * b + T 6 i) = False := eq_false (by omega)
  have w2 : (nI (6 * b + T 6 i)).toNatClampNeg = 6 * b + T 6 i := nI_clamp (by omega)
  unfold md_works1
  simp only [o1, o1', o2, or_self, if_false, r6]
  rw [e2, Option.bind_some]
  simp only [ix8, x1, x1', x2, or_self, if_false]
  have k93 : mj_I (m2 93 (8 * b + i)) = nI (S.1 3 i) := by rw [g _ _ (by decide) (by decide) (by decide)]; exact hl
  rw [k93]
  have d1 : nI (S.1 3 i) ≤ nI be ↔ S.1 3 i ≤ be := nI_leI (by omega) (by omega)
  simp only [d1]
  have eq : (if S.1 3 i ≤ be then md_works1_j55 (nI b) (nI (T 6 i)) (nI (sSlip T S be i)) (nI (8 * b + i)) (nI (8 * b + i)) 0 m2 else md_works1_j55 (nI b) (nI (T 6 i)) (nI (sSlip T S be i)) (nI (8 * b + i)) (nI (8 * b + i)) (nI (S.1 3 i) - nI be) m2) = md_works1_j55 (nI b) (nI (T 6 i)) (nI (sSlip T S be i)) (nI (8 * b + i)) (nI (8 * b + i)) (nI (S.1 3 i - be)) m2 := by
    by_cases c : S.1 3 i ≤ be
    · have z : S.1 3 i - be = 0 := by omega
      rw [if_pos c, z]
      rfl
    · rw [if_neg c, pk_sub (by omega)]
  rw [eq]
  unfold md_works1_j55 md_works1_j79
  simp only [x1, x1', x2, p1, p1', p2, ix6, w1, w1', w2, or_self, if_false, na_upS]
  have d2 : mj_I (.int (nI (S.1 3 i - be))) = 0 ↔ S.1 3 i - be = 0 := nI_eq (b := 0) (by omega) (by decide)
  have d3 : nI (sSlip T S be i) ≤ 0 ↔ sSlip T S be i = 0 := by
    rw [show (0 : Int32) = nI 0 from rfl, nI_leI (by omega) (by decide)]; omega
  simp only [d2, d3]
  have v95 : mj_I (m2 95 (6 * b + T 6 i)) = (sWk T S be i).1.2 1 (T 6 i) := by rw [g _ _ (by decide) (by decide) (by decide)]; exact hS.slips _ ho
  have v100 : mj_I (m2 100 b) = nI (S.1 0 0) := by rw [g _ _ (by decide) (by decide) (by decide)]; exact hh
  have v61 : mj_I (m2 68 61) = nI (sWk T S be i).2.2 := by rw [f2 _ _ (by decide) (by decide) (by omega)]; exact h61
  have v62 : mj_I (m2 68 62) = nI (sWk T S be i).2.1 := by rw [f2 _ _ (by decide) (by decide) (by omega)]; exact h62
  have set0 : ∀ x : Nat, nI x ||| (0 : Int32) = nI x := fun x => by rw [show (0 : Int32) = nI 0 from rfl, na_or, Nat.or_zero]
  -- the state behind: M is what was written of the work
  have fin : ∀ M : mj_M, (∀ x j, x ≠ 93 → x ≠ 94 → M x j = m2 x j) → (∀ j, M 93 j = if j = 8 * b + i then .int (nI (S.1 3 i - be)) else m2 93 j) → (∀ j, M 94 j = if S.1 3 i - be = 0 ∧ j = 8 * b + i then .int (nI (S.1 0 0)) else m2 94 j) → ∃ m1, (if sSlip T S be i = 0 then some (mj_up (mj_up (mj_up M 95 (6 * b + T 6 i) (.int (mj_I (M 95 (6 * b + T 6 i)) + nI (sSlip T S be i)))) 68 61 (.int (mj_I (M 68 61) ||| (1 : Int32) <<< (nI (T 6 i) &&& 31)))) 68 62 (.int (mj_I (M 68 62) ||| 0))) else some (mj_up (mj_up (mj_up M 95 (6 * b + T 6 i) (.int (mj_I (M 95 (6 * b + T 6 i)) + nI (sSlip T S be i)))) 68 61 (.int (mj_I (M 68 61) ||| (1 : Int32) <<< (nI (T 6 i) &&& 31)))) 68 62 (.int (mj_I (M 68 62) ||| (1 : Int32) <<< (nI (T 6 i) &&& 31))))) = some m1 ∧ frR b m m1 ∧ m1 68 60 = m 68 60 ∧ SR T b m1 (sWk1 T S be i (sWk T S be i)).1 ∧ mj_I (m1 68 61) = nI (sWk1 T S be i (sWk T S be i)).2.2 ∧ mj_I (m1 68 62) = nI (sWk1 T S be i (sWk T S be i)).2.1 := by
    intro M hM1 hM2 hM3
    rw [hM1 95 _ (by decide) (by decide), hM1 68 _ (by decide) (by decide), hM1 68 _ (by decide) (by decide), v95, v61, v62, na_set (by omega), na_set (by omega), set0]
    have one : ∀ v, (if sSlip T S be i = 0 then some (mj_up (mj_up (mj_up M 95 (6 * b + T 6 i) v) 68 61 (.int (nI ((sWk T S be i).2.2 ||| 2 ^ T 6 i)))) 68 62 (.int (nI (sWk T S be i).2.1))) else some (mj_up (mj_up (mj_up M 95 (6 * b + T 6 i) v) 68 61 (.int (nI ((sWk T S be i).2.2 ||| 2 ^ T 6 i)))) 68 62 (.int (nI ((sWk T S be i).2.1 ||| 2 ^ T 6 i))))) = some (mj_up (mj_up (mj_up M 95 (6 * b + T 6 i) v) 68 61 (.int (nI ((sWk T S be i).2.2 ||| 2 ^ T 6 i)))) 68 62 (.int (nI (if 0 < sSlip T S be i then (sWk T S be i).2.1 ||| 2 ^ T 6 i else (sWk T S be i).2.1)))) := by
      intro v
      by_cases c : sSlip T S be i = 0
      · rw [if_pos c, if_neg (by omega)]
      · rw [if_neg c, if_pos (by omega)]
    rw [one]
    have ne : ∀ x j, x ≠ 95 → x ≠ 68 → mj_up (mj_up (mj_up M 95 (6 * b + T 6 i) (.int ((sWk T S be i).1.2 1 (T 6 i) + nI (sSlip T S be i)))) 68 61 (.int (nI ((sWk T S be i).2.2 ||| 2 ^ T 6 i)))) 68 62 (.int (nI (if 0 < sSlip T S be i then (sWk T S be i).2.1 ||| 2 ^ T 6 i else (sWk T S be i).2.1))) x j = M x j := fun x j h1 h2 => by rw [na_upN (fun z => h2 z.1), na_upN (fun z => h2 z.1), na_upN (fun z => h1 z.1)]
    have same : ∀ x j, x ≠ 95 → x ≠ 68 → x ≠ 93 → x ≠ 94 → x ≠ 91 → x ≠ 92 → mj_up (mj_up (mj_up M 95 (6 * b + T 6 i) (.int ((sWk T S be i).1.2 1 (T 6 i) + nI (sSlip T S be i)))) 68 61 (.int (nI ((sWk T S be i).2.2 ||| 2 ^ T 6 i)))) 68 62 (.int (nI (if 0 < sSlip T S be i then (sWk T S be i).2.1 ||| 2 ^ T 6 i else (sWk T S be i).2.1))) x j = m x j := fun x j h1 h2 h3 h4 h5 h6 => by rw [ne x j h1 h2, hM1 x j h3 h4, g x j h5 h6 h2]
    have u1 : ∀ a b, a ≠ 3 → (sWk1 T S be i (sWk T S be i)).1.1 a b = (sWk T S be i).1.1 a b := fun a b h => u2_r h
    refine ⟨_, rfl, ?_, ?_, ⟨?_, ?_, ?_, ?_, ?_, ?_, ?_, ?_⟩, ?_, ?_⟩
    · intro x j h
      by_cases x68 : x = 68
      · subst x68
        rw [na_upN (by unfold okc at h; omega), na_upN (by unfold okc at h; omega), na_upN (by omega), hM1 _ _ (by decide) (by decide), f2 _ _ (by decide) (by decide) (by unfold okc at h; omega)]
      · by_cases x95 : x = 95
        · subst x95
          rw [na_upN (by omega), na_upN (by omega), na_upN (by unfold okc at h; omega), hM1 _ _ (by decide) (by decide), g _ _ (by decide) (by decide) (by decide)]
        · rw [ne x j x95 x68]
          by_cases x93 : x = 93
          · subst x93
            rw [hM2, if_neg (by unfold okc at h; omega), g _ _ (by decide) (by decide) (by decide)]
          · by_cases x94 : x = 94
            · subst x94
              rw [hM3, if_neg (by unfold okc at h; omega), g _ _ (by decide) (by decide) (by decide)]
            · rw [hM1 x j x93 x94, g x j (by unfold okc at h; omega) (by unfold okc at h; omega) x68]
    · rw [na_upN (by omega), na_upN (by omega), na_upN (by omega), hM1 _ _ (by decide) (by decide), f2 _ _ (by decide) (by decide) (by omega)]
    · rw [same _ _ (by decide) (by decide) (by decide) (by decide) (by decide) (by decide), u1 _ _ (by decide)]; exact hS.hour
    · rw [same _ _ (by decide) (by decide) (by decide) (by decide) (by decide) (by decide), u1 _ _ (by decide)]; exact hS.coil
    · rw [same _ _ (by decide) (by decide) (by decide) (by decide) (by decide) (by decide)]
      have : (sWk1 T S be i (sWk T S be i)).1.2 0 2 = (sWk T S be i).1.2 0 2 := by
        show (if _ then u2 (u2 (sWk T S be i).1.2 1 _ _) 4 i _ else u2 (sWk T S be i).1.2 1 _ _) 0 2 = _
        split
        · rw [u2_r (by decide), u2_r (by decide)]
        · rw [u2_r (by decide)]
      rw [this]; exact hS.shift
    · intro p hp; rw [same _ _ (by decide) (by decide) (by decide) (by decide) (by decide) (by decide), u1 _ _ (by decide)]; exact hS.here p hp
    · intro p hp
      have e : (sWk1 T S be i (sWk T S be i)).1.2 1 p = if p = T 6 i then (sWk T S be i).1.2 1 (T 6 i) + nI (sSlip T S be i) else (sWk T S be i).1.2 1 p := by
        show (if _ then u2 (u2 (sWk T S be i).1.2 1 _ _) 4 i _ else u2 (sWk T S be i).1.2 1 _ _) 1 p = _
        have e2 : u2 (sWk T S be i).1.2 1 (T 6 i) ((sWk T S be i).1.2 1 (T 6 i) + nI (sSlip T S be i)) 1 p = if p = T 6 i then (sWk T S be i).1.2 1 (T 6 i) + nI (sSlip T S be i) else (sWk T S be i).1.2 1 p := by
          by_cases c : p = T 6 i
          · rw [if_pos c, c, u2_s]
          · rw [if_neg c, u2_n (fun z => c z.2)]
        split
        · rw [u2_r (by decide), e2]
        · exact e2
      rw [e, na_upN (by omega), na_upN (by omega)]
      by_cases c : p = T 6 i
      · rw [if_pos c, c, na_upS]; rfl
      · rw [if_neg c, na_upN (by omega), hM1 _ _ (by decide) (by decide), g _ _ (by decide) (by decide) (by decide)]
        exact hS.slips p hp
    · intro p hp; rw [same _ _ (by decide) (by decide) (by decide) (by decide) (by decide) (by decide), u1 _ _ (by decide)]; exact hS.hic p hp
    · intro w hww
      rw [ne _ _ (by decide) (by decide), hM2]
      show _ = nI (u2 (sWk T S be i).1.1 3 i (S.1 3 i - be) 3 w)
      by_cases c : w = i
      · rw [if_pos (by omega), c, u2_s]; rfl
      · rw [if_neg (by omega), u2_n (fun z => c z.2), g _ _ (by decide) (by decide) (by decide)]
        exact hS.left w hww
    · intro w hww
      rw [ne _ _ (by decide) (by decide), hM3]
      have e : (sWk1 T S be i (sWk T S be i)).1.2 4 w = if S.1 3 i - be = 0 ∧ w = i then nI (S.1 0 0) else (sWk T S be i).1.2 4 w := by
        show (if S.1 3 i - be = 0 then u2 (u2 (sWk T S be i).1.2 1 _ _) 4 i _ else u2 (sWk T S be i).1.2 1 _ _) 4 w = _
        by_cases cc : S.1 3 i - be = 0
        · rw [if_pos cc]
          by_cases c : w = i
          · rw [if_pos ⟨cc, c⟩, c, u2_s]
          · rw [if_neg (fun z => c z.2), u2_n (fun z => c z.2), u2_r (by decide)]
        · rw [if_neg cc, if_neg (fun z => cc z.1), u2_r (by decide)]
      rw [e]
      by_cases c : S.1 3 i - be = 0 ∧ w = i
      · rw [if_pos c, if_pos (by omega)]; rfl
      · rw [if_neg c, if_neg (by omega), g _ _ (by decide) (by decide) (by decide)]
        exact hS.done w hww
    · rw [na_upN (by omega), na_upS]; rfl
    · rw [na_upS]; rfl
  by_cases cc : S.1 3 i - be = 0
  · simp only [if_pos cc]
    rw [v100]
    refine fin _ (fun x j h1 h2 => by rw [na_upN (fun z => h2 z.1), na_upN (fun z => h1 z.1)]) (fun j => ?_) (fun j => ?_)
    · rw [na_upN (by omega)]
      by_cases c : j = 8 * b + i
      · rw [if_pos c, c, na_upS]
      · rw [if_neg c, na_upN (fun z => c z.2)]
    · by_cases c : j = 8 * b + i
      · rw [if_pos ⟨cc, c⟩, c, na_upS]
      · rw [if_neg (fun z => c z.2), na_upN (fun z => c z.2), na_upN (by omega)]
  · simp only [if_neg cc]
    refine fin _ (fun x j h1 h2 => by rw [na_upN (fun z => h1 z.1)]) (fun j => ?_) (fun j => ?_)
    · by_cases c : j = 8 * b + i
      · rw [if_pos c, c, na_upS]
      · rw [if_neg c, na_upN (fun z => c z.2)]
    · rw [if_neg (fun z => cc z.1), na_upN (by omega)]
