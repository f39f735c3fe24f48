/-! AN HOUR, ON THE REFERENCE'S SIDE: hiccups (own work) -/
/-- HICCUPS behind i of those who give, the last of them behind j of those who get -/
def spH (T : zT) (S : zS) (be i : Nat) (g : Nat → Bool) (q : Nat) : Nat := if S.1 2 q = 0 then (if S.1 5 q = 1 ∧ g q = true then sHush T S be q else 0) else if q < i then S.1 2 q - 1 else S.1 2 q
theorem md_hushOf_e {b q be H : Nat} {T : zT} {S : zS} {m : mj_M} (hb : b < 2) (hT : TR m T) (hR : LR m T) (hw : WT T) (hL : WL T) (hW : WS T H S) (hH : H ≤ 20000) (hbe : be ≤ 199) (hq : q < T 0 0) (hc : mj_I (m 98 b) = nI (S.1 0 1)) (hh : mj_I (m 100 b) = nI (S.1 0 0)) : ∃ m1, md_hushOf (nI b) (nI be) (nI q) m = some (nI (sHush T S be q), m1) ∧ ∀ x j, x ≠ 91 → x ≠ 92 → ¬ (x = 68 ∧ j = 50) → m1 x j = m x j := by
  have hnp := hw.np
  have hfa := hw.fast _ hq
  have hag := hw.aged _ hq
  have hco := hW.coil
  have hho := hW.hour
  have r2 : mj_I (m 74 q) = nI (T 2 q) := hT.row 2 _ (by decide) (by decide) (by decide) hq
  have r3 : mj_I (m 75 q) = nI (T 3 q) := hT.row 3 _ (by decide) (by decide) (by decide) hq
  have q1 : (nI q < 0) = False := eq_false (nI_pos (by omega))
  have q1' : (12 ≤ q) = False := eq_false (by omega)
  have q2 : (nI q).toNatClampNeg = q := nI_clamp (by omega)
  have bb : be < 2 ^ 31 ∧ T 2 q < 2 ^ 31 ∧ T 3 q < 2 ^ 31 ∧ 0 < 2 ^ 31 ∧ 0 < 2 ^ 31 ∧ S.1 0 1 < 2 ^ 31 ∧ S.1 0 0 < 2 ^ 31 := by omega
  have e1 := lay_e (p := nI q) (w := -1) (l := 0) (r := 0) hb (Or.inl ⟨_, rfl, by omega, r2, r3⟩) (Or.inr ⟨rfl, rfl, rfl⟩) hc hh bb
  obtain ⟨m1, e2, f2⟩ := asked_e (l := 2) (wo := 1 + T 3 q / 20) (low := 1) (most := 9) (m := m) hw hL hR (by decide) bb (by omega)
  have e2 : md_boundLaw 2 (nI (1 + T 3 q / 20)) 1 9 (lay7 m be (T 2 q) (T 3 q) 0 0 (S.1 0 1) (S.1 0 0)) = some (nI (sHush T S be q), m1) := e2
  have k75 : mj_I (lay7 m be (T 2 q) (T 3 q) 0 0 (S.1 0 1) (S.1 0 0) 75 q) = nI (T 3 q) := by rw [lay7_fr (by decide)]; exact r3
  have ew : (1 : Int32) + nI (T 3 q) / 20 = nI (1 + T 3 q / 20) := by
    rw [show (20 : Int32) = nI 20 from rfl, pk_div (by omega) (by decide) (by decide), show (1 : Int32) = nI 1 from rfl, nI_add]
  unfold md_hushOf
  rw [e1, Option.bind_some]
  simp only [q1, q1', q2, or_self, if_false]
  rw [k75, ew, e2]
  exact ⟨m1, rfl, f2⟩
theorem md_spreads_e {b be H : Nat} {T : zT} {S : zS} {m : mj_M} (hb : b < 2) (hT : TR m T) (hR : LR m T) (hw : WT T) (hL : WL T) (hS : SR T b m S) (hW : WS T H S) (hH : H ≤ 20000) (hbe : be ≤ 199) : ∃ m1, md_spreads (nI b) (nI be) m = some m1 ∧ frR b m m1 ∧ (∀ j, j ≠ 50 → m1 68 j = m 68 j) ∧ SR T b m1 (sSp T S be) := by
  have hnp := hw.np
  have y1 : ∀ i, i < T 0 0 → (nI i < 0) = False := fun i hi => eq_false (nI_pos (by omega))
  have y6 : ∀ i, i < T 0 0 → (6 ≤ i) = False := fun i hi => eq_false (by omega)
  have y12 : ∀ i, i < T 0 0 → (12 ≤ i) = False := fun i hi => eq_false (by omega)
  have y2 : ∀ i, i < T 0 0 → (nI i).toNatClampNeg = i := fun i hi => nI_clamp (by omega)
  have w1 : ∀ i, i < T 0 0 → (nI (6 * b + i) < 0) = False := fun i hi => eq_false (nI_pos (by omega))
  have w1' : ∀ i, i < T 0 0 → (12 ≤ 6 * b + i) = False := fun i hi => eq_false (by omega)
  have w2 : ∀ i, i < T 0 0 → (nI (6 * b + i)).toNatClampNeg = 6 * b + i := fun i hi => nI_clamp (by omega)
  have h9 : ∀ q, q < T 0 0 → S.1 2 q ≤ 9 := fun q hq => hW.hic q hq
  have eq0 : ∀ x, x ≤ 9 → (nI x = 0 ↔ x = 0) := fun x hx => nI_eq (b := 0) (by omega) (by decide)
  unfold md_spreads
  -- who had them
  obtain ⟨t1, s1, e1, q1, q2⟩ := lp_up (body := md_spreads_l2 (nI b) (nI be)) (s := (0, m))
    (fun i s => s.1 = nI i ∧ (∀ x j, x ≠ 101 → s.2 x j = m x j) ∧ (∀ q, q < i → mj_I (s.2 101 q) = nI (S.1 2 q)))
    (fun _ s => (∀ x j, x ≠ 101 → s.2 x j = m x j) ∧ (∀ q, q < T 0 0 → mj_I (s.2 101 q) = nI (S.1 2 q))) (T 0 0) (by unfold mj_F; omega)
    ⟨rfl, fun _ _ _ => rfl, fun q hq => absurd hq (Nat.not_lt_zero q)⟩
    (by
      intro i s hi ⟨h1, h2, h3⟩
      obtain ⟨x, ms⟩ := s
      dsimp only at h1 h2 h3
      subst h1
      have hTs := hT.cong (m1 := ms) (fun j _ => h2 68 j (by decide)) (fun k h1 h2' _ => funext fun j => h2 k j (by omega))
      have v96 : mj_I (ms 96 (6 * b + i)) = nI (S.1 2 i) := by rw [h2 _ _ (by decide)]; exact hS.hic i hi
      unfold md_spreads_l2
      simp only [hTs.np, ix6, y1 i hi, y6 i hi, y2 i hi, w1 i hi, w1' i hi, w2 i hi, or_self, if_false, v96]
      rw [if_neg (nI_ge hi (by omega))]
      refine ⟨_, rfl, (nI_succ i).symm, fun x j hx => ?_, fun q hq => ?_⟩
      · show mj_up ms 101 i _ x j = _
        rw [na_upN (fun z => hx z.1), h2 x j hx]
      · show mj_I (mj_up ms 101 i _ 101 q) = _
        by_cases c : q = i
        · rw [c, na_upS]; rfl
        · rw [na_upN (fun z => c z.2)]; exact h3 q (by omega))
    (by
      intro s ⟨h1, h2, h3⟩
      obtain ⟨x, ms⟩ := s
      dsimp only at h1 h2 h3
      subst h1
      have hTs := hT.cong (m1 := ms) (fun j _ => h2 68 j (by decide)) (fun k h1 h2' _ => funext fun j => h2 k j (by omega))
      refine ⟨0, (nI (T 0 0), ms), ?_, h2, h3⟩
      unfold md_spreads_l2
      dsimp only
      rw [hTs.np, if_pos (nI_le (Nat.le_refl _) (by omega))])
  rw [e1, Option.bind_some]
  obtain ⟨x1, M⟩ := s1
  dsimp only at q1 q2 ⊢
  -- what holds all along: all but hiccups, names, values, the sign of an error as in m; had
  have hSR : ∀ ms : mj_M, (∀ x j, x ≠ 101 → x ≠ 91 → x ≠ 92 → ¬ (x = 68 ∧ j = 50) → ¬ (x = 96 ∧ 6 * b ≤ j ∧ j < 6 * b + 6) → ms x j = m x j) → frR b m ms := fun ms h x j hx => h x j (by unfold okc at hx; omega) (by unfold okc at hx; omega) (by unfold okc at hx; omega) (by unfold okc at hx; omega) (by unfold okc at hx; omega)
  obtain ⟨t2, s2, e2, r1, r2, r3⟩ := lp_up (body := md_spreads_l35 (nI b) (nI be)) (s := (0, M))
    (fun i s => s.1 = nI i ∧ (∀ x j, x ≠ 101 → x ≠ 91 → x ≠ 92 → ¬ (x = 68 ∧ j = 50) → ¬ (x = 96 ∧ 6 * b ≤ j ∧ j < 6 * b + 6) → s.2 x j = m x j) ∧ s.2 101 = M 101 ∧ (∀ q, q < T 0 0 → mj_I (s.2 96 (6 * b + q)) = nI (spH T S be i (fun q => (sGv T S i).testBit q) q)))
    (fun _ s => (∀ x j, x ≠ 101 → x ≠ 91 → x ≠ 92 → ¬ (x = 68 ∧ j = 50) → ¬ (x = 96 ∧ 6 * b ≤ j ∧ j < 6 * b + 6) → s.2 x j = m x j) ∧ s.2 101 = M 101 ∧ (∀ q, q < T 0 0 → mj_I (s.2 96 (6 * b + q)) = nI (spH T S be (T 0 0) (fun q => (sGv T S (T 0 0)).testBit q) q))) (T 0 0) (by unfold mj_F; omega)
    ⟨rfl, fun x j h1 _ _ _ _ => q1 x j h1, rfl, fun q hq => by
      show mj_I (M 96 (6 * b + q)) = _
      rw [q1 _ _ (by decide), hS.hic q hq]
      congr 1
      unfold spH
      try dsimp only
      have : (sGv T S 0).testBit q = false := Nat.zero_testBit q
      simp only [this, Bool.false_eq_true, and_false, if_false, Nat.not_lt_zero]
      split
      · omega
      · rfl⟩
    (by
      intro i s hi ⟨h1, h2, h3, h4⟩
      obtain ⟨x, ms⟩ := s
      dsimp only at h1 h2 h3 h4
      subst h1
      have fr := hSR ms h2
      have hTs := frR_TR fr hT
      have had : ∀ q, q < T 0 0 → mj_I (ms 101 q) = nI (S.1 2 q) := fun q hq => by rw [h3]; exact q2 q hq
      unfold md_spreads_l35 md_spreads_j151l35
      simp only [hTs.np, ix6, y1 i hi, y6 i hi, y2 i hi, w1 i hi, w1' i hi, w2 i hi, or_self, if_false, had i hi, eq0 _ (h9 i hi)]
      rw [if_neg (nI_ge hi (by omega))]
      have eg : sGv T S (i + 1) = if S.1 2 i = 0 then sGv T S i else sGv T S i ||| T 4 i := rfl
      by_cases c : S.1 2 i = 0
      · rw [if_pos c]
        refine ⟨_, rfl, (nI_succ i).symm, h2, h3, fun q hq => ?_⟩
        show mj_I (ms 96 (6 * b + q)) = _
        rw [h4 q hq, eg, if_pos c]
        congr 1
        unfold spH
        try dsimp only
        by_cases cq : S.1 2 q = 0
        · rw [if_pos cq, if_pos cq]
        · rw [if_neg cq, if_neg cq]
          have : q ≠ i := fun e => cq (by rw [e]; exact c)
          by_cases cl : q < i
          · rw [if_pos cl, if_pos (by omega)]
          · rw [if_neg cl, if_neg (by omega)]
      · rw [if_neg c]
        -- those who get of i
        obtain ⟨t3, s3, e3, u1, u2, u3⟩ := lp_up (body := md_spreads_l58 (nI b) (nI be) (nI i)) (s := (0, ms))
          (fun j s => s.1 = nI j ∧ (∀ x j, x ≠ 101 → x ≠ 91 → x ≠ 92 → ¬ (x = 68 ∧ j = 50) → ¬ (x = 96 ∧ 6 * b ≤ j ∧ j < 6 * b + 6) → s.2 x j = m x j) ∧ s.2 101 = M 101 ∧ (∀ q, q < T 0 0 → mj_I (s.2 96 (6 * b + q)) = nI (spH T S be i (fun q => (sGv T S i).testBit q || (decide (q < j) && (T 4 i).testBit q)) q)))
          (fun _ s => (∀ x j, x ≠ 101 → x ≠ 91 → x ≠ 92 → ¬ (x = 68 ∧ j = 50) → ¬ (x = 96 ∧ 6 * b ≤ j ∧ j < 6 * b + 6) → s.2 x j = m x j) ∧ s.2 101 = M 101 ∧ (∀ q, q < T 0 0 → mj_I (s.2 96 (6 * b + q)) = nI (spH T S be i (fun q => (sGv T S (i + 1)).testBit q) q))) (T 0 0) (by unfold mj_F; omega)
          ⟨rfl, h2, h3, fun q hq => by
            show mj_I (ms 96 (6 * b + q)) = _
            rw [h4 q hq]
            simp⟩
          (by
            intro j s hj ⟨g1, g2, g3, g4⟩
            obtain ⟨y, mt⟩ := s
            dsimp only at g1 g2 g3 g4
            subst g1
            have frt := hSR mt g2
            have hTt := frR_TR frt hT
            have hRt := frR_LR frt hR
            have hadt : mj_I (mt 101 j) = nI (S.1 2 j) := by rw [g3]; exact q2 j hj
            have v76 : mj_I (mt 76 i) = nI (T 4 i) := hTt.row 4 i (by decide) (by decide) (by decide) hi
            have hti := hw.tied i hi
            have v97 : mj_I (mt 97 (6 * b + j)) = nI (S.1 5 j) := by rw [g2 _ _ (by decide) (by decide) (by decide) (by omega) (by omega)]; exact hS.here j hj
            have h5 := hW.here j hj
            have stay : ¬ (S.1 2 j = 0 ∧ S.1 5 j = 1 ∧ (T 4 i).testBit j = true) → ∃ s1, some ((0 : Nat), ((nI j + 1, mt) : Int32 × mj_M)) = some (0, s1) ∧ s1.1 = nI (j + 1) ∧ (∀ x j, x ≠ 101 → x ≠ 91 → x ≠ 92 → ¬ (x = 68 ∧ j = 50) → ¬ (x = 96 ∧ 6 * b ≤ j ∧ j < 6 * b + 6) → s1.2 x j = m x j) ∧ s1.2 101 = M 101 ∧ (∀ q, q < T 0 0 → mj_I (s1.2 96 (6 * b + q)) = nI (spH T S be i (fun q => (sGv T S i).testBit q || (decide (q < j + 1) && (T 4 i).testBit q)) q)) := by
              intro hn
              refine ⟨_, rfl, (nI_succ j).symm, g2, g3, fun q hq => ?_⟩
              show mj_I (mt 96 (6 * b + q)) = _
              rw [g4 q hq]
              congr 1
              unfold spH
              try dsimp only
              by_cases cj : q = j
              · subst cj
                by_cases c0 : S.1 2 q = 0
                · rw [if_pos c0, if_pos c0]
                  have e : (S.1 5 q = 1 ∧ ((sGv T S i).testBit q || (decide (q < q) && (T 4 i).testBit q)) = true) ↔ (S.1 5 q = 1 ∧ ((sGv T S i).testBit q || (decide (q < q + 1) && (T 4 i).testBit q)) = true) := by
                    have d1 : decide (q < q) = false := decide_eq_false (Nat.lt_irrefl q)
                    have d2 : decide (q < q + 1) = true := decide_eq_true (by omega)
                    rw [d1, d2, Bool.false_and, Bool.or_false, Bool.true_and, Bool.or_eq_true]
                    constructor
                    · intro z; exact ⟨z.1, Or.inl z.2⟩
                    · rintro ⟨z1, z2 | z2⟩
                      · exact ⟨z1, z2⟩
                      · exact absurd ⟨c0, z1, z2⟩ hn
                  simp only [e]
                · rw [if_neg c0, if_neg c0]
              · have d : decide (q < j + 1) = decide (q < j) := decide_eq_decide.mpr (by omega)
                simp only [d]
            unfold md_spreads_l58 md_spreads_j126l58
            simp only [hTt.np, ix6, y1 i hi, y12 i hi, y2 i hi, y1 j hj, y6 j hj, y2 j hj, w1 j hj, w1' j hj, w2 j hj, or_self, if_false, v76, na_md_isOf (a := T 4 i) (w := j) (show T 4 i < 2 ^ 31 by omega) (show j < 31 by omega), v97, hadt, eq0 _ (h9 j hj), eq0 _ (show S.1 5 j ≤ 9 by omega)]
            rw [if_neg (nI_ge hj (by omega))]
            by_cases ct : (T 4 i).testBit j = true
            · rw [if_pos ct, if_neg (show ¬ (1 : Int32) = 0 by decide)]
              by_cases c5 : S.1 5 j = 0
              · rw [if_pos c5]; exact stay (fun z => by omega)
              · rw [if_neg c5]
                by_cases c2 : S.1 2 j = 0
                · rw [if_pos c2]
                  have vc : mj_I (mt 98 b) = nI (S.1 0 1) := by rw [g2 _ _ (by decide) (by decide) (by decide) (by omega) (by omega)]; exact hS.coil
                  have vh : mj_I (mt 100 b) = nI (S.1 0 0) := by rw [g2 _ _ (by decide) (by decide) (by decide) (by omega) (by omega)]; exact hS.hour
                  obtain ⟨m5, e5, f5⟩ := md_hushOf_e hb hTt hRt hw hL hW hH hbe hj vc vh
                  rw [e5, Option.bind_some]
                  refine ⟨_, rfl, (nI_succ j).symm, fun x k z1 z2 z3 z4 z5 => ?_, ?_, fun q hq => ?_⟩
                  · show mj_up m5 96 (6 * b + j) _ x k = _
                    rw [na_upN (by omega), f5 x k z2 z3 z4]
                    exact g2 x k z1 z2 z3 z4 z5
                  · show mj_up m5 96 (6 * b + j) (.int (nI (sHush T S be j))) 101 = _
                    rw [fr_up (by decide), ← g3]
                    exact funext fun k => f5 101 k (by decide) (by decide) (by omega)
                  · show mj_I (mj_up m5 96 (6 * b + j) _ 96 (6 * b + q)) = _
                    by_cases cj : q = j
                    · subst cj
                      rw [na_upS]
                      show nI _ = _
                      congr 1
                      unfold spH
                      try dsimp only
                      have d2 : decide (q < q + 1) = true := decide_eq_true (by omega)
                      have hc : S.1 5 q = 1 ∧ ((sGv T S i).testBit q || (decide (q < q + 1) && (T 4 i).testBit q)) = true := ⟨by omega, by rw [d2, ct]; simp⟩
                      rw [if_pos c2, if_pos hc]
                    · rw [na_upN (by omega), f5 _ _ (by decide) (by decide) (by omega), g4 q hq]
                      congr 1
                      unfold spH
                      try dsimp only
                      have d : decide (q < j + 1) = decide (q < j) := decide_eq_decide.mpr (by omega)
                      simp only [d]
                · rw [if_neg c2]; exact stay (fun z => c2 z.1)
            · rw [if_neg ct]
              simp only [if_true]
              exact stay (fun z => ct z.2.2))
          (by
            intro s ⟨g1, g2, g3, g4⟩
            obtain ⟨y, mt⟩ := s
            dsimp only at g1 g2 g3 g4
            subst g1
            have hTt := frR_TR (hSR mt g2) hT
            refine ⟨0, (nI (T 0 0), mt), ?_, g2, g3, fun q hq => ?_⟩
            · unfold md_spreads_l58
              dsimp only
              rw [hTt.np, if_pos (nI_le (Nat.le_refl _) (by omega))]
            · show mj_I (mt 96 (6 * b + q)) = _
              rw [g4 q hq]
              congr 1
              unfold spH
              try dsimp only
              simp only [eg, if_neg c, Nat.testBit_or, decide_eq_true hq, Bool.true_and])
        rw [e3, Option.bind_some]
        obtain ⟨y, mt⟩ := s3
        dsimp only at u1 u2 u3 ⊢
        have hadt : mj_I (mt 101 i) = nI (S.1 2 i) := by rw [u2]; exact q2 i hi
        rw [hadt, show (1 : Int32) = nI 1 from rfl, pk_sub (by omega)]
        refine ⟨_, rfl, (nI_succ i).symm, fun x k z1 z2 z3 z4 z5 => ?_, ?_, fun q hq => ?_⟩
        · show mj_up mt 96 (6 * b + i) _ x k = _
          rw [na_upN (by omega)]
          exact u1 x k z1 z2 z3 z4 z5
        · show mj_up mt 96 (6 * b + i) (.int (nI (S.1 2 i - 1))) 101 = _
          rw [fr_up (by decide), u2]
        · show mj_I (mj_up mt 96 (6 * b + i) _ 96 (6 * b + q)) = _
          by_cases cq : q = i
          · subst cq
            rw [na_upS]
            show nI _ = _
            congr 1
            unfold spH
            try dsimp only
            rw [if_neg c, if_pos (by omega)]
          · rw [na_upN (by omega), u3 q hq]
            congr 1
            unfold spH
            try dsimp only
            have e : (q < i + 1) ↔ (q < i) := by omega
            simp only [e])
    (by
      intro s ⟨h1, h2, h3, h4⟩
      obtain ⟨x, ms⟩ := s
      dsimp only at h1 h2 h3 h4
      subst h1
      have hTs := frR_TR (hSR ms h2) hT
      refine ⟨0, (nI (T 0 0), ms), ?_, h2, h3, h4⟩
      unfold md_spreads_l35
      dsimp only
      rw [hTs.np, if_pos (nI_le (Nat.le_refl _) (by omega))])
  rw [e2, Option.bind_some]
  obtain ⟨x2, ms⟩ := s2
  dsimp only at r1 r2 r3 ⊢
  have g : ∀ x j, x ≠ 101 → x ≠ 91 → x ≠ 92 → x ≠ 68 → x ≠ 96 → ms x j = m x j := fun x j a1 a2 a3 a4 a5 => r1 x j a1 a2 a3 (fun z => a4 z.1) (fun z => a5 z.1)
  refine ⟨ms, rfl, hSR ms r1, fun j hj => r1 68 j (by decide) (by decide) (by decide) (by omega) (by omega), ⟨?_, ?_, ?_, ?_, ?_, ?_, ?_, ?_⟩⟩
  · rw [g _ _ (by decide) (by decide) (by decide) (by decide) (by decide), sSp_o (by decide)]; exact hS.hour
  · rw [g _ _ (by decide) (by decide) (by decide) (by decide) (by decide), sSp_o (by decide)]; exact hS.coil
  · rw [g _ _ (by decide) (by decide) (by decide) (by decide) (by decide)]; exact hS.shift
  · intro p hp; rw [g _ _ (by decide) (by decide) (by decide) (by decide) (by decide), sSp_o (by decide)]; exact hS.here p hp
  · intro p hp; rw [g _ _ (by decide) (by decide) (by decide) (by decide) (by decide)]; exact hS.slips p hp
  · intro p hp
    rw [r3 p hp, sSp_2]
    congr 1
    unfold spH
    try dsimp only
    by_cases c : S.1 2 p = 0
    · rw [if_pos c, if_pos c]
    · rw [if_neg c, if_neg c, if_pos hp]
  · intro w hww; rw [g _ _ (by decide) (by decide) (by decide) (by decide) (by decide), sSp_o (by decide)]; exact hS.left w hww
  · intro w hww; rw [g _ _ (by decide) (by decide) (by decide) (by decide) (by decide)]; exact hS.done w hww
