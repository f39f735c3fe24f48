/-! WHAT WAS SEEN: whether it fits (own work) -/
theorem lt_nn {a b : Nat} (ha : a < 2 ^ 31) (hb : b < 2 ^ 31) : nI a < nI b ↔ a < b := by
  rw [na_ltI, nI_toInt ha, nI_toInt hb]
  omega
def okB (E : zE) (K : Nat) (R : zS) (h i : Nat) : Prop := (stD E K K).2.testBit i = true → E.2 i 1 = h → (if R.1 3 (E.2 i 2) < E.2 i 3 then 0 else 1) = E.2 i 4
theorem okB_all {E : zE} {T : zT} {K : Nat} {R : zS} {h : Nat} (hE : WE T E) (hK : K ≤ E.1.1) (hh : ∀ i, i < K → okB E K R h i) : ∀ i, okB E K R h i := by
  intro i hs
  have := (stD_bit hE hK K (Nat.le_refl _) i).mp hs
  exact hh i this.2.1 hs
theorem si_fit_e {m : mj_M} {T : zT} {E : zE} {K H : Nat} {R : zS} (hw : WT T) (hE : WE T E) (hC : seC m E) (hK : K ≤ E.1.1) (hS : SC T 47 m R) (hR : WS T H R) (hH : H ≤ 20000) : (si_fit 47 (nI (stD E K K).2) m = some 1 ∧ ∀ i, okB E K R (R.1 0 0) i) ∨ (si_fit 47 (nI (stD E K K).2) m = some 0 ∧ ∃ i, ¬ okB E K R (R.1 0 0) i) := by
  have hc := hE.cnt
  have hnw := hw.nw
  have hh := hR.hour
  have hl := stD_lt hE hK K (Nat.le_refl _)
  have hlb : bz (fun i => decide (E.2 i 0 = 0 ∧ E.2 i 4 = 1)) E.1.1 < 2 ^ 31 := bz_le (by omega)
  have z63 : mj_siz 63 ≤ 5000 ∧ 24 ≤ mj_siz 63 := by decide
  have z64 : mj_siz 64 ≤ 5000 ∧ 24 ≤ mj_siz 64 := by decide
  have z65 : mj_siz 65 ≤ 5000 ∧ 24 ≤ mj_siz 65 := by decide
  obtain ⟨ta, sa, e, q⟩ := lp_ex (body := si_fit_l2 47 (nI (stD E K K).2) m) (s := 0) (fun i s => s = nI i ∧ ∀ j, j < i → okB E K R (R.1 0 0) j) (fun a _ => (a = 0 ∧ ∃ i, ¬ okB E K R (R.1 0 0) i) ∨ (a = 1 ∧ ∀ i, i < E.1.1 → okB E K R (R.1 0 0) i)) E.1.1 (by unfold mj_F; omega) ⟨rfl, fun j hj => absurd hj (Nat.not_lt_zero j)⟩
    (by
      intro i s hi ⟨g1, g2⟩
      subst g1
      have up : okB E K R (R.1 0 0) i → ∀ j, j < i + 1 → okB E K R (R.1 0 0) j := fun h j hj => by
        by_cases c : j = i
        · rw [c]; exact h
        · exact g2 j (by omega)
      unfold si_fit_l2
      rw [hC.cnt, if_neg (nI_ge hi (by omega)), na_bp_has (by omega) (by omega)]
      by_cases c : (stD E K K).2.testBit i = true
      · have c0 := ((stD_bit hE hK K (Nat.le_refl _) i).mp c).2.2.2
        obtain ⟨_, a1, a2, a3⟩ := hC.see i hi c0
        obtain ⟨b1, b2, b3, b4, b5⟩ := hE.see i hi c0
        have hwl := hR.left _ b3
        rw [if_pos c, if_neg not01, na_at z63.1 (by omega), na_at z64.1 (by omega), na_at z65.1 (by omega), a1, a2, a3, hS.hour, (SC_at hS (Or.inr (Or.inl rfl)) hw).2.2.1 _ b3]
        have z1 : nI (E.2 i 1) = nI (R.1 0 0) ↔ E.2 i 1 = R.1 0 0 := nI_eq (by omega) (by omega)
        have z2 := @lt_nn (R.1 3 (E.2 i 2)) (E.2 i 3) (by omega) (by omega)
        simp only [z1, z2]
        by_cases c1 : E.2 i 1 = R.1 0 0
        · rw [if_pos c1]
          have hb : bp_has (mj_I (m 61 6)) (nI i) m = if E.2 i 4 = 1 then 1 else 0 := by
            rw [hC.least, na_bp_has hlb (by omega), bz_bit, decide_eq_true hi]
            by_cases c4 : E.2 i 4 = 1 <;> simp [c0, c4]
          unfold si_fit_j64l2 si_fit_j81l2
          rw [hb]
          by_cases c2 : R.1 3 (E.2 i 2) < E.2 i 3
          · rw [if_pos c2]
            by_cases c4 : E.2 i 4 = 1
            · rw [if_pos c4, if_neg (show ¬ (0 : Int32) = 1 from by decide)]
              refine Or.inr ⟨0, _, rfl, Or.inl ⟨rfl, i, fun z => ?_⟩⟩
              have := z c c1
              rw [if_pos c2] at this
              omega
            · rw [if_neg c4, if_pos rfl]
              refine Or.inl ⟨_, rfl, (nI_succ _).symm, up (fun _ _ => ?_)⟩
              rw [if_pos c2]
              omega
          · rw [if_neg c2]
            by_cases c4 : E.2 i 4 = 1
            · rw [if_pos c4, if_pos rfl]
              refine Or.inl ⟨_, rfl, (nI_succ _).symm, up (fun _ _ => ?_)⟩
              rw [if_neg c2]
              omega
            · rw [if_neg c4, if_neg not01]
              refine Or.inr ⟨0, _, rfl, Or.inl ⟨rfl, i, fun z => ?_⟩⟩
              have := z c c1
              rw [if_neg c2] at this
              omega
        · rw [if_neg c1]
          exact Or.inl ⟨_, rfl, (nI_succ _).symm, up (fun _ z => absurd z c1)⟩
      · rw [if_neg c, if_pos rfl]
        exact Or.inl ⟨_, rfl, (nI_succ _).symm, up (fun z => absurd z c)⟩)
    (by
      intro s ⟨g1, g2⟩
      subst g1
      refine ⟨1, nI E.1.1, ?_, Or.inr ⟨rfl, g2⟩⟩
      unfold si_fit_l2
      rw [hC.cnt, if_pos (nI_le (Nat.le_refl _) (by omega))])
  unfold si_fit
  rw [e, Option.bind_some]
  dsimp only
  rcases q with ⟨a, h⟩ | ⟨a, h⟩
  · rw [if_pos a]; exact Or.inr ⟨rfl, h⟩
  · rw [if_neg (by rw [a]; decide)]; exact Or.inl ⟨rfl, okB_all hE hK (fun i hi => h i (by omega))⟩
theorem md_isSo_e {m : mj_M} {T : zT} {E : zE} {K H h : Nat} {R : zS} (hw : WT T) (hE : WE T E) (hC : seR m E) (hK : K ≤ E.1.1) (hk : md_knownBy m = nI K) (h5 : ∀ i, i < K → mj_I (m 105 i) = if (stD E K K).1.testBit i = true then 0 else 1) (hS : SR T 1 m R) (hR : WS T H R) (hh : h ≤ 40) : (md_isSo (nI h) m = some 1 ∧ ∀ i, okB E K R h i) ∨ (md_isSo (nI h) m = some 0 ∧ ∃ i, ¬ okB E K R h i) := by
  have hc := hE.cnt
  have hnw := hw.nw
  obtain ⟨ta, sa, e, q⟩ := lp_ex (body := md_isSo_l2 (nI h) m) (s := 0) (fun i s => s = nI i ∧ ∀ j, j < i → okB E K R h j) (fun a _ => (a = 0 ∧ ∃ i, ¬ okB E K R h i) ∨ (a = 1 ∧ ∀ i, i < K → okB E K R h i)) K (by unfold mj_F; omega) ⟨rfl, fun j hj => absurd hj (Nat.not_lt_zero j)⟩
    (by
      intro i s hi ⟨g1, g2⟩
      subst g1
      have up : okB E K R h i → ∀ j, j < i + 1 → okB E K R h j := fun h j hj => by
        by_cases c : j = i
        · rw [c]; exact h
        · exact g2 j (by omega)
      have x0 : (nI i < 0) = False := eq_false (nI_pos (by omega))
      have x0' : (24 ≤ i) = False := eq_false (by omega)
      have x02 : (nI i).toNatClampNeg = i := nI_clamp (by omega)
      have e4 : (4 : Int32) * nI i = nI (4 * i) := by rw [show (4 : Int32) = nI 4 from rfl, pk_mul]
      have ee : ∀ c : Nat, nI (4 * i) + nI c = nI (4 * i + c) := fun c => nI_add _ _
      have e41 : nI (4 * i) + 1 = nI (4 * i + 1) := ee 1
      have e42 : nI (4 * i) + 2 = nI (4 * i + 2) := ee 2
      have e43 : nI (4 * i) + 3 = nI (4 * i + 3) := ee 3
      have y : ∀ c : Nat, c ≤ 3 → (nI (4 * i + c) < 0) = False ∧ (96 ≤ 4 * i + c) = False ∧ (nI (4 * i + c)).toNatClampNeg = 4 * i + c := fun c hc => ⟨eq_false (nI_pos (by omega)), eq_false (by omega), nI_clamp (by omega)⟩
      obtain ⟨y0, y0', y02⟩ := y 0 (by decide)
      rw [Nat.add_zero] at y0 y0' y02
      obtain ⟨y1, y1', y12⟩ := y 1 (by decide)
      obtain ⟨y2, y2', y22⟩ := y 2 (by decide)
      obtain ⟨y3, y3', y32⟩ := y 3 (by decide)
      unfold md_isSo_l2 md_isSo_j70l2 md_isSo_j91l2 md_isSo_j96l2
      rw [hk, if_neg (nI_ge hi (by omega))]
      simp only [x0, x0', x02, e4, e41, e42, e43, y0, y0', y02, y1, y1', y12, y2, y2', y22, y3, y3', y32, or_self, if_false, h5 i hi]
      by_cases cs : (stD E K K).1.testBit i = true
      · rw [if_pos cs, if_pos rfl]
        refine Or.inl ⟨_, rfl, (nI_succ _).symm, up (fun z => ?_)⟩
        have := ((stD_bit hE hK K (Nat.le_refl _) i).mp z).2.2.1
        rw [cs] at this
        exact absurd this (by decide)
      rw [if_neg cs, if_neg (show ¬ (1 : Int32) = 0 from by decide)]
      have cs' : (stD E K K).1.testBit i = false := by simpa using cs
      by_cases c0 : E.2 i 0 = 0
      · obtain ⟨a1, a2, a3, a4⟩ := hC.see i (by omega) c0
        obtain ⟨b1, b2, b3, b4, b5⟩ := hE.see i (by omega) c0
        have st : (stD E K K).2.testBit i = true := (stD_bit hE hK K (Nat.le_refl _) i).mpr ⟨by omega, hi, cs', c0⟩
        have hwl := hR.left _ b3
        have w1 : (nI (8 + E.2 i 2) < 0) = False := eq_false (nI_pos (by omega))
        have w1' : (16 ≤ 8 + E.2 i 2) = False := eq_false (by omega)
        have w2 : (nI (8 + E.2 i 2)).toNatClampNeg = 8 + E.2 i 2 := nI_clamp (by omega)
        have e8 : (8 : Int32) + nI (E.2 i 2) = nI (8 + E.2 i 2) := by rw [show (8 : Int32) = nI 8 from rfl, nI_add]
        have hl9 : mj_I (m 93 (8 + E.2 i 2)) = nI (R.1 3 (E.2 i 2)) := hS.left _ b3
        have z1 : nI (E.2 i 1) = nI h ↔ E.2 i 1 = h := nI_eq (by omega) (by omega)
        have z2 := @lt_nn (R.1 3 (E.2 i 2)) (E.2 i 3) (by omega) (by omega)
        have z4 : nI (E.2 i 4) = 1 ↔ E.2 i 4 = 1 := nI_eq (b := 1) (by omega) (by decide)
        simp only [a1, a2, a3, a4, e8, w1, w1', w2, or_self, if_false, hl9, z1, z2, z4]
        by_cases c1 : E.2 i 1 = h
        · rw [if_pos c1]
          by_cases c2 : R.1 3 (E.2 i 2) < E.2 i 3
          · rw [if_pos c2]
            by_cases c4 : E.2 i 4 = 1
            · rw [if_pos c4, if_neg (show ¬ (0 : Int32) = 1 from by decide)]
              refine Or.inr ⟨0, _, rfl, Or.inl ⟨rfl, i, fun z => ?_⟩⟩
              have := z st c1
              rw [if_pos c2] at this
              omega
            · rw [if_neg c4, if_pos trivial]
              refine Or.inl ⟨_, rfl, (nI_succ _).symm, up (fun _ _ => ?_)⟩
              rw [if_pos c2]
              omega
          · rw [if_neg c2]
            by_cases c4 : E.2 i 4 = 1
            · rw [if_pos c4, if_pos trivial]
              refine Or.inl ⟨_, rfl, (nI_succ _).symm, up (fun _ _ => ?_)⟩
              rw [if_neg c2]
              omega
            · rw [if_neg c4, if_neg not01]
              refine Or.inr ⟨0, _, rfl, Or.inl ⟨rfl, i, fun z => ?_⟩⟩
              have := z st c1
              rw [if_neg c2] at this
              omega
        · rw [if_neg c1]
          exact Or.inl ⟨_, rfl, (nI_succ _).symm, up (fun _ z => absurd z c1)⟩
      · have c1 : E.2 i 0 = 1 := by have := hE.kind i (by omega); omega
        rw [(hC.strike i (by omega) c1).1, if_neg (show ¬ (-1 : Int32) = nI h from fun z => by
          have z2 := congrArg Int32.toInt z
          rw [nI_toInt (by omega)] at z2
          have : ((-1 : Int32)).toInt = -1 := rfl
          omega)]
        refine Or.inl ⟨_, rfl, (nI_succ _).symm, up (fun z => ?_)⟩
        exact absurd ((stD_bit hE hK K (Nat.le_refl _) i).mp z).2.2.2 c0)
    (by
      intro s ⟨g1, g2⟩
      subst g1
      refine ⟨1, nI K, ?_, Or.inr ⟨rfl, g2⟩⟩
      unfold md_isSo_l2
      rw [hk, if_pos (nI_le (Nat.le_refl _) (by omega))])
  unfold md_isSo
  rw [e, Option.bind_some]
  dsimp only
  rcases q with ⟨a, h⟩ | ⟨a, h⟩
  · rw [if_pos a]; exact Or.inr ⟨rfl, h⟩
  · rw [if_neg (by rw [a]; decide)]; exact Or.inl ⟨rfl, okB_all hE hK h⟩
