/-! CALLS THAT TRY, 9: shifts, the call (own work) -/
section SHIFTS2
variable {t : Nat} {m : mj_M} {T : zT} {S : zS} {n : Nat} {us : List zS} {I : Option (zS × Nat)} {E : zE} {B : zB} {F : Int32 × Int32}
theorem frQ_105 {M : mj_M} {j : Nat} {v : Value} : frQ M (mj_up M 105 j v) := ⟨fun a i h => na_upN (by unfold okq okl okc at h; omega), congrArg mj_J (na_upN (by omega))⟩
theorem counts_R {K : Nat} (hR : RV m T S n us I E B F) (hW : WV T S n us I E B F) (hK : K ≤ E.1.1) (hkn : md_knownBy m = nI K) : ∃ t1 s1 t2 s2, mj_loop md_shifts_l7 mj_F (0, mj_up m 68 2 (.int 0)) = some (t1, s1) ∧ mj_loop md_shifts_l35 mj_F ((md_knownBy s1.2) - 1, s1.2) = some (t2, s2) ∧ frQ m s2.2 ∧ rC E K K s2.2 := by
  have hE := hW.se
  have hc := hE.cnt
  have kn : ∀ M, frQ m M → md_knownBy M = nI K := fun M f => by
    rw [knR_eq hR.se (RV_Q hR hW.T f).se]
    exact hkn
  obtain ⟨t1, s1, e1, f1, r1⟩ := lp_up (body := md_shifts_l7) (s := (0, mj_up m 68 2 (.int 0))) (fun i s => s.1 = nI i ∧ frQ m s.2 ∧ ∀ j, j < i → mj_I (s.2 105 j) = 1) (fun _ s => frQ m s.2 ∧ ∀ j, j < K → mj_I (s.2 105 j) = 1) K (by unfold mj_F; omega) ⟨rfl, frQ_2, fun j hj => absurd hj (Nat.not_lt_zero j)⟩
    (by
      intro i s hi ⟨g1, g2, g3⟩
      obtain ⟨x, M⟩ := s
      dsimp only at g1 g2 g3
      subst g1
      have x0 : (nI i < 0) = False := eq_false (nI_pos (by omega))
      have x0' : (24 ≤ i) = False := eq_false (by omega)
      have x02 : (nI i).toNatClampNeg = i := nI_clamp (by omega)
      unfold md_shifts_l7
      dsimp only
      rw [kn M g2, if_neg (nI_ge hi (by omega))]
      simp only [x0, x0', x02, or_self, if_false]
      refine ⟨_, rfl, (nI_succ _).symm, frQ_tr g2 frQ_105, fun j hj => ?_⟩
      dsimp only
      by_cases c : j = i
      · rw [c, na_upS]; rfl
      · rw [na_upN (by omega)]
        exact g3 j (by omega))
    (by
      intro s ⟨g1, g2, g3⟩
      obtain ⟨x, M⟩ := s
      dsimp only at g1 g2 g3
      subst g1
      refine ⟨0, (nI K, M), ?_, g2, g3⟩
      unfold md_shifts_l7
      dsimp only
      rw [kn M g2, if_pos (nI_le (Nat.le_refl _) (by omega))])
  obtain ⟨t2, s2, e2, f2, r2⟩ := lp_up (body := md_shifts_l35) (s := (nI K - 1, s1.2)) (fun j s => s.1 = nI (K - j) - 1 ∧ frQ m s.2 ∧ rC E K j s.2) (fun _ s => frQ m s.2 ∧ rC E K K s.2) K (by unfold mj_F; omega) ⟨rfl, f1, fun i hi => by
      show mj_I (s1.2 105 i) = if (0 : Nat).testBit i = true then 0 else 1
      rw [r1 i hi, Nat.zero_testBit, if_neg (by decide)]⟩
    (by
      intro j s hj ⟨g1, g2, g3⟩
      obtain ⟨x, M⟩ := s
      dsimp only at g1 g2 g3
      subst g1
      have hR1 := (RV_Q hR hW.T g2).se
      have hi : K - 1 - j < E.1.1 := by omega
      have hcell := g3 (K - 1 - j) (by omega)
      have ej : nI (K - 1 - j) - 1 = nI (K - (j + 1)) - 1 := by rw [show K - (j + 1) = K - 1 - j by omega]
      have hst := stD_S (E := E) (K := K) (j := j)
      rw [m1_e hj]
      generalize hq : K - 1 - j = q at *
      have x0 : (nI q < 0) = False := eq_false (nI_pos (by omega))
      have x0' : (24 ≤ q) = False := eq_false (by omega)
      have x02 : (nI q).toNatClampNeg = q := nI_clamp (by omega)
      have e4 : (4 : Int32) * nI q = nI (4 * q) := by rw [show (4 : Int32) = nI 4 from rfl, pk_mul]
      have e41 : nI (4 * q) + 1 = nI (4 * q + 1) := nI_add _ 1
      have y0 : (nI (4 * q) < 0) = False := eq_false (nI_pos (by omega))
      have y0' : (96 ≤ 4 * q) = False := eq_false (by omega)
      have y02 : (nI (4 * q)).toNatClampNeg = 4 * q := nI_clamp (by omega)
      have y1 : (nI (4 * q + 1) < 0) = False := eq_false (nI_pos (by omega))
      have y1' : (96 ≤ 4 * q + 1) = False := eq_false (by omega)
      have y12 : (nI (4 * q + 1)).toNatClampNeg = 4 * q + 1 := nI_clamp (by omega)
      unfold md_shifts_l35 md_shifts_j75l35
      simp only [x0, x0', x02, e4, e41, y0, y0', y02, y1, y1', y12, or_self, if_false, hcell, add_m1]
      by_cases c : (stD E K j).1.testBit q = true
      · rw [if_pos c] at hst
        rw [if_pos c, if_pos rfl]
        exact ⟨_, rfl, ej, g2, fun i hi => by rw [hst]; exact g3 i hi⟩
      rw [if_neg c] at hst
      rw [if_neg c, if_neg (show ¬ (1 : Int32) = 0 from by decide)]
      by_cases c0 : E.2 q 0 = 0
      · rw [if_pos c0] at hst
        have hs := hE.see q hi c0
        rw [(hR1.see q hi c0).1, if_pos (by rw [show (0 : Int32) = nI 0 from rfl, nI_leI (by decide) (by omega)]; omega)]
        exact ⟨_, rfl, ej, g2, fun i hi => by rw [hst]; exact g3 i hi⟩
      · have c1 : E.2 q 0 = 1 := by have := hE.kind q hi; omega
        have hs := hE.strike q hi c1
        rw [if_neg c0] at hst
        have z0 : (nI (E.2 q 1) < 0) = False := eq_false (nI_pos (by omega))
        have z0' : (24 ≤ E.2 q 1) = False := eq_false (by omega)
        have z02 : (nI (E.2 q 1)).toNatClampNeg = E.2 q 1 := nI_clamp (by omega)
        rw [(hR1.strike q hi c1).1, (hR1.strike q hi c1).2, if_neg (show ¬ (0 : Int32) ≤ -1 from by decide)]
        simp only [z0, z0', z02, or_self, if_false]
        refine ⟨_, rfl, ej, frQ_tr g2 frQ_105, fun i hi => ?_⟩
        dsimp only
        rw [hst]
        dsimp only
        rw [na_set_bit]
        by_cases ci : i = E.2 q 1
        · rw [ci, na_upS, decide_eq_true rfl, Bool.or_true, if_pos rfl]
          rfl
        · rw [na_upN (by omega), decide_eq_false (p := E.2 q 1 = i) (fun z => ci z.symm), Bool.or_false]
          exact g3 i hi)
    (by
      intro s ⟨g1, g2, g3⟩
      obtain ⟨x, M⟩ := s
      dsimp only at g1 g2 g3
      subst g1
      refine ⟨0, (nI (K - K) - 1, M), ?_, g2, g3⟩
      unfold md_shifts_l35
      dsimp only
      rw [if_pos lt_m1])
  exact ⟨t1, s1, t2, s2, e1, by rw [kn _ f1]; exact e2, f2, r2⟩
theorem q_shifts (ht : t = 3 ∨ t = 17) (hC : CV t m T S n us I E B F) (hR : RV m T S n us I E B F) (hW : WV T S n us I E B F) : ∃ x m1 m2, bp_shifts t m = some (x, m1) ∧ frT m m1 ∧ md_shifts m1 = some (x, m2) ∧ frQ m1 m2 := by
  obtain ⟨K, hK, k1, k2⟩ := known_e hW.se hC.se hR.se
  have e3 : ∀ k, (3 : Int32) * nI k = nI (3 * k) := fun k => by rw [show (3 : Int32) = nI 3 from rfl, pk_mul]
  have dec : ∀ k, Decidable (∀ h, 1 ≤ h → h ≤ 40 → fitP T E K k h) := fun k => Classical.propDecidable _
  have ex : ∃ f : Nat → Bool, ∀ k, f k = true ↔ ∀ h, 1 ≤ h → h ≤ 40 → fitP T E K k h := ⟨fun k => @decide _ (dec k), fun k => @decide_eq_true_iff _ (dec k)⟩
  obtain ⟨f, hf⟩ := ex
  have fx : ∀ k (x : Int32), ((x = 1 ∧ ∀ h, 1 ≤ h → h ≤ 40 → fitP T E K k h) ∨ (x = 0 ∧ ∃ h, 1 ≤ h ∧ h ≤ 40 ∧ ¬ fitP T E K k h)) → x = if f k = true then 1 else 0 := fun k x h => by
    rcases h with ⟨h1, h2⟩ | ⟨h1, h, a, b, c⟩
    · rw [if_pos ((hf k).mpr h2), h1]
    · rw [if_neg (fun z => c ((hf k).mp z h a b)), h1]
  have bS : ∀ k, bz f (k + 1) = if f k = true then bz f k ||| 2 ^ k else bz f k := fun k => rfl
  unfold bp_shifts
  rw [standing_e hW.se hC.se hK k1, Option.bind_some, lastHour_e hW.se hC.se hK, Option.bind_some]
  obtain ⟨ta, sa, e1, q1, q2⟩ := lp_up (body := bp_shifts_l22 t (nI (stD E K K).2) (nI (lH E K E.1.1))) (s := (0, 0, m)) (fun k s => s.1 = nI (bz f k) ∧ s.2.1 = nI k ∧ frT m s.2.2) (fun _ s => s.1 = nI (bz f 10) ∧ frT m s.2.2) 10 (by decide) ⟨rfl, rfl, frT_rfl⟩
    (by
      intro k s hk ⟨g1, g2, g3⟩
      obtain ⟨x, y, M⟩ := s
      dsimp only at g1 g2 g3
      subst g1 g2
      obtain ⟨x, M1, p1, p2, p3⟩ := shifted_C (k := k) ht (hC.cong ht (frT_K g3)) hW hK (by omega)
      unfold bp_shifts_l22 bp_shifts_j49l22
      dsimp only
      rw [if_neg (show ¬ (10 : Int32) ≤ nI k from nI_ge (b := 10) (by omega) (by decide)), e3, p1, Option.bind_some]
      dsimp only
      rw [fx k x p3]
      by_cases c : f k = true
      · rw [if_pos c, if_neg (show ¬ (1 : Int32) = 0 from by decide), na_set (by omega)]
        exact ⟨_, rfl, by rw [bS, if_pos c], (nI_succ _).symm, frT_tr g3 p2⟩
      · rw [if_neg c, if_pos rfl]
        exact ⟨_, rfl, by rw [bS, if_neg c], (nI_succ _).symm, frT_tr g3 p2⟩)
    (by
      intro s ⟨g1, g2, g3⟩
      obtain ⟨x, y, M⟩ := s
      dsimp only at g1 g2 g3
      subst g1 g2
      exact ⟨0, (nI (bz f 10), nI 10, M), rfl, rfl, g3⟩)
  rw [e1, Option.bind_some]
  have hR2 := RV_T hR hW.T q2
  have k3 : md_knownBy sa.2.2 = nI K := by
    rw [knR_eq hR.se hR2.se]
    exact k2
  obtain ⟨t1, s1, t2, s2, e4, e5, f5, r5⟩ := counts_R hR2 hW hK k3
  obtain ⟨tb, sb, e6, q6, q7⟩ := lp_up (body := md_shifts_l85) (s := (0, 0, s2.2)) (fun k s => s.1 = nI (bz f k) ∧ s.2.1 = nI k ∧ frQ sa.2.2 s.2.2 ∧ rC E K K s.2.2) (fun _ s => s.1 = nI (bz f 10) ∧ frQ sa.2.2 s.2.2) 10 (by decide) ⟨rfl, rfl, f5, r5⟩
    (by
      intro k s hk ⟨g1, g2, g3, g4⟩
      obtain ⟨x, y, M⟩ := s
      dsimp only at g1 g2 g3 g4
      subst g1 g2
      obtain ⟨x, M1, p1, p2, p4, p3⟩ := fits_R (k := k) hR2 hW hK (by omega) g3 k3 g4
      unfold md_shifts_l85 md_shifts_j109l85
      dsimp only
      rw [if_neg (show ¬ (10 : Int32) ≤ nI k from nI_ge (b := 10) (by omega) (by decide)), e3, p1, Option.bind_some]
      dsimp only
      rw [fx k x p3]
      by_cases c : f k = true
      · rw [if_pos c, if_neg (show ¬ (1 : Int32) = 0 from by decide), na_set (by omega)]
        exact ⟨_, rfl, by rw [bS, if_pos c], (nI_succ _).symm, p2, p4⟩
      · rw [if_neg c, if_pos rfl]
        exact ⟨_, rfl, by rw [bS, if_neg c]; exact Int32.or_zero, (nI_succ _).symm, p2, p4⟩)
    (by
      intro s ⟨g1, g2, g3, g4⟩
      obtain ⟨x, y, M⟩ := s
      dsimp only at g1 g2 g3 g4
      subst g1 g2
      exact ⟨0, (nI (bz f 10), nI 10, M), rfl, rfl, g3⟩)
  refine ⟨nI (bz f 10), sa.2.2, sb.2.2, ?_, q2, ?_, q7⟩
  · dsimp only
    rw [q1]
  · unfold md_shifts
    rw [e4, Option.bind_some]
    dsimp only
    rw [e5, Option.bind_some]
    dsimp only
    rw [e6, Option.bind_some]
    dsimp only
    rw [q6]
end SHIFTS2
