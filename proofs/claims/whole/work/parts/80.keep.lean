/-! CALLS THAT CHANGE THE STATE, 1: keep (own work) -/
def okS (a j : Nat) : Prop := okq a j ∨ (93 ≤ a ∧ a ≤ 100) ∨ a = 106 ∨ a = 107 ∨ a = 108 ∨ a < 68 ∨ a = 109 ∨ (a = 68 ∧ (j = 75 ∨ j = 77 ∨ j = 80 ∨ j = 60))
section SETS
variable {t : Nat} {m m1 : mj_M} {T : zT} {S S' : zS} {n n' : Nat} {us us' : List zS} {I I' : Option (zS × Nat)} {E : zE} {B : zB} {F : Int32 × Int32}
theorem CV.setS (h : CV t m T S n us I E B F) (ht : t = 3 ∨ t = 17) (hk : ∀ k, k < 38 → k ≠ 1 → m1 k = m k) (h1 : m1 1 1 = m 1 1) (he : ∀ k, 61 ≤ k → k ≤ 65 → m1 k = m k) (hS : SC T 42 m1 S') (hn : mj_I (m1 42 3) = nI n') (hu : mj_I (m1 57 0) = nI us'.length) (hus : dvC T m1 S' us') (hI : imC T m1 I') : CV t m1 T S' n' us' I' E B F := by
  have et : m1 t = m t := hk t (by omega) (by omega)
  refine ⟨h.T.cong (fun i hi => hk _ (by omega) (by omega)), hS, hn, hu, hus, hI, h.se.cong he, ?_, ?_, ?_, ?_, ?_, ?_, ?_, ?_⟩
  · rw [h1]; exact h.tc
  · rw [hk 2 (by omega) (by omega)]; exact h.tp
  · rw [hk 31 (by omega) (by omega)]; exact h.fa
  · rw [hk 37 (by omega) (by omega)]; exact h.inst
  · rw [et]; exact h.kn
  · rw [hk (t + 4) (by omega) (by omega)]; exact h.ti
  · rw [hk 33 (by omega) (by omega)]; exact h.wo
  · rw [hk 37 (by omega) (by omega)]; exact h.instV
theorem RV.setS (h : RV m T S n us I E B F) (hk : ∀ a j, ¬ okS a j → m1 a j = m a j) (hS : SR T 0 m1 S') (hn : mj_J (m1 68 60) = lN n') (hu : mj_I (m1 68 75) = nI us'.length) (hus : dvR T m1 us') (hI : imR T m1 I') : RV m1 T S' n' us' I' E B F := by
  have e : ∀ j, ¬ okS 68 j → m1 68 j = m 68 j := fun j hj => hk 68 j hj
  have r : ∀ k, (69 ≤ k ∧ k ≤ 88 ∨ k = 104) → m1 k = m k := fun k h1 => funext fun j => hk k j (by unfold okS okq okl okc; omega)
  refine ⟨h.T.cong (fun j hj => e j (by unfold okS okq okl okc; omega)) (fun k h1 h2 h3 => r k (by omega)), ?_, h.L.cong (fun k h1 h2 => r k (by omega)), hS, hn, hu, hus, hI, ?_, ?_, ?_, ?_, ?_, ?_, ?_⟩
  · intro w hww; rw [r 81 (by omega)]; exact h.R9 w hww
  · unfold seR
    rw [e 71 (by unfold okS okq okl okc; omega), e 72 (by unfold okS okq okl okc; omega), r 104 (by omega)]
    exact h.se
  · rw [e _ (by unfold okS okq okl okc; omega)]; exact h.tc
  · rw [r 69 (by omega)]; exact h.tp
  · rw [e _ (by unfold okS okq okl okc; omega), e _ (by unfold okS okq okl okc; omega)]; exact h.fa
  · rw [e _ (by unfold okS okq okl okc; omega)]; exact h.kn
  · rw [e _ (by unfold okS okq okl okc; omega)]; exact h.ti
  · rw [r 70 (by omega)]; exact h.wo
theorem WV.setS (h : WV T S n us I E B F) (hS : WS T 9900 S') (hh : NHs T S') (hn : n' < 2 ^ 31) (hu : us'.length ≤ 20) (hus : ∀ u, u ∈ us' → WS T 9900 u ∧ NHs T u) (hI : ∀ A k, I' = some (A, k) → WS T 9900 A ∧ NHs T A ∧ k < 2 ^ 31) : WV T S' n' us' I' E B F := ⟨h.T, h.L, hS, hh, hn, hu, hus, hI, h.se, h.tc, h.tp, h.kn, h.ti⟩
/-- what dvC says stays, where its rows stay for the numbers it speaks of -/
theorem md_keep_rows {M : mj_M} (hw : WT T) (hS : SR T 0 M S) : ∃ t1 s, mj_loop md_keep_l21 mj_F (0, M) = some (t1, s) ∧ (∀ a j, a ≠ 108 → s.2 a j = M a j) ∧ ∀ w, w < T 0 5 → mj_I (s.2 108 w) = nI (S.1 3 w) ∧ mj_I (s.2 108 (8 + w)) = S.2 4 w := by
  have hnw := hw.nw
  refine lp_up (body := md_keep_l21) (s := (0, M)) (fun k s => s.1 = nI k ∧ (∀ a j, a ≠ 108 → s.2 a j = M a j) ∧ ∀ w, w < k → w < T 0 5 → mj_I (s.2 108 w) = nI (S.1 3 w) ∧ mj_I (s.2 108 (8 + w)) = S.2 4 w) (fun _ s => (∀ a j, a ≠ 108 → s.2 a j = M a j) ∧ ∀ w, w < T 0 5 → mj_I (s.2 108 w) = nI (S.1 3 w) ∧ mj_I (s.2 108 (8 + w)) = S.2 4 w) 8 (by decide) ⟨rfl, fun _ _ _ => rfl, fun p hp => absurd hp (Nat.not_lt_zero p)⟩
    (by
      intro k s hk ⟨g1, g2, g3⟩
      obtain ⟨x, A⟩ := s
      dsimp only at g1 g2 g3
      subst g1
      have x0 : (nI k < 0) = False := eq_false (nI_pos (by omega))
      have x1 : (16 ≤ k) = False := eq_false (by omega)
      have x2 : (23 ≤ k) = False := eq_false (by omega)
      have x3 : (nI k).toNatClampNeg = k := nI_clamp (by omega)
      have e8 : (8 : Int32) + nI k = nI (8 + k) := by rw [show (8 : Int32) = nI 8 from rfl, nI_add]
      have y0 : (nI (8 + k) < 0) = False := eq_false (nI_pos (by omega))
      have y2 : (23 ≤ 8 + k) = False := eq_false (by omega)
      have y3 : (nI (8 + k)).toNatClampNeg = 8 + k := nI_clamp (by omega)
      unfold md_keep_l21
      dsimp only
      rw [if_neg (show ¬ (8 : Int32) ≤ nI k from nI_ge (b := 8) (by omega) (by decide))]
      simp only [x0, x1, x2, x3, e8, y0, y2, y3, or_self, if_false]
      refine ⟨_, rfl, (nI_succ _).symm, fun a j h => ?_, fun p hp hpp => ?_⟩
      · dsimp only
        rw [na_upN (by omega), na_upN (by omega)]
        exact g2 a j h
      · dsimp only
        by_cases c : p = k
        · subst c
          have h3 := hS.left p hpp
          have h4 := hS.done p hpp
          rw [show 8 * 0 + p = p by omega] at h3 h4
          rw [na_upN (by omega), na_upS, na_upS, g2 _ _ (by omega), g2 _ _ (by omega)]
          exact ⟨h3, h4⟩
        · rw [na_upN (by omega), na_upN (by omega), na_upN (by omega), na_upN (by omega)]
          exact g3 p (by omega) hpp)
    (by
      intro s ⟨g1, g2, g3⟩
      obtain ⟨x, A⟩ := s
      dsimp only at g1 g2 g3
      subst g1
      exact ⟨0, (nI 8, A), rfl, g2, fun p hp => g3 p (by omega) hp⟩)
theorem md_keep_slips {M : mj_M} (hw : WT T) (hS : SR T 0 M S) : ∃ t1 s, mj_loop md_keep_l62 mj_F (0, M) = some (t1, s) ∧ (∀ a j, ¬ (a = 108 ∧ 16 ≤ j ∧ j < 22) → s.2 a j = M a j) ∧ ∀ p, p < T 0 0 → mj_I (s.2 108 (16 + p)) = S.2 1 p := by
  have hnp := hw.np
  refine lp_up (body := md_keep_l62) (s := (0, M)) (fun k s => s.1 = nI k ∧ (∀ a j, ¬ (a = 108 ∧ 16 ≤ j ∧ j < 22) → s.2 a j = M a j) ∧ ∀ p, p < k → p < T 0 0 → mj_I (s.2 108 (16 + p)) = S.2 1 p) (fun _ s => (∀ a j, ¬ (a = 108 ∧ 16 ≤ j ∧ j < 22) → s.2 a j = M a j) ∧ ∀ p, p < T 0 0 → mj_I (s.2 108 (16 + p)) = S.2 1 p) 6 (by decide) ⟨rfl, fun _ _ _ => rfl, fun p hp => absurd hp (Nat.not_lt_zero p)⟩
    (by
      intro k s hk ⟨g1, g2, g3⟩
      obtain ⟨x, A⟩ := s
      dsimp only at g1 g2 g3
      subst g1
      have x0 : (nI k < 0) = False := eq_false (nI_pos (by omega))
      have x1 : (12 ≤ k) = False := eq_false (by omega)
      have x3 : (nI k).toNatClampNeg = k := nI_clamp (by omega)
      have e8 : (16 : Int32) + nI k = nI (16 + k) := by rw [show (16 : Int32) = nI 16 from rfl, nI_add]
      have y0 : (nI (16 + k) < 0) = False := eq_false (nI_pos (by omega))
      have y2 : (23 ≤ 16 + k) = False := eq_false (by omega)
      have y3 : (nI (16 + k)).toNatClampNeg = 16 + k := nI_clamp (by omega)
      unfold md_keep_l62
      dsimp only
      rw [if_neg (show ¬ (6 : Int32) ≤ nI k from nI_ge (b := 6) (by omega) (by decide))]
      simp only [x0, x1, x3, e8, y0, y2, y3, or_self, if_false]
      refine ⟨_, rfl, (nI_succ _).symm, fun a j h => ?_, fun p hp hpp => ?_⟩
      · dsimp only
        rw [na_upN (by omega)]
        exact g2 a j h
      · dsimp only
        by_cases c : p = k
        · subst c
          have h3 := hS.slips p hpp
          rw [show 6 * 0 + p = p by omega] at h3
          rw [na_upS, g2 _ _ (by omega)]
          exact h3
        · rw [na_upN (by omega)]
          exact g3 p (by omega) hpp)
    (by
      intro s ⟨g1, g2, g3⟩
      obtain ⟨x, A⟩ := s
      dsimp only at g1 g2 g3
      subst g1
      exact ⟨0, (nI 6, A), rfl, g2, fun p hp => g3 p (by omega) hp⟩)
theorem q_keep (ht : t = 3 ∨ t = 17) (h : REL t m) : ∃ x m1 m2, bp_keep m = some (x, m1) ∧ md_keep m1 = some (x, m2) ∧ REL t m2 := by
  obtain ⟨T, S, n, us, I, E, B, F, hC, hR, hW⟩ := h
  have hw := hW.T
  have hnp := hw.np
  have hnw := hw.nw
  obtain ⟨c1, e1, s1, n1, f1⟩ := sa_copy_e (sp := 52) (sp2 := 42) (Or.inr (Or.inr rfl)) (Or.inl rfl) (by decide) hw hC.S
  have sc42 : SC T 42 c1 S := hC.S.cong (fun j _ => by rw [f1 42 (by omega)]) (fun i h1 h2 => f1 _ (by omega))
  generalize hc2 : mj_up c1 1 9 (.int 1) = c2
  have k2 : ∀ a j, ¬ (a = 1 ∧ j = 9) → c2 a j = c1 a j := fun a j h => by rw [← hc2, na_upN h]
  have k2r : ∀ a, a ≠ 1 → c2 a = c1 a := fun a h => funext fun j => k2 a j (by omega)
  have km : ∀ a j, ¬ (a = 1 ∧ j = 9) → (a < 52 ∨ 56 < a) → c2 a j = m a j := fun a j h1 h2 => by rw [k2 a j h1, f1 a (by omega)]
  generalize hr0 : mj_up (mj_up c2 68 2 (.int 0)) 68 77 (.int 1) = r0
  have kr0 : ∀ a j, ¬ (a = 68 ∧ (j = 2 ∨ j = 77)) → r0 a j = c2 a j := fun a j h => by rw [← hr0, na_upN (by omega), na_upN (by omega)]
  have sr0 : SR T 0 r0 S := hR.S.cong (fun k j h1 h2 => by rw [kr0 _ _ (by omega), km _ _ (by omega) (by omega)])
  obtain ⟨r1, p1, sn1, g1⟩ := md_put_e (uq := 107) (i := 0) hw sr0 hW.S (Or.inr rfl) (by decide) (by decide)
  have g1' : ∀ a j, a ≠ 107 → r1 a j = r0 a j := fun a j h => g1 a j (by omega)
  have p1 : md_put 107 0 r0 = some r1 := p1
  have sr1 : SR T 0 r1 S := sr0.cong (fun k j h1 h2 => g1' _ _ (by omega))
  obtain ⟨t2, ⟨x2, r2⟩, l2, g2, v2⟩ := md_keep_rows hw sr1
  dsimp only at g2 v2
  have sr2 : SR T 0 r2 S := sr1.cong (fun k j h1 h2 => g2 _ _ (by omega))
  obtain ⟨t3, ⟨x3, r3⟩, l3, g3, v3⟩ := md_keep_slips hw sr2
  dsimp only at g3 v3
  have sr3 : SR T 0 r3 S := sr2.cong (fun k j h1 h2 => g3 _ _ (by omega))
  have hh : mj_I (r3 100 0) = nI (S.1 0 0) := sr3.hour
  refine ⟨nI (S.1 0 0), c2, mj_up (mj_up r3 108 22 (.int (mj_I (r3 100 0)))) 68 80 (.long (mj_J (r3 68 60))), ?_, ?_, T, S, n, us, some (S, n), E, B, F, ?_, ?_, ?_⟩
  · unfold bp_keep
    rw [e1, Option.bind_some, hc2, sc42.hour]
  · unfold md_keep
    rw [hr0, p1, Option.bind_some, l2, Option.bind_some]
    dsimp only
    rw [l3, Option.bind_some]
    dsimp only
    rw [show ((0 : Int32)).toNatClampNeg = 0 from rfl, hh]
    rfl
  case _ =>
    generalize hf : mj_up (mj_up r3 108 22 (.int (mj_I (r3 100 0)))) 68 80 (.long (mj_J (r3 68 60))) = f
    have kf : ∀ a j, a < 68 → f a j = c2 a j := fun a j h => by rw [← hf, na_upN (by omega), na_upN (by omega), g3 _ _ (by omega), g2 _ _ (by omega), g1' _ _ (by omega), kr0 _ _ (by omega)]
    have kfr : ∀ a, a < 68 → f a = c2 a := fun a h => funext fun j => kf a j h
    refine hC.setS ht (fun k hk h1 => by rw [kfr k (by omega), k2r k h1, f1 k (by omega)]) (by rw [kf _ _ (by omega), k2 _ _ (by omega), f1 _ (by omega)]) (fun k h1 h2 => by rw [kfr k (by omega), k2r k (by omega), f1 k (by omega)]) ?_ ?_ ?_ ?_ ?_
    · exact sc42.cong (fun j _ => by rw [kfr 42 (by omega), k2r 42 (by omega)]) (fun i h1 h2 => by rw [kfr _ (by omega), k2r _ (by omega)])
    · rw [kf _ _ (by omega), km _ _ (by omega) (by omega)]; exact hC.num
    · rw [kf _ _ (by omega), km _ _ (by omega) (by omega)]; exact hC.uc
    · exact dvC_cong (fun k h1 h2 => by rw [kfr k (by omega), k2r k (by omega), f1 k (by omega)]) hC.us
    · refine ⟨?_, ?_, ?_⟩
      · rw [kf _ _ (by omega), ← hc2, na_upS]; rfl
      · exact s1.cong (fun j _ => by rw [kfr 52 (by omega), k2r 52 (by omega)]) (fun i h1 h2 => by rw [kfr _ (by omega), k2r _ (by omega)])
      · rw [kf _ _ (by omega), k2 _ _ (by omega), n1]; exact hC.num
  case _ =>
    generalize hf : mj_up (mj_up r3 108 22 (.int (mj_I (r3 100 0)))) 68 80 (.long (mj_J (r3 68 60))) = f
    have kf : ∀ a j, ¬ (a = 108 ∧ j = 22) → ¬ (a = 68 ∧ j = 80) → f a j = r3 a j := fun a j h1 h2 => by rw [← hf, na_upN h2, na_upN h1]
    have kz : ∀ a j, a ≠ 108 → a ≠ 107 → ¬ (a = 68 ∧ (j = 80 ∨ j = 2 ∨ j = 77)) → 68 ≤ a → f a j = m a j := fun a j h1 h2 h3 h4 => by rw [kf _ _ (by omega) (by omega), g3 _ _ (by omega), g2 _ _ (by omega), g1' _ _ (by omega), kr0 _ _ (by omega), km _ _ (by omega) (by omega)]
    refine hR.setS (fun a j h => kz a j (by unfold okS okq okl okc at h; omega) (by unfold okS okq okl okc at h; omega) (by unfold okS okq okl okc at h; omega) (by unfold okS okq okl okc at h; omega)) ?_ ?_ ?_ ?_ ?_
    · exact sr3.cong (fun k j h1 h2 => kf _ _ (by omega) (by omega))
    · rw [kz _ _ (by omega) (by omega) (by omega) (by omega)]; exact hR.num
    · rw [kz _ _ (by omega) (by omega) (by omega) (by omega)]; exact hR.uc
    · exact dvR_cong (funext fun j => kz _ _ (by omega) (by omega) (by omega) (by omega)) hR.us
    · refine ⟨?_, ?_, ?_, ?_, ?_, ?_⟩
      · rw [kf _ _ (by omega) (by omega), g3 _ _ (by omega), g2 _ _ (by omega), g1' _ _ (by omega), ← hr0, na_upS]; rfl
      · exact snap_cong (funext fun j => by rw [kf _ _ (by omega) (by omega), g3 _ _ (by omega), g2 _ _ (by omega)]) sn1
      · intro w hww
        rw [kf _ _ (by omega) (by omega), kf _ _ (by omega) (by omega), g3 _ _ (by omega), g3 _ _ (by omega)]
        exact v2 w hww
      · intro p hp
        rw [kf _ _ (by omega) (by omega)]
        exact v3 p hp
      · rw [← hf, na_upN (by omega), na_upS]; exact hh
      · rw [← hf, na_upS]
        show mj_J (r3 68 60) = lN n
        rw [g3 _ _ (by omega), g2 _ _ (by omega), g1' _ _ (by omega), kr0 _ _ (by omega), km _ _ (by omega) (by omega)]
        exact hR.num
  · exact hW.setS hW.S hW.nh hW.num hW.uc hW.us (fun A k h => by cases h; exact ⟨hW.S, hW.nh, hW.num⟩)
end SETS
