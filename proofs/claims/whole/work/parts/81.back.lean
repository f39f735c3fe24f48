/-! CALLS THAT CHANGE THE STATE, 2: the reference's take; back (own work) -/
section BACK
variable {t : Nat} {m : mj_M} {T : zT} {S u : zS} {H : Nat}
theorem take_l22 {uq i : Nat} (hw : WT T) (hS : snap T m uq i u) (hW : WS T H u) (hq : uq = 106 ∨ uq = 107) (hi : i + 14 ≤ mj_siz uq) (hz : mj_siz uq ≤ 5000) : ∃ t s, mj_loop (md_take_l22 uq (nI i)) mj_F (0, m) = some (t, s) ∧ (∀ a j, ¬ ((a = 96 ∨ a = 97) ∧ j < 6) → s.2 a j = m a j) ∧ ∀ p, p < T 0 0 → mj_I (s.2 96 p) = nI (u.1 2 p) ∧ mj_I (s.2 97 p) = nI (u.1 5 p) := by
  have hnp := hw.np
  refine lp_up (body := md_take_l22 uq (nI i)) (s := (0, m)) (fun k s => s.1 = nI k ∧ (∀ a j, ¬ ((a = 96 ∨ a = 97) ∧ j < 6) → s.2 a j = m a j) ∧ ∀ p, p < k → p < T 0 0 → mj_I (s.2 96 p) = nI (u.1 2 p) ∧ mj_I (s.2 97 p) = nI (u.1 5 p)) (fun _ s => (∀ a j, ¬ ((a = 96 ∨ a = 97) ∧ j < 6) → s.2 a j = m a j) ∧ ∀ p, p < T 0 0 → mj_I (s.2 96 p) = nI (u.1 2 p) ∧ mj_I (s.2 97 p) = nI (u.1 5 p)) 6 (by decide) ⟨rfl, fun _ _ _ => rfl, fun p hp => absurd hp (Nat.not_lt_zero p)⟩
    (by
      intro k s hk ⟨g1, g2, g3⟩
      obtain ⟨x, M⟩ := s
      dsimp only at g1 g2 g3
      subst g1
      have x0 : (nI k < 0) = False := eq_false (nI_pos (by omega))
      have x0' : (12 ≤ k) = False := eq_false (by omega)
      have x02 : (nI k).toNatClampNeg = k := nI_clamp (by omega)
      have e2 : nI i + 2 + nI k = nI (i + 2 + k) := by rw [show (2 : Int32) = nI 2 from rfl, nI_add, nI_add]
      have e8 : nI i + 8 + nI k = nI (i + 8 + k) := by rw [show (8 : Int32) = nI 8 from rfl, nI_add, nI_add]
      have y1 : (nI (i + 2 + k) < 0) = False := eq_false (nI_pos (by omega))
      have y1' : (mj_siz uq ≤ i + 2 + k) = False := eq_false (by omega)
      have y2 : (nI (i + 2 + k)).toNatClampNeg = i + 2 + k := nI_clamp (by omega)
      have w1 : (nI (i + 8 + k) < 0) = False := eq_false (nI_pos (by omega))
      have w1' : (mj_siz uq ≤ i + 8 + k) = False := eq_false (by omega)
      have w2 : (nI (i + 8 + k)).toNatClampNeg = i + 8 + k := nI_clamp (by omega)
      unfold md_take_l22 md_take_j63l22
      dsimp only
      rw [if_neg (show ¬ (6 : Int32) ≤ nI k from nI_ge (b := 6) (by omega) (by decide))]
      simp only [x0, x0', x02, e2, e8, y1, y1', y2, w1, w1', w2, or_self, if_false]
      have cM : ∀ j, M uq j = m uq j := fun j => g2 _ _ (by omega)
      have key : ∀ b : Int32, (k < T 0 0 → b = nI (u.1 5 k)) → ∃ s1, some (0, (nI k + 1, mj_up (mj_up M 96 k (.int (mj_I (M uq (i + 2 + k))))) 97 k (.int b))) = some (0, s1) ∧ s1.1 = nI (k + 1) ∧ (∀ a j, ¬ ((a = 96 ∨ a = 97) ∧ j < 6) → s1.2 a j = m a j) ∧ ∀ p, p < k + 1 → p < T 0 0 → mj_I (s1.2 96 p) = nI (u.1 2 p) ∧ mj_I (s1.2 97 p) = nI (u.1 5 p) := by
        intro b hb
        refine ⟨_, rfl, (nI_succ _).symm, fun a j h => ?_, fun p hp hpp => ?_⟩
        · dsimp only
          rw [na_upN (by omega), na_upN (by omega)]
          exact g2 a j h
        · dsimp only
          by_cases c : p = k
          · subst c
            rw [na_upN (by omega), na_upS, na_upS, cM]
            exact ⟨(hS.2.2 p hpp).1, hb hpp⟩
          · rw [na_upN (by omega), na_upN (by omega), na_upN (by omega), na_upN (by omega)]
            exact g3 p (by omega) hpp
      have h7 : k < T 0 0 → mj_I (M uq (i + 8 + k)) = nI (u.1 5 k) ∧ u.1 5 k ≤ 1 := fun h => by
        rw [cM]
        exact ⟨(hS.2.2 k h).2, hW.here k h⟩
      by_cases c : mj_I (M uq (i + 8 + k)) = 1
      · rw [if_pos c]
        refine key (1 &&& 1) (fun h => ?_)
        rw [← (h7 h).1, c]
        rfl
      · rw [if_neg c]
        refine key (0 &&& 1) (fun h => ?_)
        have h8 := h7 h
        have : u.1 5 k = 0 := by
          have : u.1 5 k ≠ 1 := fun z => c (by rw [h8.1, z]; rfl)
          omega
        rw [this]
        rfl)
    (by
      intro s ⟨g1, g2, g3⟩
      obtain ⟨x, M⟩ := s
      dsimp only at g1 g2 g3
      subst g1
      exact ⟨0, (nI 6, M), rfl, g2, fun p hp => g3 p (by omega) hp⟩)
theorem md_take_e {uq i : Nat} (hw : WT T) (hS : snap T m uq i u) (hW : WS T H u) (hq : uq = 106 ∨ uq = 107) (hi : i + 14 ≤ mj_siz uq) (hz : mj_siz uq ≤ 5000) : ∃ m1, md_take uq (nI i) m = some m1 ∧ (∀ a j, ¬ ((a = 96 ∨ a = 97) ∧ j < 6) → ¬ ((a = 98 ∨ a = 99) ∧ j = 0) → m1 a j = m a j) ∧ mj_I (m1 99 0) = u.2 0 2 ∧ mj_I (m1 98 0) = nI (u.1 0 1) ∧ ∀ p, p < T 0 0 → mj_I (m1 96 p) = nI (u.1 2 p) ∧ mj_I (m1 97 p) = nI (u.1 5 p) := by
  have x0 : (nI i < 0) = False := eq_false (nI_pos (by omega))
  have x0' : (mj_siz uq ≤ i) = False := eq_false (by omega)
  have x02 : (nI i).toNatClampNeg = i := nI_clamp (by omega)
  have e1 : nI i + 1 = nI (i + 1) := nI_add _ 1
  have y1 : (nI (i + 1) < 0) = False := eq_false (nI_pos (by omega))
  have y1' : (mj_siz uq ≤ i + 1) = False := eq_false (by omega)
  have y2 : (nI (i + 1)).toNatClampNeg = i + 1 := nI_clamp (by omega)
  have t0 : ((0 : Int32)).toNatClampNeg = 0 := rfl
  unfold md_take
  simp only [e1, x0, x0', x02, y1, y1', y2, t0, or_self, if_false]
  have hS2 : snap T (mj_up (mj_up m 99 0 (.int (mj_I (m uq i)))) 98 0 (.int (mj_I (m uq (i + 1))))) uq i u := snap_cong (funext fun j => by rw [na_upN (by omega), na_upN (by omega)]) hS
  obtain ⟨tt, s, e, q1, q2⟩ := take_l22 hw hS2 hW hq hi hz
  rw [e, Option.bind_some]
  refine ⟨_, rfl, fun a j h1 h2 => ?_, ?_, ?_, q2⟩
  · rw [q1 _ _ (by omega), na_upN (by omega), na_upN (by omega)]
  · rw [q1 _ _ (by omega), na_upN (by omega), na_upS]
    exact hS.1
  · rw [q1 _ _ (by omega), na_upS]
    exact hS.2.1
variable {n : Nat} {us : List zS} {I : Option (zS × Nat)} {E : zE} {B : zB} {F : Int32 × Int32}
theorem md_back_rows {M : mj_M} (hw : WT T) (hv : ∀ w, w < T 0 5 → mj_I (M 108 w) = nI (u.1 3 w) ∧ mj_I (M 108 (8 + w)) = u.2 4 w) : ∃ t1 s, mj_loop md_back_l25 mj_F (0, M) = some (t1, s) ∧ (∀ a j, ¬ ((a = 93 ∨ a = 94) ∧ j < 8) → s.2 a j = M a j) ∧ ∀ w, w < T 0 5 → mj_I (s.2 93 w) = nI (u.1 3 w) ∧ mj_I (s.2 94 w) = u.2 4 w := by
  have hnw := hw.nw
  refine lp_up (body := md_back_l25) (s := (0, M)) (fun k s => s.1 = nI k ∧ (∀ a j, ¬ ((a = 93 ∨ a = 94) ∧ j < 8) → s.2 a j = M a j) ∧ ∀ w, w < k → w < T 0 5 → mj_I (s.2 93 w) = nI (u.1 3 w) ∧ mj_I (s.2 94 w) = u.2 4 w) (fun _ s => (∀ a j, ¬ ((a = 93 ∨ a = 94) ∧ j < 8) → s.2 a j = M a j) ∧ ∀ w, w < T 0 5 → mj_I (s.2 93 w) = nI (u.1 3 w) ∧ mj_I (s.2 94 w) = u.2 4 w) 8 (by decide) ⟨rfl, fun _ _ _ => rfl, fun p hp => absurd hp (Nat.not_lt_zero p)⟩
    (by
      intro k s hk ⟨g1, g2, g3⟩
      obtain ⟨x, A⟩ := s
      dsimp only at g1 g2 g3
      subst g1
      have x0 : (nI k < 0) = False := eq_false (nI_pos (by omega))
      have x1 : (16 ≤ k) = False := eq_false (by omega)
      have x2 : (23 ≤ k) = False := eq_false (by omega)
      have x3 : (nI k).toNatClampNeg = k := nI_clamp (by omega)
      have e8 : (8 : Int32) + nI k = nI (8 + k) := by rw [show (8 : Int32) = nI 8 from rfl, nI_add]
      have y0 : (nI (8 + k) < 0) = False := eq_false (nI_pos (by omega))
      have y2 : (23 ≤ 8 + k) = False := eq_false (by omega)
      have y3 : (nI (8 + k)).toNatClampNeg = 8 + k := nI_clamp (by omega)
      unfold md_back_l25
      dsimp only
      rw [if_neg (show ¬ (8 : Int32) ≤ nI k from nI_ge (b := 8) (by omega) (by decide))]
      simp only [x0, x1, x2, x3, e8, y0, y2, y3, or_self, if_false]
      refine ⟨_, rfl, (nI_succ _).symm, fun a j h => ?_, fun p hp hpp => ?_⟩
      · dsimp only
        rw [na_upN (by omega), na_upN (by omega)]
        exact g2 a j h
      · dsimp only
        by_cases c : p = k
        · subst c
          rw [na_upN (by omega), na_upS, na_upS, g2 _ _ (by omega), g2 _ _ (by omega)]
          exact hv p hpp
        · rw [na_upN (by omega), na_upN (by omega), na_upN (by omega), na_upN (by omega)]
          exact g3 p (by omega) hpp)
    (by
      intro s ⟨g1, g2, g3⟩
      obtain ⟨x, A⟩ := s
      dsimp only at g1 g2 g3
      subst g1
      exact ⟨0, (nI 8, A), rfl, g2, fun p hp => g3 p (by omega) hp⟩)
theorem md_back_slips {M : mj_M} (hw : WT T) (hv : ∀ p, p < T 0 0 → mj_I (M 108 (16 + p)) = u.2 1 p) : ∃ t1 s, mj_loop md_back_l66 mj_F (0, M) = some (t1, s) ∧ (∀ a j, ¬ (a = 95 ∧ j < 6) → s.2 a j = M a j) ∧ ∀ p, p < T 0 0 → mj_I (s.2 95 p) = u.2 1 p := by
  have hnp := hw.np
  refine lp_up (body := md_back_l66) (s := (0, M)) (fun k s => s.1 = nI k ∧ (∀ a j, ¬ (a = 95 ∧ j < 6) → s.2 a j = M a j) ∧ ∀ p, p < k → p < T 0 0 → mj_I (s.2 95 p) = u.2 1 p) (fun _ s => (∀ a j, ¬ (a = 95 ∧ j < 6) → s.2 a j = M a j) ∧ ∀ p, p < T 0 0 → mj_I (s.2 95 p) = u.2 1 p) 6 (by decide) ⟨rfl, fun _ _ _ => rfl, fun p hp => absurd hp (Nat.not_lt_zero p)⟩
    (by
      intro k s hk ⟨g1, g2, g3⟩
      obtain ⟨x, A⟩ := s
      dsimp only at g1 g2 g3
      subst g1
      have x0 : (nI k < 0) = False := eq_false (nI_pos (by omega))
      have x1 : (12 ≤ k) = False := eq_false (by omega)
      have x3 : (nI k).toNatClampNeg = k := nI_clamp (by omega)
      have e8 : (16 : Int32) + nI k = nI (16 + k) := by rw [show (16 : Int32) = nI 16 from rfl, nI_add]
      have y0 : (nI (16 + k) < 0) = False := eq_false (nI_pos (by omega))
      have y2 : (23 ≤ 16 + k) = False := eq_false (by omega)
      have y3 : (nI (16 + k)).toNatClampNeg = 16 + k := nI_clamp (by omega)
      unfold md_back_l66
      dsimp only
      rw [if_neg (show ¬ (6 : Int32) ≤ nI k from nI_ge (b := 6) (by omega) (by decide))]
      simp only [x0, x1, x3, e8, y0, y2, y3, or_self, if_false]
      refine ⟨_, rfl, (nI_succ _).symm, fun a j h => ?_, fun p hp hpp => ?_⟩
      · dsimp only
        rw [na_upN (by omega)]
        exact g2 a j h
      · dsimp only
        by_cases c : p = k
        · subst c
          rw [na_upS, g2 _ _ (by omega)]
          exact hv p hpp
        · rw [na_upN (by omega)]
          exact g3 p (by omega) hpp)
    (by
      intro s ⟨g1, g2, g3⟩
      obtain ⟨x, A⟩ := s
      dsimp only at g1 g2 g3
      subst g1
      exact ⟨0, (nI 6, A), rfl, g2, fun p hp => g3 p (by omega) hp⟩)
theorem q_back (ht : t = 3 ∨ t = 17) (h : REL t m) : ∃ x m1 m2, bp_back m = some (x, m1) ∧ md_back m1 = some (x, m2) ∧ REL t m2 := by
  obtain ⟨T, S, n, us, I, E, B, F, hC, hR, hW⟩ := h
  have hw := hW.T
  have hnp := hw.np
  have hnw := hw.nw
  unfold bp_back md_back
  cases I with
  | none =>
    have a1 : mj_I (m 1 9) = 0 := hC.im
    have a2 : mj_I (m 68 77) = 0 := hR.im
    exact ⟨-1, m, mj_up m 68 2 (.int 0), by rw [if_pos a1], by rw [if_pos a2], REL_Q ht ⟨T, S, n, us, none, E, B, F, hC, hR, hW⟩ frQ_2⟩
  | some q =>
  obtain ⟨A, k⟩ := q
  have hiC := hC.im
  have hiR := hR.im
  obtain ⟨wA, nA, kA⟩ := hW.im A k rfl
  have a1 : ¬ mj_I (m 1 9) = 0 := by rw [hiC.1]; decide
  obtain ⟨c1, e1, s1, n1, f1⟩ := sa_copy_e (sp := 42) (sp2 := 52) (Or.inl rfl) (Or.inr (Or.inr rfl)) (by decide) hw hiC.2.1
  generalize hc2 : mj_up c1 57 0 (.int 0) = c2
  have k2 : ∀ a j, ¬ (a = 57 ∧ j = 0) → c2 a j = c1 a j := fun a j h => by rw [← hc2, na_upN h]
  have k2r : ∀ a, a ≠ 57 → c2 a = c1 a := fun a h => funext fun j => k2 a j (by omega)
  have km : ∀ a j, ¬ (a = 57 ∧ j = 0) → (a < 42 ∨ 46 < a) → c2 a j = m a j := fun a j h1 h2 => by rw [k2 a j h1, f1 a (by omega)]
  have a2 : ¬ mj_I (c2 68 77) = 0 := by rw [km _ _ (by omega) (by omega), hiR.1]; decide
  generalize hr0 : mj_up c2 68 2 (.int 0) = r0
  have kr0 : ∀ a j, ¬ (a = 68 ∧ j = 2) → r0 a j = c2 a j := fun a j h => by rw [← hr0, na_upN (by omega)]
  have sn0 : snap T r0 107 0 A := snap_cong (funext fun j => by rw [kr0 _ _ (by omega), km _ _ (by omega) (by omega)]) hiR.2.1
  obtain ⟨r1, p1, g1, v99, v98, v9⟩ := md_take_e (uq := 107) (i := 0) hw sn0 wA (Or.inr rfl) (by decide) (by decide)
  have p1 : md_take 107 0 r0 = some r1 := p1
  obtain ⟨t2, ⟨x2, r2⟩, l2, g2, v2⟩ := md_back_rows (M := r1) (u := A) hw (fun w hww => by
    rw [g1 _ _ (by omega) (by omega), g1 _ _ (by omega) (by omega), kr0 _ _ (by omega), kr0 _ _ (by omega), km _ _ (by omega) (by omega), km _ _ (by omega) (by omega)]
    exact hiR.2.2.1 w hww)
  dsimp only at g2 v2
  obtain ⟨t3, ⟨x3, r3⟩, l3, g3, v3⟩ := md_back_slips (M := r2) (u := A) hw (fun p hp => by
    rw [g2 _ _ (by omega), g1 _ _ (by omega) (by omega), kr0 _ _ (by omega), km _ _ (by omega) (by omega)]
    exact hiR.2.2.2.1 p hp)
  dsimp only at g3 v3
  have c3 : ∀ a j, ¬ ((a = 96 ∨ a = 97) ∧ j < 6) → ¬ ((a = 98 ∨ a = 99) ∧ j = 0) → ¬ ((a = 93 ∨ a = 94) ∧ j < 8) → ¬ (a = 95 ∧ j < 6) → ¬ (a = 68 ∧ j = 2) → r3 a j = c2 a j := fun a j h1 h2 h3 h4 h5 => by rw [g3 _ _ h4, g2 _ _ h3, g1 _ _ h1 h2, kr0 _ _ h5]
  have b22 : mj_I (r3 108 22) = nI (A.1 0 0) := by rw [c3 _ _ (by omega) (by omega) (by omega) (by omega) (by omega), km _ _ (by omega) (by omega)]; exact hiR.2.2.2.2.1
  have b80 : mj_J (r3 68 80) = lN k := by rw [c3 _ _ (by omega) (by omega) (by omega) (by omega) (by omega), km _ _ (by omega) (by omega)]; exact hiR.2.2.2.2.2
  refine ⟨nI (A.1 0 0), c2, mj_up (mj_up (mj_up r3 100 0 (.int (nI (A.1 0 0)))) 68 60 (.long (lN k))) 68 75 (.int 0), ?_, ?_, T, A, k, [], some (A, k), E, B, F, ?_, ?_, ?_⟩
  · rw [if_neg a1, e1, Option.bind_some]
    unfold de_forget
    rw [Option.bind_some, hc2, k2 _ _ (by omega), s1.hour]
  · rw [if_neg a2, hr0, p1, Option.bind_some, l2, Option.bind_some]
    dsimp only
    rw [l3, Option.bind_some]
    dsimp only
    rw [show ((0 : Int32)).toNatClampNeg = 0 from rfl, show ((22 : Int32)).toNatClampNeg = 22 from rfl, b22]
    rw [b80]
  case _ =>
    generalize hf : mj_up (mj_up (mj_up r3 100 0 (.int (nI (A.1 0 0)))) 68 60 (.long (lN k))) 68 75 (.int 0) = f
    have kf : ∀ a j, a < 68 → f a j = c2 a j := fun a j h => by rw [← hf, na_upN (by omega), na_upN (by omega), na_upN (by omega), c3 _ _ (by omega) (by omega) (by omega) (by omega) (by omega)]
    have kfr : ∀ a, a < 68 → f a = c2 a := fun a h => funext fun j => kf a j h
    refine hC.setS ht (fun k hk h1 => by rw [kfr k (by omega), k2r k (by omega), f1 k (by omega)]) (by rw [kf _ _ (by omega), k2 _ _ (by omega), f1 _ (by omega)]) (fun k h1 h2 => by rw [kfr k (by omega), k2r k (by omega), f1 k (by omega)]) ?_ ?_ ?_ trivial ?_
    · exact s1.cong (fun j _ => by rw [kfr 42 (by omega), k2r 42 (by omega)]) (fun i h1 h2 => by rw [kfr _ (by omega), k2r _ (by omega)])
    · rw [kf _ _ (by omega), k2 _ _ (by omega), n1]; exact hiC.2.2
    · rw [kf _ _ (by omega), ← hc2, na_upS]; rfl
    · exact imC_cong hiC (by rw [kf _ _ (by omega), k2 _ _ (by omega), f1 _ (by omega)]) (fun i h1 h2 => by rw [kfr _ (by omega), k2r _ (by omega), f1 _ (by omega)])
  case _ =>
    generalize hf : mj_up (mj_up (mj_up r3 100 0 (.int (nI (A.1 0 0)))) 68 60 (.long (lN k))) 68 75 (.int 0) = f
    have kf : ∀ a j, ¬ (a = 100 ∧ j = 0) → ¬ (a = 68 ∧ (j = 60 ∨ j = 75)) → f a j = r3 a j := fun a j h1 h2 => by rw [← hf, na_upN (by omega), na_upN (by omega), na_upN h1]
    have kz : ∀ a j, ¬ (93 ≤ a ∧ a ≤ 100) → ¬ (a = 68 ∧ (j = 60 ∨ j = 75 ∨ j = 2)) → 68 ≤ a → f a j = m a j := fun a j h1 h2 h3 => by rw [kf _ _ (by omega) (by omega), c3 _ _ (by omega) (by omega) (by omega) (by omega) (by omega), km _ _ (by omega) (by omega)]
    refine hR.setS (fun a j h => kz a j (by unfold okS okq okl okc at h; omega) (by unfold okS okq okl okc at h; omega) (by unfold okS okq okl okc at h; omega)) ?_ ?_ ?_ trivial ?_
    · refine ⟨?_, ?_, ?_, ?_, ?_, ?_, ?_, ?_⟩
      · rw [← hf, na_upN (by omega), na_upN (by omega), na_upS]; rfl
      · rw [kf _ _ (by omega) (by omega), g3 _ _ (by omega), g2 _ _ (by omega)]; exact v98
      · rw [kf _ _ (by omega) (by omega), g3 _ _ (by omega), g2 _ _ (by omega)]; exact v99
      · intro p hp; rw [show 6 * 0 + p = p by omega, kf _ _ (by omega) (by omega), g3 _ _ (by omega), g2 _ _ (by omega)]; exact (v9 p hp).2
      · intro p hp; rw [show 6 * 0 + p = p by omega, kf _ _ (by omega) (by omega)]; exact v3 p hp
      · intro p hp; rw [show 6 * 0 + p = p by omega, kf _ _ (by omega) (by omega), g3 _ _ (by omega), g2 _ _ (by omega)]; exact (v9 p hp).1
      · intro w hww; rw [show 8 * 0 + w = w by omega, kf _ _ (by omega) (by omega), g3 _ _ (by omega)]; exact (v2 w hww).1
      · intro w hww; rw [show 8 * 0 + w = w by omega, kf _ _ (by omega) (by omega), g3 _ _ (by omega)]; exact (v2 w hww).2
    · rw [← hf, na_upN (by omega), na_upS]; rfl
    · rw [← hf, na_upS]; rfl
    · refine ⟨?_, snap_cong (funext fun j => kz _ _ (by omega) (by omega) (by omega)) hiR.2.1, ?_, ?_, ?_, ?_⟩
      · rw [kz _ _ (by omega) (by omega) (by omega)]; exact hiR.1
      · intro w hww; rw [kz _ _ (by omega) (by omega) (by omega), kz _ _ (by omega) (by omega) (by omega)]; exact hiR.2.2.1 w hww
      · intro p hp; rw [kz _ _ (by omega) (by omega) (by omega)]; exact hiR.2.2.2.1 p hp
      · rw [kz _ _ (by omega) (by omega) (by omega)]; exact hiR.2.2.2.2.1
      · rw [kz _ _ (by omega) (by omega) (by omega)]; exact hiR.2.2.2.2.2
  · exact hW.setS wA nA kA (by decide) (fun u h => by simp at h) hW.im
end BACK
