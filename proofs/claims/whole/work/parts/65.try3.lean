/-! CALLS THAT TRY, 3: firstSlip, off (own work) -/
theorem aSl_lt {T : zT} {S : zS} {n k : Nat} (hw : WT T) : aSl T S n k < 64 ∧ aWk T S n k < 64 := sWk_bits hw (T 0 5) (Nat.le_refl _)
theorem fst_un {D : Nat → Prop} {k i : Nat} (k2 : D k) (k3 : ∀ j, j < k → ¬ D j) (i2 : D i) (i3 : ∀ j, j < i → ¬ D j) : k = i := by
  rcases Nat.lt_trichotomy k i with h | h | h
  · exact absurd k2 (i3 k h)
  · exact h
  · exact absurd i2 (k3 i h)
theorem isIn_n {v : Int32} {a b : Nat} (hb : b < 2 ^ 31) (hab : a ≤ b) (h1 : ¬ v < nI a) (h2 : ¬ nI b < v) : ∃ x, a ≤ x ∧ x ≤ b ∧ v = nI x := by
  rw [na_ltI, nI_toInt (by omega)] at h1
  rw [na_ltI, nI_toInt hb] at h2
  refine ⟨v.toInt.toNat, by omega, by omega, ?_⟩
  apply Int32.toInt_inj.mp
  rw [nI_toInt (by omega)]
  omega
section TRY3
variable {t : Nat} {m : mj_M} {T : zT} {S : zS} {n : Nat} {us : List zS} {I : Option (zS × Nat)} {E : zE} {B : zB} {F : Int32 × Int32}
theorem q_firstSlip (ht : t = 3 ∨ t = 17) (hC : CV t m T S n us I E B F) (hR : RV m T S n us I E B F) (hW : WV T S n us I E B F) {h v : Int32} : ∃ x m1 m2, bp_firstSlip t h v m = some (x, m1) ∧ frT m m1 ∧ md_firstSlip h v m1 = some (x, m2) ∧ frQ m1 m2 := by
  have i1 : ∀ M, md_isIn h 1 200 M = if h < 1 then 0 else if 200 < h then 0 else 1 := fun _ => rfl
  have i2 : ∀ M, md_isIn v 0 1 M = if v < 0 then 0 else if 1 < v then 0 else 1 := fun _ => rfl
  unfold bp_firstSlip md_firstSlip
  by_cases c : h < 1
  · exact ⟨_, m, _, by rw [if_pos c], frT_rfl, by rw [i1, if_pos c, if_pos rfl], frQ_2⟩
  by_cases c' : 200 < h
  · exact ⟨_, m, _, by rw [if_neg c, if_pos c'], frT_rfl, by rw [i1, if_neg c, if_pos c', if_pos rfl], frQ_2⟩
  by_cases d : v < 0
  · exact ⟨_, m, _, by rw [if_neg c, if_neg c', if_pos d], frT_rfl, by rw [i1, if_neg c, if_neg c', if_neg not01, i2, if_pos d, if_pos rfl], frQ_2⟩
  by_cases d' : v ≤ 1
  case neg =>
    have d2 : (1 : Int32) < v := by rw [na_ltI]; rw [na_leI] at d'; omega
    exact ⟨_, m, _, by rw [if_neg c, if_neg c', if_neg d, if_neg d'], frT_rfl, by rw [i1, if_neg c, if_neg c', if_neg not01, i2, if_neg d, if_pos d2, if_pos rfl], frQ_2⟩
  have d2 : ¬ (1 : Int32) < v := by rw [na_ltI]; rw [na_leI] at d'; omega
  obtain ⟨a, ha1, ha, rfl⟩ := isIn_n (v := h) (a := 1) (b := 200) (by decide) (by decide) c c'
  obtain ⟨m1, e1, k1⟩ := try_C hC hW
  rw [if_neg c, if_neg c', if_neg d, if_pos d', e1, Option.bind_some]
  have z : ∀ k, (nI (aSl T S n k) = 0 ↔ aSl T S n k = 0) := fun k => by
    have := (aSl_lt (S := S) (n := n) (k := k) hW.T).1
    exact nI_eq (b := 0) (by omega) (by decide)
  obtain ⟨ta, sa, e2, ⟨R, k2⟩, q2⟩ := lp_ex (body := bp_firstSlip_l36 t (nI a) v) (s := (1, m1)) (fun i s => s.1 = nI (i + 1) ∧ KC T n m s.2 (aH T S n i) ∧ ∀ j, j < i → ¬ aSl T S n j ≠ 0) (fun b s => (∃ R, KC T n m s.2 R) ∧ ((b = 0 ∧ ∃ k, k < a ∧ aSl T S n k ≠ 0 ∧ (∀ j, j < k → ¬ aSl T S n j ≠ 0) ∧ s.1 = nI (k + 1) ∧ mj_I (s.2 47 10) = nI (aSl T S n k)) ∨ (b = 1 ∧ ∀ j, j < a → ¬ aSl T S n j ≠ 0))) a (by unfold mj_F; omega) ⟨rfl, k1, fun j hj => absurd hj (Nat.not_lt_zero j)⟩
    (by
      intro i s hi ⟨g1, g2, g3⟩
      obtain ⟨x, M⟩ := s
      dsimp only at g1 g2
      subst g1
      obtain ⟨M1, p1, p2, p3, _⟩ := step_C ht hC hW g2 (aH_WS hW.T hW.S i) (by omega)
      have p3 : mj_I (M1 47 10) = nI (aSl T S n i) := p3
      unfold bp_firstSlip_l36
      dsimp only
      rw [if_neg (nI_nlt (by omega) (by omega)), p1, Option.bind_some, p3]
      simp only [z i]
      by_cases c : aSl T S n i = 0
      · rw [if_pos c]
        refine Or.inl ⟨_, rfl, (nI_succ _).symm, by rw [aH_succ]; exact p2, fun j hj => ?_⟩
        by_cases e : j = i
        · rw [e]; exact fun z => z c
        · exact g3 j (by omega)
      · rw [if_neg c]
        exact Or.inr ⟨0, _, rfl, ⟨_, p2⟩, Or.inl ⟨rfl, i, hi, c, g3, rfl, p3⟩⟩)
    (by
      intro s ⟨g1, g2, g3⟩
      obtain ⟨x, M⟩ := s
      dsimp only at g1 g2
      subst g1
      refine ⟨1, (nI (a + 1), M), ?_, ⟨_, g2⟩, Or.inr ⟨rfl, g3⟩⟩
      unfold bp_firstSlip_l36
      dsimp only
      rw [if_pos (nI_lt (by omega) (by omega))])
  rw [e2, Option.bind_some]
  dsimp only
  have hR2 := RV_T hR hW.T k2.1
  obtain ⟨M0, e3, k3⟩ := try_R hR2 hW
  obtain ⟨tb, sb, e4, ⟨R', k4⟩, q4⟩ := lp_ex (body := md_firstSlip_l33 (nI a) v) (s := (1, M0)) (fun i s => s.1 = nI (i + 1) ∧ KR T n sa.2 s.2 (aH T S n i) ∧ ∀ j, j < i → ¬ aSl T S n j ≠ 0) (fun b s => (∃ R, KR T n sa.2 s.2 R) ∧ ((b = 0 ∧ ∃ k, k < a ∧ aSl T S n k ≠ 0 ∧ (∀ j, j < k → ¬ aSl T S n j ≠ 0) ∧ s.1 = nI (k + 1) ∧ mj_I (s.2 68 62) = nI (aSl T S n k)) ∨ (b = 1 ∧ ∀ j, j < a → ¬ aSl T S n j ≠ 0))) a (by unfold mj_F; omega) ⟨rfl, k3, fun j hj => absurd hj (Nat.not_lt_zero j)⟩
    (by
      intro i s hi ⟨g1, g2, g3⟩
      obtain ⟨x, M⟩ := s
      dsimp only at g1 g2
      subst g1
      obtain ⟨M1, p1, p2, p3, _⟩ := step_R hR2 hW g2 (aH_WS hW.T hW.S i) (by omega)
      have p3 : mj_I (M1 68 62) = nI (aSl T S n i) := p3
      unfold md_firstSlip_l33
      dsimp only
      rw [if_neg (nI_nlt (by omega) (by omega)), p1, Option.bind_some, p3]
      simp only [z i]
      by_cases c : aSl T S n i = 0
      · rw [if_pos c]
        refine Or.inl ⟨_, rfl, (nI_succ _).symm, by rw [aH_succ]; exact p2, fun j hj => ?_⟩
        by_cases e : j = i
        · rw [e]; exact fun z => z c
        · exact g3 j (by omega)
      · rw [if_neg c]
        exact Or.inr ⟨0, _, rfl, ⟨_, p2⟩, Or.inl ⟨rfl, i, hi, c, g3, rfl, p3⟩⟩)
    (by
      intro s ⟨g1, g2, g3⟩
      obtain ⟨x, M⟩ := s
      dsimp only at g1 g2
      subst g1
      refine ⟨1, (nI (a + 1), M), ?_, ⟨_, g2⟩, Or.inr ⟨rfl, g3⟩⟩
      unfold md_firstSlip_l33
      dsimp only
      rw [if_pos (nI_lt (by omega) (by omega))])
  have pre : ∀ {α : Type} (x y : α), (if md_isIn (nI a) 1 200 (mj_up sa.2 68 2 (.int 0)) = 0 then x else if md_isIn v 0 1 (mj_up sa.2 68 2 (.int 0)) = 0 then x else y) = y := fun x y => by rw [i1, if_neg c, if_neg c', if_neg not01, i2, if_neg d, if_neg d2, if_neg not01]
  rcases q2 with ⟨rfl, k, hk, k5, k6, k7, k8⟩ | ⟨rfl, kn⟩
  · rcases q4 with ⟨rfl, i, hi, i5, i6, i7, i8⟩ | ⟨rfl, nn⟩
    · have ek := fst_un (D := fun j => aSl T S n j ≠ 0) k5 k6 i5 i6
      subst ek
      have hl := (aSl_lt (S := S) (n := n) (k := k) hW.T).1
      obtain ⟨p, p1, p2, p3⟩ := bit6 _ hl k5
      have e5 : mj_loop (md_firstSlip_l56 v sb.1) mj_F (0, sb.2) = some (0, (nI p, sb.2)) := by
        refine lp_eq (fun j => (nI j, sb.2)) p (by unfold mj_F; omega) (fun j hj => ?_) ?_
        · unfold md_firstSlip_l56
          dsimp only
          rw [i8, na_md_isOf (by omega) (by omega), p3 j hj, if_pos eF, ← nI_succ]
        · unfold md_firstSlip_l56
          dsimp only
          rw [i8, na_md_isOf (by omega) (by omega), p2, if_neg eT]
      have e6 : ig_numberOfTrailingZeros (mj_I (sa.2 47 10)) sa.2 = nI p := by
        rw [k8]
        exact ntz_e _ hl p p1 p2 p3
      rw [if_pos rfl]
      by_cases v0 : v = 0
      · refine ⟨nI (k + 1), sa.2, sb.2, by rw [if_pos v0, k7], k2.1, ?_, k4.1⟩
        rw [pre, e3, Option.bind_some, e4, Option.bind_some, if_pos rfl, e5, Option.bind_some, if_pos v0, i7]
      · refine ⟨nI p, sa.2, sb.2, by rw [if_neg v0, e6], k2.1, ?_, k4.1⟩
        rw [pre, e3, Option.bind_some, e4, Option.bind_some, if_pos rfl, e5, Option.bind_some, if_neg v0]
    · exact absurd k5 (nn k hk)
  · rcases q4 with ⟨rfl, i, hi, i5, i6, i7, i8⟩ | ⟨rfl, nn⟩
    · exact absurd i5 (kn i hi)
    · refine ⟨-2, sa.2, sb.2, by rw [if_neg (by decide)], k2.1, ?_, k4.1⟩
      rw [pre, e3, Option.bind_some, e4, Option.bind_some, if_neg (show ¬ (1 : Nat) = 0 by decide)]
theorem aWk_bit {R : zS} {be p : Nat} (hw : WT T) (hp : p < 6) : ∀ i, i ≤ T 0 5 → ((sWk T R be i).2.2.testBit p = true ↔ ∃ w, w < i ∧ sOn T R be w = true ∧ T 6 w = p) := by
  intro i
  induction i with
  | zero => intro _; exact ⟨fun h => by simp [sWk] at h, fun ⟨w, h, _⟩ => absurd h (Nat.not_lt_zero w)⟩
  | succ i ih =>
    intro hi
    rw [sWk_succ]
    by_cases c : sOn T R be i = true
    · rw [if_pos c]
      show ((sWk T R be i).2.2 ||| 2 ^ T 6 i).testBit p = true ↔ _
      rw [na_set_bit, Bool.or_eq_true, ih (by omega), decide_eq_true_eq]
      constructor
      · rintro (⟨w, a1, a2, a3⟩ | h)
        · exact ⟨w, by omega, a2, a3⟩
        · exact ⟨i, by omega, c, h⟩
      · rintro ⟨w, a1, a2, a3⟩
        by_cases e : w = i
        · subst e; exact Or.inr a3
        · exact Or.inl ⟨w, by omega, a2, a3⟩
    · rw [if_neg c, ih (by omega)]
      constructor
      · rintro ⟨w, a1, a2, a3⟩; exact ⟨w, by omega, a2, a3⟩
      · rintro ⟨w, a1, a2, a3⟩
        refine ⟨w, ?_, a2, a3⟩
        have : w ≠ i := fun e => c (by rw [← e]; exact a2)
        omega
theorem and_ne {x y : Nat} (h : x &&& y ≠ 0) : ∃ i, x.testBit i = true ∧ y.testBit i = true := by
  apply Classical.byContradiction
  intro hn
  apply h
  apply Nat.eq_of_testBit_eq
  intro i
  rw [Nat.zero_testBit, Nat.testBit_and]
  cases a : x.testBit i with
  | false => rfl
  | true =>
    cases b : y.testBit i with
    | false => rfl
    | true => exact absurd ⟨i, a, b⟩ hn
theorem to_worksOf_e {p : Nat} (ht : t = 3 ∨ t = 17) (hT : TC t m T) (hw : WT T) (hp : p < T 0 0) : to_worksOf t (nI p) m = some (nI (bz (fun w => decide (T 6 w = p)) (T 0 5))) := by
  have hnw := hw.nw
  have hnp := hw.np
  unfold to_worksOf
  have e : mj_loop (to_worksOf_l4 t (nI p) m) mj_F (0, 0) = some (0, (nI (bz (fun w => decide (T 6 w = p)) (T 0 5)), nI (T 0 5))) := by
    refine lp_eq (fun i => (nI (bz (fun w => decide (T 6 w = p)) i), nI i)) (T 0 5) (by unfold mj_F; omega) (fun i hi => ?_) ?_
    · have ho := hw.owner i hi
      have z : nI (T 6 i) = nI p ↔ T 6 i = p := nI_eq (by omega) (by omega)
      unfold to_worksOf_l4 to_worksOf_j30l4
      dsimp only
      rw [hT.nw, if_neg (nI_ge hi (by omega)), hT.r ht hw (i := 6) (by decide) (by decide) hi, na_set (by omega), ← nI_succ]
      simp only [z]
      have eb : bz (fun w => decide (T 6 w = p)) (i + 1) = if decide (T 6 i = p) = true then bz (fun w => decide (T 6 w = p)) i ||| 2 ^ i else bz (fun w => decide (T 6 w = p)) i := rfl
      rw [eb]
      by_cases c : T 6 i = p
      · rw [if_pos c, if_pos (decide_eq_true c)]
      · rw [if_neg c, if_neg (by rw [decide_eq_false c]; decide)]
    · unfold to_worksOf_l4
      dsimp only
      rw [hT.nw, if_pos (nI_le (Nat.le_refl _) (by omega))]
  rw [e]
  rfl
theorem q_off (ht : t = 3 ∨ t = 17) (hC : CV t m T S n us I E B F) (hR : RV m T S n us I E B F) (hW : WV T S n us I E B F) {v h w : Int32} : ∃ x m1 m2, bp_off t v h w m = some (x, m1) ∧ frT m m1 ∧ md_off v h w m1 = some (x, m2) ∧ frQ m1 m2 := by
  have hnp := hW.T.np
  have hnw := hW.T.nw
  have i1 : ∀ M, md_isIn h 1 200 M = if h < 1 then 0 else if 200 < h then 0 else 1 := fun _ => rfl
  have i2 : ∀ M, md_isIn w 0 1 M = if w < 0 then 0 else if 1 < w then 0 else 1 := fun _ => rfl
  unfold bp_off md_off
  rcases isMan_M (v := v) hR hW with ⟨h1, h2⟩ | ⟨p, hp, rfl, h1, h2⟩
  · exact ⟨-1, m, mj_up m 68 2 (.int 0), by rw [h2 t m hC.T.np, if_pos rfl], frT_rfl, by rw [h1, if_pos rfl], frQ_2⟩
  rw [h2 t m hC.T.np, if_neg not01]
  by_cases c : h < 1
  · exact ⟨-1, m, mj_up m 68 2 (.int 0), by rw [if_pos c], frT_rfl, by rw [h1, if_neg not01, i1, if_pos c, if_pos rfl], frQ_2⟩
  by_cases c' : 200 < h
  · exact ⟨-1, m, mj_up m 68 2 (.int 0), by rw [if_neg c, if_pos c'], frT_rfl, by rw [h1, if_neg not01, i1, if_neg c, if_pos c', if_pos rfl], frQ_2⟩
  by_cases d : w < 0
  · exact ⟨-1, m, mj_up m 68 2 (.int 0), by rw [if_neg c, if_neg c', if_pos d], frT_rfl, by rw [h1, if_neg not01, i1, if_neg c, if_neg c', if_neg not01, i2, if_pos d, if_pos rfl], frQ_2⟩
  by_cases d' : w ≤ 1
  case neg =>
    have d2 : (1 : Int32) < w := by rw [na_ltI]; rw [na_leI] at d'; omega
    exact ⟨-1, m, mj_up m 68 2 (.int 0), by rw [if_neg c, if_neg c', if_neg d, if_neg d'], frT_rfl, by rw [h1, if_neg not01, i1, if_neg c, if_neg c', if_neg not01, i2, if_neg d, if_pos d2, if_pos rfl], frQ_2⟩
  have d2 : ¬ (1 : Int32) < w := by rw [na_ltI]; rw [na_leI] at d'; omega
  obtain ⟨a, ha1, ha, rfl⟩ := isIn_n (v := h) (a := 1) (b := 200) (by decide) (by decide) c c'
  obtain ⟨m1, e1, k1⟩ := try_C hC hW
  rw [if_neg c, if_neg c', if_neg d, if_pos d', to_worksOf_e ht hC.T hW.T hp, Option.bind_some, e1, Option.bind_some]
  -- slips and works of the HOURS
  have lSl : ∀ k, aSl T S n k < 64 := fun k => (aSl_lt hW.T).1
  have lWk : ∀ k, aWk T S n k < 64 := fun k => (aSl_lt hW.T).2
  obtain ⟨ta, sa, e2, k2, q2⟩ := lp_up (body := bp_off_l64 t (nI p) (nI a) w (nI (bz (fun w => decide (T 6 w = p)) (T 0 5)))) (s := (0, 0, 0, m1)) (fun i s => s.2.2.1 = nI i ∧ KC T n m s.2.2.2 (aH T S n i) ∧ s.1 = nI (cnt (fun k => (aSl T S n k).testBit p) i) ∧ s.2.1 = nI (cnt (fun k => (aWk T S n k).testBit p) i)) (fun _ s => (∃ R, KC T n m s.2.2.2 R) ∧ s.1 = nI (cnt (fun k => (aSl T S n k).testBit p) a) ∧ s.2.1 = nI (cnt (fun k => (aWk T S n k).testBit p) a)) a (by unfold mj_F; omega) ⟨rfl, k1, rfl, rfl⟩
    (by
      intro i s hi ⟨g1, g2, g3, g4⟩
      obtain ⟨x, y, zz, M⟩ := s
      dsimp only at g1 g2 g3 g4
      subst g1 g3 g4
      obtain ⟨M1, p1, p2, p3, p4⟩ := step_C ht hC hW g2 (aH_WS hW.T hW.S i) (by omega)
      have p3 : mj_I (M1 47 10) = nI (aSl T S n i) := p3
      unfold bp_off_l64 bp_off_j99l64 bp_off_j115l64
      dsimp only
      rw [if_neg (nI_ge hi (by omega)), p1, Option.bind_some, p3, p4, na_bp_has (by have := lSl i; omega) (by omega), na_and]
      have bl : bz (sOn T (aH T S n i) (sBt T 0 1 (aH T S n i) n).1) (T 0 5) &&& bz (fun w => decide (T 6 w = p)) (T 0 5) < 2 ^ 31 := Nat.lt_of_le_of_lt Nat.and_le_left (bz_le (k := 31) (by omega))
      have zb : nI (bz (sOn T (aH T S n i) (sBt T 0 1 (aH T S n i) n).1) (T 0 5) &&& bz (fun w => decide (T 6 w = p)) (T 0 5)) = 0 ↔ ¬ (aWk T S n i).testBit p = true := by
        rw [show (0 : Int32) = nI 0 from rfl, nI_eq bl (by decide)]
        unfold aWk
        rw [aWk_bit hW.T (by omega) (T 0 5) (Nat.le_refl _)]
        constructor
        · rintro h0 ⟨w, w1, w2, w3⟩
          have : (bz (sOn T (aH T S n i) (sBt T 0 1 (aH T S n i) n).1) (T 0 5) &&& bz (fun w => decide (T 6 w = p)) (T 0 5)).testBit w = true := by
            rw [Nat.testBit_and, bz_bit, bz_bit, decide_eq_true w1, w2, decide_eq_true w3]; rfl
          rw [h0, Nat.zero_testBit] at this
          cases this
        · intro hn
          apply Classical.byContradiction
          intro h0
          obtain ⟨w, w1, w2⟩ := and_ne h0
          rw [bz_bit, Bool.and_eq_true, decide_eq_true_eq] at w1 w2
          exact hn ⟨w, w1.1, w1.2, of_decide_eq_true w2.2⟩
      simp only [zb]
      have u1 : cnt (fun k => (aSl T S n k).testBit p) (i + 1) = cnt (fun k => (aSl T S n k).testBit p) i + (if (aSl T S n i).testBit p = true then 1 else 0) := rfl
      have u2 : cnt (fun k => (aWk T S n k).testBit p) (i + 1) = cnt (fun k => (aWk T S n k).testBit p) i + (if (aWk T S n i).testBit p = true then 1 else 0) := rfl
      rw [u1, u2]
      by_cases cs : (aSl T S n i).testBit p = true
      · rw [if_pos cs, if_pos cs, if_neg not01]
        by_cases cw : (aWk T S n i).testBit p = true
        · rw [if_neg (fun z => z cw), if_pos cw]
          exact ⟨_, rfl, (nI_succ _).symm, by rw [aH_succ]; exact p2, (nI_succ _).symm, (nI_succ _).symm⟩
        · rw [if_pos cw, if_neg cw]
          exact ⟨_, rfl, (nI_succ _).symm, by rw [aH_succ]; exact p2, (nI_succ _).symm, rfl⟩
      · rw [if_neg cs, if_neg cs, if_pos rfl]
        by_cases cw : (aWk T S n i).testBit p = true
        · rw [if_neg (fun z => z cw), if_pos cw]
          exact ⟨_, rfl, (nI_succ _).symm, by rw [aH_succ]; exact p2, rfl, (nI_succ _).symm⟩
        · rw [if_pos cw, if_neg cw]
          exact ⟨_, rfl, (nI_succ _).symm, by rw [aH_succ]; exact p2, rfl, rfl⟩)
    (by
      intro s ⟨g1, g2, g3, g4⟩
      obtain ⟨x, y, zz, M⟩ := s
      dsimp only at g1 g2 g3 g4
      subst g1 g3 g4
      refine ⟨0, (nI (cnt (fun k => (aSl T S n k).testBit p) a), nI (cnt (fun k => (aWk T S n k).testBit p) a), nI a, M), ?_, ⟨_, g2⟩, rfl, rfl⟩
      unfold bp_off_l64
      dsimp only
      rw [if_pos (nI_le (Nat.le_refl _) (by omega))])
  obtain ⟨⟨R, k2⟩, q1, q2⟩ := (⟨k2, q2⟩ : _ ∧ _)
  rw [e2, Option.bind_some]
  dsimp only
  have hR2 := RV_T hR hW.T k2.1
  obtain ⟨M0, e3, k3⟩ := try_R hR2 hW
  obtain ⟨tb, sb, e4, ⟨R', k4⟩, r1, r2⟩ := lp_up (body := md_off_l48 (nI p) (nI a) w) (s := (0, 0, 0, M0)) (fun i s => s.2.2.1 = nI i ∧ KR T n sa.2.2.2 s.2.2.2 (aH T S n i) ∧ s.1 = nI (cnt (fun k => (aSl T S n k).testBit p) i) ∧ s.2.1 = nI (cnt (fun k => (aWk T S n k).testBit p) i)) (fun _ s => (∃ R, KR T n sa.2.2.2 s.2.2.2 R) ∧ s.1 = nI (cnt (fun k => (aSl T S n k).testBit p) a) ∧ s.2.1 = nI (cnt (fun k => (aWk T S n k).testBit p) a)) a (by unfold mj_F; omega) ⟨rfl, k3, rfl, rfl⟩
    (by
      intro i s hi ⟨g1, g2, g3, g4⟩
      obtain ⟨x, y, zz, M⟩ := s
      dsimp only at g1 g2 g3 g4
      subst g1 g3 g4
      obtain ⟨M1, p1, p2, p3, p4⟩ := step_R hR2 hW g2 (aH_WS hW.T hW.S i) (by omega)
      have p3 : mj_I (M1 68 62) = nI (aSl T S n i) := p3
      have p4 : mj_I (M1 68 61) = nI (aWk T S n i) := p4
      have a0 : ∀ x : Nat, nI x + (0 : Int32) = nI x := fun x => Int32.add_zero _
      unfold md_off_l48 md_off_j77l48 md_off_j98l48
      dsimp only
      rw [if_neg (nI_ge hi (by omega)), p1, Option.bind_some, p3, p4, na_md_isOf (a := aWk T S n i) (by have := lWk i; omega) (by omega), na_md_isOf (a := aSl T S n i) (by have := lSl i; omega) (by omega)]
      have u1 : cnt (fun k => (aSl T S n k).testBit p) (i + 1) = cnt (fun k => (aSl T S n k).testBit p) i + (if (aSl T S n i).testBit p = true then 1 else 0) := rfl
      have u2 : cnt (fun k => (aWk T S n k).testBit p) (i + 1) = cnt (fun k => (aWk T S n k).testBit p) i + (if (aWk T S n i).testBit p = true then 1 else 0) := rfl
      rw [u1, u2]
      by_cases cw : (aWk T S n i).testBit p = true
      · rw [if_pos cw, if_pos cw, if_neg not01]
        by_cases cs : (aSl T S n i).testBit p = true
        · rw [if_pos cs, if_pos cs, if_neg not01]
          exact ⟨_, rfl, (nI_succ _).symm, by rw [aH_succ]; exact p2, (nI_succ _).symm, (nI_succ _).symm⟩
        · rw [if_neg cs, if_neg cs, if_pos rfl]
          exact ⟨_, rfl, (nI_succ _).symm, by rw [aH_succ]; exact p2, a0 _, (nI_succ _).symm⟩
      · rw [if_neg cw, if_neg cw, if_pos rfl]
        by_cases cs : (aSl T S n i).testBit p = true
        · rw [if_pos cs, if_pos cs, if_neg not01]
          exact ⟨_, rfl, (nI_succ _).symm, by rw [aH_succ]; exact p2, (nI_succ _).symm, a0 _⟩
        · rw [if_neg cs, if_neg cs, if_pos rfl]
          exact ⟨_, rfl, (nI_succ _).symm, by rw [aH_succ]; exact p2, a0 _, a0 _⟩)
    (by
      intro s ⟨g1, g2, g3, g4⟩
      obtain ⟨x, y, zz, M⟩ := s
      dsimp only at g1 g2 g3 g4
      subst g1 g3 g4
      refine ⟨0, (nI (cnt (fun k => (aSl T S n k).testBit p) a), nI (cnt (fun k => (aWk T S n k).testBit p) a), nI a, M), ?_, ⟨_, g2⟩, rfl, rfl⟩
      unfold md_off_l48
      dsimp only
      rw [if_pos (nI_le (Nat.le_refl _) (by omega))])
  have hmn : md_isMan (nI p) (mj_up sa.2.2.2 68 2 (.int 0)) = 1 := isMan_T hR2 hR2.T.np hnp hp
  have pre : ∀ {α : Type} (x y : α), (if md_isMan (nI p) (mj_up sa.2.2.2 68 2 (.int 0)) = 0 then x else if md_isIn (nI a) 1 200 (mj_up sa.2.2.2 68 2 (.int 0)) = 0 then x else if md_isIn w 0 1 (mj_up sa.2.2.2 68 2 (.int 0)) = 0 then x else y) = y := fun x y => by rw [hmn, if_neg not01, i1, if_neg c, if_neg c', if_neg not01, i2, if_neg d, if_neg d2, if_neg not01]
  have cU := cnt_le (f := fun k => (aSl T S n k).testBit p) a
  have cL := cnt_le (f := fun k => (aWk T S n k).testBit p) a
  rw [q1, q2]
  generalize cnt (fun k => (aSl T S n k).testBit p) a = u at cU r1
  generalize cnt (fun k => (aWk T S n k).testBit p) a = l at cL r2
  have zl : nI l = 0 ↔ l = 0 := nI_eq (b := 0) (by omega) (by decide)
  have hg : Nat.gcd l u = Nat.gcd u l := Nat.gcd_comm l u
  rw [bp_gcd_e (by omega) (by omega), Option.bind_some]
  simp only [zl]
  by_cases l0 : l = 0
  · refine ⟨w, sa.2.2.2, sb.2.2.2, by rw [if_pos l0], k2.1, ?_, k4.1⟩
    rw [pre, e3, Option.bind_some, e4, Option.bind_some]
    dsimp only
    rw [r2, if_pos (zl.mpr l0)]
  · have gp : 0 < Nat.gcd u l := Nat.gcd_pos_of_pos_right u (by omega)
    have gl := Nat.gcd_le_right u (show 0 < l by omega)
    have n0 : ¬ nI (Nat.gcd u l) = 0 := nI_ne0 gp (by omega)
    rw [if_neg l0, if_neg n0, if_neg n0, if_neg n0]
    by_cases w0 : w = 0
    · refine ⟨_, sa.2.2.2, sb.2.2.2, by rw [if_pos w0], k2.1, ?_, k4.1⟩
      rw [pre, e3, Option.bind_some, e4, Option.bind_some]
      dsimp only
      rw [r2, if_neg (fun z => l0 (zl.mp z)), r1, md_common_e (by omega) (by omega), Option.bind_some, hg, if_neg n0, if_pos w0]
    · refine ⟨_, sa.2.2.2, sb.2.2.2, by rw [if_neg w0], k2.1, ?_, k4.1⟩
      rw [pre, e3, Option.bind_some, e4, Option.bind_some]
      dsimp only
      rw [r2, if_neg (fun z => l0 (zl.mp z)), r1, md_common_e (by omega) (by omega), Option.bind_some, hg, if_neg n0, if_neg w0, if_neg n0]
end TRY3
