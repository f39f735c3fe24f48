/-! CALLS THAT CHANGE THE STATE, 8: go (own work) -/
section GO
variable {t : Nat} {m : mj_M} {T : zT} {S : zS} {n : Nat} {us : List zS} {I : Option (zS × Nat)} {E : zE} {B : zB} {F : Int32 × Int32}
theorem sHr_NH {be : Nat} (h : NHs T S) : NHs T (sHr T S be) := by
  intro p hp h5
  rw [sHr_5] at h5
  have h2 := h p hp h5
  have e : (sHr T S be).1 2 p = (sSp T (sWk T S be (T 0 5)).1 be).1 2 p := by
    unfold sHr
    dsimp only
    rw [u2_r (by decide), u2_r (by decide)]
  rw [e, sSp_2, sWk_row (by decide), sWk_row (by decide), if_pos h2, if_neg (fun z => by rw [h5] at z; exact absurd z.1 (by decide))]
theorem sHours_NH {pc mode : Nat} {q : zS × Nat} (h : NHs T q.1) : ∀ k, NHs T (sHours T pc mode q k).1 := by
  intro k
  induction k with
  | zero => exact h
  | succ k ih => exact sHr_NH ih
theorem WS_mono {H H' : Nat} (h : WS T H S) (hH : H ≤ H') : WS T H' S := ⟨Nat.le_trans h.hour hH, h.coil, h.shift, h.here, h.hic, h.left⟩
theorem okc0_S {a j : Nat} (h : okc 0 a j) : okS a j := by
  unfold okc at h
  rcases h with h | h | h | h | h | h | h
  · exact Or.inl (Or.inl (Or.inl (Or.inl h)))
  · exact Or.inl (Or.inl (Or.inl (Or.inr (Or.inl h))))
  · exact Or.inl (Or.inl (Or.inl (Or.inr (Or.inr (Or.inl h)))))
  · exact Or.inl (Or.inl (Or.inl (Or.inr (Or.inr (Or.inr (Or.inl h))))))
  · exact Or.inr (Or.inl (by omega))
  · exact Or.inr (Or.inl (by omega))
  · exact Or.inr (Or.inl (by omega))
theorem okS_63 {a j : Nat} (h : a = 68 ∧ (j = 75 ∨ j = 2 ∨ (63 ≤ j ∧ j ≤ 68))) : okS a j := by
  rcases h with ⟨h, h1 | h1 | h1⟩
  · exact Or.inr (Or.inr (Or.inr (Or.inr (Or.inr (Or.inr (Or.inr ⟨h, Or.inl h1⟩))))))
  · exact Or.inl (Or.inl (Or.inr (Or.inr (Or.inr ⟨h, Or.inl h1⟩))))
  · exact Or.inl (Or.inl (Or.inr (Or.inr (Or.inr ⟨h, Or.inr h1⟩))))
theorem okS_lt {a j : Nat} (h : ¬ okS a j) : 68 ≤ a := by
  apply Nat.le_of_not_lt
  intro z
  exact h (Or.inr (Or.inr (Or.inr (Or.inr (Or.inr (Or.inl z))))))
theorem q_go (ht : t = 3 ∨ t = 17) (h : REL t m) {v : Int32} : ∃ x m1 m2, bp_go t v m = some (x, m1) ∧ md_go v m1 = some (x, m2) ∧ REL t m2 := by
  obtain ⟨T, S, n, us, I, E, B, F, hC, hR, hW⟩ := h
  have hw := hW.T
  have hnp := hw.np
  have hnw := hw.nw
  have no : REL t (mj_up m 68 2 (.int 0)) := REL_Q ht ⟨T, S, n, us, I, E, B, F, hC, hR, hW⟩ frQ_2
  have t0 : ((0 : Int32)).toNatClampNeg = 0 := rfl
  have hR0 := hR.S.hour
  have h9 := hW.S.hour
  unfold bp_go md_go
  rcases isIn_e (v := v) (a := 0) (b := 99) (M := mj_up m 68 2 (.int 0)) with ⟨i1, i2⟩ | ⟨_, i2, i3⟩
  · refine ⟨-1, m, _, ?_, by rw [i1, if_pos rfl], no⟩
    rcases i2 with i2 | i2
    · rw [if_pos i2]
    · by_cases c : v < 0
      · rw [if_pos c]
      · rw [if_neg c, if_pos i2]
  have iI : ∀ M, md_isIn v 0 99 M = 1 := fun M => by unfold md_isIn; rw [if_neg i2, if_neg i3]
  obtain ⟨k, hk, rfl⟩ : ∃ k : Nat, k ≤ 99 ∧ v = nI k := na_ofN (n := 99) (by decide) (by
    rw [na_ltI] at i2
    rw [na_leI]
    omega) (by
    rw [na_ltI] at i3
    rw [na_leI]
    have h1 : ((99 : Int32)).toInt = 99 := rfl
    have h2 : (nI 99).toInt = 99 := rfl
    omega)
  rw [if_neg i2, if_neg i3, hC.S.hour, nI_add]
  by_cases c : S.1 0 0 + k ≤ 9900
  case neg =>
    have c2 : ¬ nI (S.1 0 0 + k) ≤ 9900 := nI_ge (a := 9900) (by omega) (by omega)
    exact ⟨-1, m, _, by rw [if_neg c2], by rw [iI, if_neg not01, t0, hR0, nI_add, if_neg c2], no⟩
  have c3 : nI (S.1 0 0 + k) ≤ 9900 := nI_le (b := 9900) (by omega) (by omega)
  have hWt : WS T (S.1 0 0) S := ⟨Nat.le_refl _, hW.S.coil, hW.S.shift, hW.S.here, hW.S.hic, hW.S.left⟩
  -- the class
  obtain ⟨tt, ⟨x1, c1⟩, e1, q1, q2, q3⟩ := lp_up (body := bp_go_l29 t (nI k)) (s := (0, m))
    (fun i s => s.1 = nI i ∧ frC 42 m s.2 ∧ SC T 42 s.2 (sHours T 0 0 (S, n) i).1 ∧ mj_I (s.2 42 3) = nI (sHours T 0 0 (S, n) i).2)
    (fun _ s => frC 42 m s.2 ∧ SC T 42 s.2 (sHours T 0 0 (S, n) k).1 ∧ mj_I (s.2 42 3) = nI (sHours T 0 0 (S, n) k).2) k (by unfold mj_F; omega)
    ⟨rfl, frC_rfl, hC.S, hC.num⟩
    (by
      intro i s hi ⟨h1, h2, h3, h4⟩
      obtain ⟨x, ms⟩ := s
      dsimp only at h1 h2 h3 h4
      subst h1
      obtain ⟨m1, p1, p2, p3, p4, p5, p6⟩ := ck_pass_e (pc := 0) (mode := 0) (n := (sHours T 0 0 (S, n) i).2) ht (Or.inl rfl) (hC.T.cong (frC_t h2 (by omega) ht)) hw hW.L h3 (sHours_WS hw hWt i) (by omega) (by rw [h2 37 (by omega) (by omega) (by omega) (by omega) (by omega)]; exact hC.inst) (by decide) (by decide) (sHours_n hW.num i) h4
      have p1 : ck_pass t 42 0 ms = some m1 := p1
      unfold bp_go_l29
      dsimp only
      rw [if_neg (nI_ge hi (by omega)), p1, Option.bind_some]
      exact ⟨_, rfl, (nI_succ i).symm, frC_tr h2 p2, p3, p4⟩)
    (by
      intro s ⟨h1, h2, h3, h4⟩
      obtain ⟨x, ms⟩ := s
      dsimp only at h1 h2 h3 h4
      subst h1
      refine ⟨0, (nI k, ms), ?_, h2, h3, h4⟩
      unfold bp_go_l29
      dsimp only
      rw [if_pos (nI_le (Nat.le_refl _) (by omega))])
  dsimp only at q1 q2 q3
  generalize hS' : (sHours T 0 0 (S, n) k).1 = S' at q2
  generalize hn' : (sHours T 0 0 (S, n) k).2 = n' at q3
  have wS' : WS T 9900 S' := by rw [← hS']; exact WS_mono (sHours_WS (q := (S, n)) hw hWt k) c
  have nS' : NHs T S' := by rw [← hS']; exact sHours_NH (q := (S, n)) hW.nh k
  have ln' : n' < 2 ^ 31 := by rw [← hn']; exact sHours_n hW.num k
  -- what is taken back, behind it
  generalize hus' : (if k = 0 then us else []) = us'
  have S0 : k = 0 → S' = S ∧ n' = n ∧ us' = us := fun z => by subst z; exact ⟨hS'.symm, hn'.symm, by rw [← hus', if_pos rfl]⟩
  obtain ⟨c2, ec, fc, hu, hdv⟩ : ∃ c2, (if nI k ≤ 0 then some ((mj_I (c1 42 0)), c1) else (de_forget c1).bind fun q8 => some ((mj_I (q8 42 0)), q8)) = some (nI (S'.1 0 0), c2) ∧ (∀ a j, ¬ (a = 57 ∧ j = 0) → c2 a j = c1 a j) ∧ mj_I (c2 57 0) = nI us'.length ∧ dvC T c2 S' us' := by
    by_cases z : k = 0
    · obtain ⟨z1, z2, z3⟩ := S0 z
      rw [if_pos (show nI k ≤ 0 by rw [z]; decide)]
      refine ⟨c1, by rw [q2.hour], fun _ _ _ => rfl, ?_, ?_⟩
      · rw [z3, q1 57 (by omega) (by omega) (by omega) (by omega) (by omega)]; exact hC.uc
      · rw [z3, z1]
        exact dvC_cong (fun i h1 h2 => q1 i (by omega) (by omega) (by omega) (by omega) (by omega)) hC.us
    · rw [if_neg (nI_nle (by omega) (by omega))]
      unfold de_forget
      rw [Option.bind_some]
      refine ⟨_, by rw [na_upN (by omega), q2.hour], fun a j h => na_upN h, ?_, ?_⟩
      · rw [na_upS, ← hus', if_neg z]; rfl
      · rw [← hus', if_neg z]; exact trivial
  have fcr : ∀ a, a ≠ 57 → c2 a = c1 a := fun a h => funext fun j => fc a j (by omega)
  have km : ∀ a j, ¬ (a = 57 ∧ j = 0) → (a < 38 ∨ 46 < a) → c2 a j = m a j := fun a j h1 h2 => by rw [fc a j h1, q1 a (by omega) (by omega) (by omega) (by omega) (by omega)]
  -- the reference
  obtain ⟨r1, e3, p1, f1⟩ := md_plain_e (m := mj_up c2 68 2 (.int 0))
  generalize hr2 : mj_up r1 68 63 (.int 1) = r2
  have k2 : ∀ a j, ¬ (a = 68 ∧ (j = 2 ∨ (63 ≤ j ∧ j ≤ 68))) → (a < 38 ∨ 46 < a) → ¬ (a = 57 ∧ j = 0) → r2 a j = m a j := fun a j h1 h2 h3 => by rw [← hr2, na_upN (by omega), f1 _ _ (by omega), na_upN (by omega), km _ _ h3 h2]
  have k2r : ∀ a, 69 ≤ a → r2 a = m a := fun a h => funext fun j => k2 a j (by omega) (by omega) (by omega)
  have hT2 : TR r2 T := hR.T.cong (fun j hj => k2 68 j (by omega) (by omega) (by omega)) (fun i h1 h2 _ => k2r i (by omega))
  have hL2 : LR r2 T := hR.L.cong (fun i h1 h2 => k2r i (by omega))
  have hO2 : HO r2 T := by
    intro w hww
    rw [← hr2, na_upN (by omega), p1.2.2.2.2.1, if_neg (na_neg (show w < 2 ^ 31 by omega)), hr2, k2r 81 (by omega)]
    exact hR.R9 w hww
  have hF2 : RF r2 0 0 := by
    refine ⟨?_, ?_, ?_⟩
    · rw [← hr2, na_upN (by omega)]; exact p1.2.2.2.1
    · rw [← hr2, na_upS]; rfl
    · rw [← hr2, na_upN (by omega)]; exact p1.2.1
  have h65 : mj_I (r2 68 65) = 0 := by rw [← hr2, na_upN (by omega)]; exact p1.2.2.1
  have hS2 : SR T 0 r2 S := hR.S.cong (fun i j h1 h2 => by rw [k2r i (by omega)])
  obtain ⟨t2, ⟨x3, r3⟩, e4, g1, g2, g3⟩ := lp_up (body := md_go_l42 (nI k)) (s := (0, r2))
    (fun i s => s.1 = nI i ∧ frR 0 r2 s.2 ∧ SR T 0 s.2 (sHours T 0 0 (S, n) i).1 ∧ mj_J (s.2 68 60) = lN (sHours T 0 0 (S, n) i).2)
    (fun _ s => frR 0 r2 s.2 ∧ SR T 0 s.2 (sHours T 0 0 (S, n) k).1 ∧ mj_J (s.2 68 60) = lN (sHours T 0 0 (S, n) k).2) k (by unfold mj_F; omega)
    ⟨rfl, frR_rfl, hS2, by dsimp only; rw [k2 _ _ (by omega) (by omega) (by omega)]; exact hR.num⟩
    (by
      intro i s hi ⟨h1, h2, h3, h4⟩
      obtain ⟨x, ms⟩ := s
      dsimp only at h1 h2 h3 h4
      subst h1
      obtain ⟨m1, p1, p2, p3, p4, p5, p6⟩ := md_hourGoes_e (b := 0) (nh := false) (n := (sHours T 0 0 (S, n) i).2) (by decide) (frR_TR h2 hT2) (frR_LR h2 hL2) (frR_HO h2 hO2) hw hW.L h3 (sHours_WS hw hWt i) (by omega) (frR_RF h2 hF2) (by decide) (by decide) h4 (by rw [h2 68 65 (by unfold okc; omega)]; exact h65)
      have p1 : md_hourGoes 0 ms = some m1 := p1
      unfold md_go_l42
      dsimp only
      rw [if_neg (nI_ge hi (by omega)), p1, Option.bind_some]
      exact ⟨_, rfl, (nI_succ i).symm, frR_tr h2 p2, p3, p4⟩)
    (by
      intro s ⟨h1, h2, h3, h4⟩
      obtain ⟨x, ms⟩ := s
      dsimp only at h1 h2 h3 h4
      subst h1
      refine ⟨0, (nI k, ms), ?_, h2, h3, h4⟩
      unfold md_go_l42
      dsimp only
      rw [if_pos (nI_le (Nat.le_refl _) (by omega))])
  dsimp only at g1 g2 g3
  rw [hS'] at g2
  rw [hn'] at g3
  have r75 : mj_I (r3 68 75) = nI us.length := by rw [g1 _ _ (by unfold okc; omega), k2 _ _ (by omega) (by omega) (by omega)]; exact hR.uc
  have r100 : mj_I (r3 100 0) = nI (S'.1 0 0) := g2.hour
  refine ⟨nI (S'.1 0 0), c2, mj_up (mj_up r3 68 63 (.int 0)) 68 75 (.int (nI us'.length)), ?_, ?_, T, S', n', us', I, E, B, F, ?_, ?_, ?_⟩
  · rw [if_pos c3, e1, Option.bind_some]
    exact ec
  · rw [iI, if_neg not01, t0, show mj_I (c2 100 0) = nI (S.1 0 0) by rw [km _ _ (by omega) (by omega)]; exact hR0, nI_add, if_pos c3, e3, Option.bind_some, hr2, e4, Option.bind_some]
    dsimp only
    unfold md_go_j76
    rw [t0, show mj_I (mj_up r3 68 63 (.int 0) 100 0) = nI (S'.1 0 0) by rw [na_upN (by omega)]; exact r100]
    by_cases z : k = 0
    · rw [if_pos (show nI k ≤ 0 by rw [z]; decide), (S0 z).2.2, r75]
    · rw [if_neg (nI_nle (by omega) (by omega)), ← hus', if_neg z]
      rfl
  case _ =>
    generalize hf : mj_up (mj_up r3 68 63 (.int 0)) 68 75 (.int (nI us'.length)) = f
    have kf : ∀ a j, a < 68 → f a j = c2 a j := fun a j h => by rw [← hf, na_upN (by omega), na_upN (by omega), g1 _ _ (by unfold okc; omega), ← hr2, na_upN (by omega), f1 _ _ (by omega), na_upN (by omega)]
    have kfr : ∀ a, a < 68 → f a = c2 a := fun a h => funext fun j => kf a j h
    have kmr : ∀ a, a ≠ 57 → (a < 38 ∨ 46 < a) → c2 a = m a := fun a h1 h2 => funext fun j => km a j (by omega) h2
    refine hC.setS ht (fun i h1 h2 => by rw [kfr i (by omega), kmr i (by omega) (by omega)]) (by rw [kf _ _ (by omega), km _ _ (by omega) (by omega)]) (fun i h1 h2 => by rw [kfr i (by omega), kmr i (by omega) (by omega)]) ?_ ?_ ?_ ?_ ?_
    · exact q2.cong (fun j _ => by rw [kfr 42 (by omega), fcr 42 (by omega)]) (fun i h1 h2 => by rw [kfr _ (by omega), fcr _ (by omega)])
    · rw [kf _ _ (by omega), fc _ _ (by omega)]; exact q3
    · rw [kf _ _ (by omega)]; exact hu
    · exact dvC_cong (fun i h1 h2 => kfr i (by omega)) hdv
    · exact imC_cong hC.im (by rw [kf _ _ (by omega), km _ _ (by omega) (by omega)]) (fun i h1 h2 => by rw [kfr _ (by omega), kmr _ (by omega) (by omega)])
  case _ =>
    generalize hf : mj_up (mj_up r3 68 63 (.int 0)) 68 75 (.int (nI us'.length)) = f
    have kf : ∀ a j, ¬ (a = 68 ∧ (j = 63 ∨ j = 75)) → f a j = r3 a j := fun a j h => by rw [← hf, na_upN (by omega), na_upN (by omega)]
    have kz : ∀ a j, 68 ≤ a → ¬ okc 0 a j → ¬ (a = 68 ∧ (j = 75 ∨ j = 2 ∨ (63 ≤ j ∧ j ≤ 68))) → f a j = m a j := fun a j h1 h2 h3 => by rw [kf _ _ (by omega), g1 _ _ h2, k2 _ _ (by omega) (by omega) (by omega)]
    refine hR.setS (fun a j h => kz a j (okS_lt h) (fun z => h (okc0_S z)) (fun z => h (okS_63 z))) ?_ ?_ ?_ ?_ ?_
    · exact g2.cong (fun i j h1 h2 => kf _ _ (by omega))
    · rw [kf _ _ (by omega)]; exact g3
    · rw [← hf, na_upS]; rfl
    · rw [← hus']
      by_cases z : k = 0
      · rw [if_pos z]
        exact dvR_cong (funext fun j => kz _ _ (by omega) (by unfold okc; omega) (by omega)) hR.us
      · rw [if_neg z]; exact trivial
    · have hi := hR.im
      cases I with
      | none => show mj_I (f 68 77) = 0; rw [kz _ _ (by omega) (by unfold okc; omega) (by omega)]; exact hi
      | some q =>
        obtain ⟨A, i⟩ := q
        refine ⟨?_, snap_cong (funext fun j => kz _ _ (by omega) (by unfold okc; omega) (by omega)) hi.2.1, ?_, ?_, ?_, ?_⟩
        · rw [kz _ _ (by omega) (by unfold okc; omega) (by omega)]; exact hi.1
        · intro w hww; rw [kz _ _ (by omega) (by unfold okc; omega) (by omega), kz _ _ (by omega) (by unfold okc; omega) (by omega)]; exact hi.2.2.1 w hww
        · intro p hp; rw [kz _ _ (by omega) (by unfold okc; omega) (by omega)]; exact hi.2.2.2.1 p hp
        · rw [kz _ _ (by omega) (by unfold okc; omega) (by omega)]; exact hi.2.2.2.2.1
        · rw [kz _ _ (by omega) (by unfold okc; omega) (by omega)]; exact hi.2.2.2.2.2
  · refine hW.setS wS' nS' ln' ?_ ?_ hW.im
    · rw [← hus']; by_cases z : k = 0
      · rw [if_pos z]; exact hW.uc
      · rw [if_neg z]; exact Nat.zero_le _
    · rw [← hus']; by_cases z : k = 0
      · rw [if_pos z]; exact hW.us
      · rw [if_neg z]; intro u hu; simp at hu
end GO
