/-! CALLS THAT ASK, 4: law, bars, canon, meet (own work) -/
section ASK4
variable {t : Nat} {m : mj_M} {T : zT} {S : zS} {n : Nat} {us : List zS} {I : Option (zS × Nat)} {E : zE} {B : zB} {F : Int32 × Int32}
theorem isMan_T (hR : RV m T S n us I E B F) (hR' : mj_I (m 68 12) = nI (T 0 0)) {p : Nat} (hnp : T 0 0 ≤ 6) (hp : p < T 0 0) {v : Value} : md_isMan (nI p) (mj_up m 68 2 v) = 1 := by
  unfold md_isMan
  rw [na_upN (by omega), hR', if_neg (show ¬ nI p < 0 from nI_pos (by omega)), if_neg (nI_ge hp (by omega))]
theorem q_law (ht : t = 3 ∨ t = 17) (hC : CV t m T S n us I E B F) (hR : RV m T S n us I E B F) (hW : WV T S n us I E B F) {v w : Int32} : ∃ x m1 m2, bp_law t v w m = some (x, m1) ∧ frT m m1 ∧ md_law v w m1 = some (x, m2) ∧ frQ m1 m2 := by
  have hnp := hW.T.np
  have hnw := hW.T.nw
  have i1 : ∀ M, md_isIn v 0 2 M = if v < 0 then 0 else if 2 < v then 0 else 1 := fun _ => rfl
  -- the reference where the law isn't told, or is
  have untold : ∀ M l, l < 3 → v = nI l → RV M T S n us I E B F → T 12 l = T 13 l → ∃ m2, md_law v w M = some (lawE, m2) ∧ frQ M m2 := by
    intro M l hl hv hM he
    have o1 : (nI l < 0) = False := eq_false (nI_pos (by omega))
    have o1' : (6 ≤ l) = False := eq_false (by omega)
    have o2 : (nI l).toNatClampNeg = l := nI_clamp (by omega)
    have o3 : ¬ (2 : Int32) < nI l := nI_nlt (a := 2) (b := l) (by omega) (by decide)
    unfold md_law
    rw [hv] at i1 ⊢
    rw [i1, if_neg (show ¬ nI l < 0 from nI_pos (by omega)), if_neg o3, if_neg not01]
    simp only [o1, o1', o2, or_self, if_false]
    rw [(hM.L l hl).1 he, if_pos rfl]
    exact ⟨_, rfl, frQ_2⟩
  have told : ∀ M l, l < 3 → RV M T S n us I E B F → T 12 l < T 13 l → (if md_isIn (nI l) 0 2 (mj_up M 68 2 (.int 0)) = 0 then some (lawE, mj_up M 68 2 (.int 0)) else if nI l < 0 ∨ 6 ≤ (nI l).toNatClampNeg then none else if mj_I (M 83 (nI l).toNatClampNeg) = 0 then some (lawE, mj_up M 68 2 (.int 0)) else if nI l = 0 then (if md_isWork w (mj_up M 68 2 (.int 0)) = 0 then some (lawE, mj_up M 68 2 (.int 0)) else md_law_j35 (nI l) w (mj_up M 68 2 (.int 0))) else md_law_j35 (nI l) w (mj_up M 68 2 (.int 0))) = (if nI l = 0 then (if md_isWork w (mj_up M 68 2 (.int 0)) = 0 then some (lawE, mj_up M 68 2 (.int 0)) else md_law_j35 (nI l) w (mj_up M 68 2 (.int 0))) else md_law_j35 (nI l) w (mj_up M 68 2 (.int 0))) := by
    intro M l hl hM hlt
    have e0 : md_isIn (nI l) 0 2 (mj_up M 68 2 (.int 0)) = if nI l < 0 then 0 else if 2 < nI l then 0 else 1 := rfl
    have o1 : (nI l < 0) = False := eq_false (nI_pos (by omega))
    have o1' : (6 ≤ l) = False := eq_false (by omega)
    have o2 : (nI l).toNatClampNeg = l := nI_clamp (by omega)
    have o3 : ¬ (2 : Int32) < nI l := nI_nlt (a := 2) (b := l) (by omega) (by decide)
    rw [e0, if_neg (show ¬ nI l < 0 from nI_pos (by omega)), if_neg o3, if_neg not01]
    simp only [o1, o1', o2, or_self, if_false]
    rw [((hM.L l hl).2 hlt).1, if_neg not01]
  have unf : ∀ M l, md_law (nI l) w M = (if md_isIn (nI l) 0 2 (mj_up M 68 2 (.int 0)) = 0 then some (lawE, mj_up M 68 2 (.int 0)) else if nI l < 0 ∨ 6 ≤ (nI l).toNatClampNeg then none else if mj_I (M 83 (nI l).toNatClampNeg) = 0 then some (lawE, mj_up M 68 2 (.int 0)) else if nI l = 0 then (if md_isWork w (mj_up M 68 2 (.int 0)) = 0 then some (lawE, mj_up M 68 2 (.int 0)) else md_law_j35 (nI l) w (mj_up M 68 2 (.int 0))) else md_law_j35 (nI l) w (mj_up M 68 2 (.int 0))) := fun M l => rfl
  have hR0 := hR
  unfold bp_law
  by_cases v0 : v = 0
  · have hv : v = nI 0 := v0
    rw [if_pos v0]
    rcases work_c hC hR hW w with ⟨h1, h2⟩ | ⟨i, hi, rfl, h1, h2⟩
    · rw [h1, if_pos rfl]
      by_cases hlt : T 12 0 < T 13 0
      · have e : md_law v w m = some (lawE, mj_up m 68 2 (.int 0)) := by
          rw [hv, unf, told m 0 (by decide) hR hlt, if_pos (show nI 0 = 0 from rfl), h2, if_pos rfl]
        exact ⟨_, m, _, rfl, frT_rfl, e, frQ_2⟩
      · have := (hW.T.law 0 (by decide)).1
        obtain ⟨m2, e, f⟩ := untold m 0 (by decide) hv hR (by omega)
        exact ⟨_, m, m2, rfl, frT_rfl, e, f⟩
    · have ho := hW.T.owner i hi
      have hfa := hW.T.fast _ ho
      have hag := hW.T.aged _ ho
      have hba := hW.T.bar i hi
      have hle := hW.S.left i hi
      rw [h1, if_neg not01, hC.T.r ht hW.T (i := 6) (by decide) (by decide) hi, hv]
      obtain ⟨x, m1, e1, f1, alt⟩ := law_ask (l := 0) (p := nI (T 6 i)) (w := nI i) ht hC hR hW (by decide) (hC.T.r ht hW.T (i := 2) (by decide) (by decide) ho) (hC.T.r ht hW.T (i := 3) (by decide) (by decide) ho) ((SC_at hC.S (Or.inl rfl) hW.T).2.2.1 i hi) (hC.T.r ht hW.T (i := 8) (by decide) (by decide) hi) (Or.inl ⟨_, rfl, by omega, hR.T.row 2 _ (by decide) (by decide) (by decide) ho, hR.T.row 3 _ (by decide) (by decide) (by decide) ho⟩) (Or.inl ⟨_, rfl, by omega, hR.S.left i hi, hR.T.row 8 _ (by decide) (by decide) (by decide) hi⟩) (by omega)
      have hR1 := RV_T hR hW.T f1
      rcases alt with ⟨he, rfl⟩ | ⟨hlt, told2⟩
      · obtain ⟨m2, e, f⟩ := untold m1 0 (by decide) hv hR1 he
        rw [hv] at e
        exact ⟨_, m1, m2, e1, f1, e, f⟩
      · obtain ⟨m2, e2, p2, fq2, hR2, e3⟩ := plain_2 hR1 hW
        obtain ⟨m3, e4, fq3⟩ := told2 m2 hR2 (by rw [show m2 74 = m1 74 from funext fun j => fq2.1 74 j (by unfold okq okl okc; omega), f1 74 (by omega) (by omega) (by omega)]) (by rw [show m2 75 = m1 75 from funext fun j => fq2.1 75 j (by unfold okq okl okc; omega), f1 75 (by omega) (by omega) (by omega)]) (by rw [show m2 80 = m1 80 from funext fun j => fq2.1 80 j (by unfold okq okl okc; omega), f1 80 (by omega) (by omega) (by omega)]) (fun j hj => by rw [fq2.1 93 j (by unfold okq okl okc; omega), f1 93 (by omega) (by omega) (by omega)])
        have hw1 : md_isWork (nI i) (mj_up m1 68 2 (.int 0)) = 1 := by
          unfold md_isWork
          rw [na_upN (by omega), hR1.T.nw, if_neg (show ¬ nI i < 0 from nI_pos (by omega)), if_neg (nI_ge hi (by omega))]
        have r6 : mj_I (m2 78 i) = nI (T 6 i) := hR2.T.row 6 i (by decide) (by decide) (by decide) hi
        have o1 : (nI i < 0) = False := eq_false (nI_pos (by omega))
        have o1' : (16 ≤ i) = False := eq_false (by omega)
        have o2 : (nI i).toNatClampNeg = i := nI_clamp (by omega)
        refine ⟨x, m1, m3, e1, f1, ?_, frQ_tr fq2 fq3⟩
        rw [unf, told m1 0 (by decide) hR1 hlt, if_pos (show nI 0 = 0 from rfl), hw1, if_neg not01]
        unfold md_law_j35 md_law_j52 md_law_j87
        rw [if_neg (show ¬ nI 0 = 2 by decide), e2, Option.bind_some, e3, Option.bind_some, if_pos (show nI 0 = 0 from rfl)]
        simp only [o1, o1', o2, or_self, if_false, r6]
        rw [if_pos (show nI 0 = 0 from rfl)]
        exact e4
  rw [if_neg v0]
  by_cases v2 : v = 2
  · have hv : v = nI 2 := v2
    rw [if_pos v2]
    rcases man_c hC hR hW w with ⟨h1, h2⟩ | ⟨i, hi, rfl, h1, h2⟩
    · rw [h1, if_pos rfl]
      by_cases hlt : T 12 2 < T 13 2
      · have e : md_law v w m = some (lawE, mj_up m 68 2 (.int 0)) := by
          rw [hv, unf, told m 2 (by decide) hR hlt, if_neg (show ¬ nI 2 = 0 by decide)]
          unfold md_law_j35
          rw [if_pos (show nI 2 = 2 from rfl), h2, if_pos rfl]
          rfl
        exact ⟨_, m, _, rfl, frT_rfl, e, frQ_2⟩
      · have := (hW.T.law 2 (by decide)).1
        obtain ⟨m2, e, f⟩ := untold m 2 (by decide) hv hR (by omega)
        exact ⟨_, m, m2, rfl, frT_rfl, e, f⟩
    · have hfa := hW.T.fast _ hi
      have hag := hW.T.aged _ hi
      rw [h1, if_neg not01, hv]
      obtain ⟨x, m1, e1, f1, alt⟩ := law_ask (l := 2) (p := nI i) (w := -1) (lf := 0) (r := 0) ht hC hR hW (by decide) (hC.T.r ht hW.T (i := 2) (by decide) (by decide) hi) (hC.T.r ht hW.T (i := 3) (by decide) (by decide) hi) rfl rfl (Or.inl ⟨_, rfl, by omega, hR.T.row 2 _ (by decide) (by decide) (by decide) hi, hR.T.row 3 _ (by decide) (by decide) (by decide) hi⟩) (Or.inr ⟨rfl, rfl, rfl⟩) (by omega)
      have hR1 := RV_T hR hW.T f1
      rcases alt with ⟨he, rfl⟩ | ⟨hlt, told2⟩
      · obtain ⟨m2, e, f⟩ := untold m1 2 (by decide) hv hR1 he
        rw [hv] at e
        exact ⟨_, m1, m2, e1, f1, e, f⟩
      · obtain ⟨m2, e2, p2, fq2, hR2, e3⟩ := plain_2 hR1 hW
        obtain ⟨m3, e4, fq3⟩ := told2 m2 hR2 (by rw [show m2 74 = m1 74 from funext fun j => fq2.1 74 j (by unfold okq okl okc; omega), f1 74 (by omega) (by omega) (by omega)]) (by rw [show m2 75 = m1 75 from funext fun j => fq2.1 75 j (by unfold okq okl okc; omega), f1 75 (by omega) (by omega) (by omega)]) (by rw [show m2 80 = m1 80 from funext fun j => fq2.1 80 j (by unfold okq okl okc; omega), f1 80 (by omega) (by omega) (by omega)]) (fun j hj => by rw [fq2.1 93 j (by unfold okq okl okc; omega), f1 93 (by omega) (by omega) (by omega)])
        refine ⟨x, m1, m3, e1, f1, ?_, frQ_tr fq2 fq3⟩
        rw [unf, told m1 2 (by decide) hR1 hlt, if_neg (show ¬ nI 2 = 0 by decide)]
        unfold md_law_j35 md_law_j52 md_law_j87
        rw [if_pos (show nI 2 = 2 from rfl), isMan_T hR1 hR1.T.np hnp hi, if_neg not01, e2, Option.bind_some, e3, Option.bind_some, if_neg (show ¬ nI 2 = 0 by decide), if_pos (show nI 2 = 2 from rfl), if_neg (show ¬ nI 2 = 0 by decide)]
        exact e4
  rw [if_neg v2]
  by_cases v1 : v = 1
  · have hv : v = nI 1 := v1
    rw [if_pos v1, hv]
    obtain ⟨x, m1, e1, f1, alt⟩ := law_ask (l := 1) (p := -1) (w := -1) (f := 0) (a := 0) (lf := 0) (r := 0) ht hC hR hW (by decide) rfl rfl rfl rfl (Or.inr ⟨rfl, rfl, rfl⟩) (Or.inr ⟨rfl, rfl, rfl⟩) (by omega)
    have hR1 := RV_T hR hW.T f1
    rcases alt with ⟨he, rfl⟩ | ⟨hlt, told2⟩
    · obtain ⟨m2, e, f⟩ := untold m1 1 (by decide) hv hR1 he
      rw [hv] at e
      exact ⟨_, m1, m2, e1, f1, e, f⟩
    · obtain ⟨m2, e2, p2, fq2, hR2, e3⟩ := plain_2 hR1 hW
      obtain ⟨m3, e4, fq3⟩ := told2 m2 hR2 (by rw [show m2 74 = m1 74 from funext fun j => fq2.1 74 j (by unfold okq okl okc; omega), f1 74 (by omega) (by omega) (by omega)]) (by rw [show m2 75 = m1 75 from funext fun j => fq2.1 75 j (by unfold okq okl okc; omega), f1 75 (by omega) (by omega) (by omega)]) (by rw [show m2 80 = m1 80 from funext fun j => fq2.1 80 j (by unfold okq okl okc; omega), f1 80 (by omega) (by omega) (by omega)]) (fun j hj => by rw [fq2.1 93 j (by unfold okq okl okc; omega), f1 93 (by omega) (by omega) (by omega)])
      refine ⟨x, m1, m3, e1, f1, ?_, frQ_tr fq2 fq3⟩
      rw [unf, told m1 1 (by decide) hR1 hlt, if_neg (show ¬ nI 1 = 0 by decide)]
      unfold md_law_j35 md_law_j52 md_law_j87
      rw [if_neg (show ¬ nI 1 = 2 by decide), e2, Option.bind_some, e3, Option.bind_some, if_neg (show ¬ nI 1 = 0 by decide), if_neg (show ¬ nI 1 = 2 by decide), if_neg (show ¬ nI 1 = 0 by decide)]
      exact e4
  rw [if_neg v1]
  refine ⟨lawE, m, mj_up m 68 2 (.int 0), rfl, frT_rfl, ?_, frQ_2⟩
  unfold md_law
  rw [i1]
  by_cases c : v < 0
  · rw [if_pos c, if_pos rfl]; rfl
  · rw [if_neg c]
    by_cases c2 : 2 < v
    · rw [if_pos c2, if_pos rfl]; rfl
    · exfalso
      have k0 : ((0 : Int32)).toInt = 0 := rfl
      have k2 : ((2 : Int32)).toInt = 2 := rfl
      rw [na_ltI, k0] at c
      rw [na_ltI, k2] at c2
      rcases (show v.toInt = 0 ∨ v.toInt = 1 ∨ v.toInt = 2 by omega) with z | z | z
      · exact v0 (Int32.toInt_inj.mp z)
      · exact v1 (Int32.toInt_inj.mp z)
      · exact v2 (Int32.toInt_inj.mp z)
end ASK4
