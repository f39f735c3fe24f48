/-! READING, 4: the reference's signs; its loop (own work) -/
section SGN
variable {m m1 : mj_M} {b : Nat → Nat} {n p kc Kn br wa mn F0 j : Nat} {cd : Nat → Nat} {W : List Nat}
def blv (g : Nat) : Nat := if rkN (lwk g) = 4 then 5 else rkN (lwk g)
theorem gOk_c {g : Nat} (h : gOk g) : g = 12 ∨ g = 13 ∨ g = 28 ∨ g = 29 ∨ g = 30 ∨ g = 31 ∨ g = 32 ∨ g = 33 ∨ g = 34 ∨ g = 35 ∨ g = 36 ∨ g = 37 := by
  unfold gOk at h
  omega
theorem gOk_b {g : Nat} (h : gOk g) : lwk g ≤ 14 ∧ 1 ≤ blv g ∧ blv g ≤ 6 ∧ 3 ≤ lwk g := by
  rcases gOk_c h with rfl | rfl | rfl | rfl | rfl | rfl | rfl | rfl | rfl | rfl | rfl | rfl <;> decide
theorem signs_op {g : Nat} (hT : RT m b n p) (hk : (cut b n p).1 = g) (hg : gOk g) : md_signs m = md_signs_j147 (nI (lwk g)) m := by
  have hg40 : g < 40 := by unfold gOk at hg; omega
  have i41 : md_isSign 41 m = if (cut b n p).1 = 27 then 1 else 0 := tk_sign hT (K := 27) rfl (by decide)
  have k11 : md_isKey 11 m = if (cut b n p).1 = 12 then 1 else 0 := tk_key hT (K := 12) (by decide)
  have k12 : md_isKey 12 m = if (cut b n p).1 = 13 then 1 else 0 := tk_key hT (K := 13) (by decide)
  have i43 : md_isSign 43 m = if (cut b n p).1 = 34 then 1 else 0 := tk_sign hT (K := 34) rfl (by decide)
  have i45 : md_isSign 45 m = if (cut b n p).1 = 35 then 1 else 0 := tk_sign hT (K := 35) rfl (by decide)
  have i42 : md_isSign 42 m = if (cut b n p).1 = 36 then 1 else 0 := tk_sign hT (K := 36) rfl (by decide)
  have i47 : md_isSign 47 m = if (cut b n p).1 = 37 then 1 else 0 := tk_sign hT (K := 37) rfl (by decide)
  have w5 := (tk_kind hT).2.2.2.2
  have v5 := (tk_which hT).2.2.2
  unfold md_signs
  rw [hk] at i41 k11 k12 i43 i45 i42 i47 w5 v5
  rw [i41, if_neg (show ¬ g = 27 by unfold gOk at hg; omega), if_pos rfl]
  unfold md_signs_j47
  rw [k11, k12, i43, i45, i42, i47]
  by_cases c12 : g = 12
  · subst c12; rfl
  rw [if_neg c12, if_pos rfl]
  by_cases c13 : g = 13
  · subst c13; rfl
  rw [if_neg c13, if_pos rfl]
  by_cases c5 : 28 ≤ g ∧ g ≤ 33
  · rw [if_pos (w5.mpr c5), v5 c5, show (5 : Int32) + nI (g - 28) = nI (5 + (g - 28)) from nI_add 5 _]
    unfold lwk
    rw [if_neg c12, if_neg c13, show 5 + (g - 28) = g - 23 by omega]
  rw [if_neg (fun z => c5 (w5.mp z))]
  rcases (show g = 34 ∨ g = 35 ∨ g = 36 ∨ g = 37 by unfold gOk at hg; omega) with rfl | rfl | rfl | rfl <;> rfl
theorem signs_no (hT : RT m b n p) (hk : ¬ gOk (cut b n p).1) (h27 : (cut b n p).1 = 27 → br = 0) (h44 : mj_I (m 68 44) = nI br) : ∃ m1, md_signs m = some (0, m1) ∧ fR m1 1 p ∧ frRE F0 m m1 := by
  have i41 : md_isSign 41 m = if (cut b n p).1 = 27 then 1 else 0 := tk_sign hT (K := 27) rfl (by decide)
  have k11 : md_isKey 11 m = if (cut b n p).1 = 12 then 1 else 0 := tk_key hT (K := 12) (by decide)
  have k12 : md_isKey 12 m = if (cut b n p).1 = 13 then 1 else 0 := tk_key hT (K := 13) (by decide)
  have i43 : md_isSign 43 m = if (cut b n p).1 = 34 then 1 else 0 := tk_sign hT (K := 34) rfl (by decide)
  have i45 : md_isSign 45 m = if (cut b n p).1 = 35 then 1 else 0 := tk_sign hT (K := 35) rfl (by decide)
  have i42 : md_isSign 42 m = if (cut b n p).1 = 36 then 1 else 0 := tk_sign hT (K := 36) rfl (by decide)
  have i47 : md_isSign 47 m = if (cut b n p).1 = 37 then 1 else 0 := tk_sign hT (K := 37) rfl (by decide)
  have w5 := (tk_kind hT).2.2.2.2
  obtain ⟨m1, e1, e2, e3⟩ := wrong_e hT (f := 1) (by decide)
  generalize (cut b n p).1 = k at *
  unfold gOk at hk
  have j47 : md_signs_j47 m = some (0, m1) := by
    unfold md_signs_j47
    rw [k11, k12, i43, i45, i42, i47, if_neg (show ¬ k = 12 by omega), if_pos rfl, if_neg (show ¬ k = 13 by omega), if_pos rfl, if_neg (show ¬ mj_I (m 68 8) = 5 from fun z => by have := w5.mp z; omega), if_neg (show ¬ k = 34 by omega), if_pos rfl, if_neg (show ¬ k = 35 by omega), if_pos rfl, if_neg (show ¬ k = 36 by omega), if_pos rfl, if_neg (show ¬ k = 37 by omega), if_pos rfl]
    unfold md_signs_j147
    rw [if_pos rfl, show md_wrong 1 m = some (0, m1) from e1, Option.bind_some, if_pos (Or.inl rfl)]
  unfold md_signs
  rw [i41, h44]
  by_cases c : k = 27
  · rw [if_pos c, if_neg not01, if_pos (show nI br ≤ 0 by rw [h27 c]; decide)]
    exact ⟨m1, j47, e2, fr45_RE e3⟩
  · rw [if_neg c, if_pos rfl]
    exact ⟨m1, j47, e2, fr45_RE e3⟩
/-- the signs wants and mayNot set -/
theorem RS_set {M : mj_M} {br' wa' mn' : Nat} (h : RSt m kc W Kn br wa mn cd F0) (hl : W.length ≤ kc + br') (hb : br' ≤ 8) (hM : ∀ a j, ¬ (a = 68 ∧ (7 ≤ j ∧ j ≤ 10 ∨ j = 44 ∨ j = 46 ∨ j = 47)) → M a j = m a j) (h44 : mj_I (M 68 44) = nI br') (h46 : mj_I (M 68 46) = nI wa') (h47 : mj_I (M 68 47) = nI mn') : RSt M kc W Kn br' wa' mn' cd F0 := by
  obtain ⟨⟨⟨a1, a2, a3, a4, a5, a6⟩, a7, a8, ⟨a9, a10, a11, a12, a13⟩, a14⟩, b1, b2⟩ := h
  refine ⟨⟨⟨?_, ?_, ?_, h44, h46, h47⟩, ?_, ?_, ⟨hl, hb, a11, a12, a13⟩, a14⟩, ?_, ?_⟩
  · rw [hM _ _ (by omega)]; exact a1
  · rw [hM _ _ (by omega)]; exact a2
  · rw [hM _ _ (by omega)]; exact a3
  · exact stW_cong (fun j _ => hM _ _ (by omega)) a7
  · exact fun i hi => knR_cong (m := shm m) (m1 := shm M) (fun a z1 z2 => show M a (64 + (F0 + i)) = m a (64 + (F0 + i)) from hM _ _ (by omega)) (a8 i hi)
  · rw [hM _ _ (by omega)]; exact b1
  · exact stH_cong (fun j _ => hM _ _ (by omega)) b2
theorem nx_le (hp : p ≤ n) : nx b n p ≤ n := by
  by_cases z : p < n
  · exact (nx_gt z).2
  · rw [show p = n by omega, nx_end]; exact Nat.le_refl _
theorem frB_RT (h : frB F0 m m1) (hT : RT m b n p) : RT m1 b n p := hT.cong (h _ _ (by omega) (by omega) (by omega)) (fun j z1 z2 => h _ _ (by omega) (by omega) (by omega))
theorem signs_e {g : Nat} (hT : RT m b n p) (ht : tpR m b n) (hwo : ∀ i, i < 100 → mj_I (m 70 i) = wcR i) (hp : p ≤ n) (hk : (cut b n p).1 = g) (hg : gOk g) (hI : Itr (md_bind_l0 (nI (blv g))) j m m1) (hj : j ≤ 1000) (fB : frB F0 m m1) (hS : RSt m1 kc W Kn br 0 mn cd F0) (hstop : topR W < blv g) (hcmp : rkN (lwk g) = 4 → topR W ≠ 4) : (kc < 64 ∧ ∃ m2, md_signs m = some (1, m2) ∧ RE m2 b n (nx b n p) (kc + 1) (lwk g :: W) Kn br 1 (if 3 ≤ rkN (lwk g) then 0 else 1) cd F0 ∧ frRE F0 m m2) ∨ (kc = 64 ∧ ∃ m2, md_signs m = some (0, m2) ∧ fR m2 2 p ∧ frRE F0 m m2) := by
  obtain ⟨b1, b2, b3, b4⟩ := gOk_b hg
  have r6 := rkN_6 (lwk g)
  have hrun := bind_run hI (bind_stop hS.1 hstop (by omega)) hj
  have hT1 := frB_RT fB hT
  have hS0 := hS
  obtain ⟨⟨⟨a1, a2, a3, a4, a5, a6⟩, a7, a8, ⟨a9, a10, a11, a12, a13⟩, a14⟩, c1, c2⟩ := hS
  -- behind the reductions
  have j217 : (kc < 64 ∧ ∃ m2, md_signs_j217 (nI (lwk g)) m1 = some (1, m2) ∧ RE m2 b n (nx b n p) (kc + 1) (lwk g :: W) Kn br 1 (if 3 ≤ rkN (lwk g) then 0 else 1) cd F0 ∧ frRE F0 m m2) ∨ (kc = 64 ∧ ∃ m2, md_signs_j217 (nI (lwk g)) m1 = some (0, m2) ∧ fR m2 2 p ∧ frRE F0 m m2) := by
    unfold md_signs_j217
    rcases counted_e hT1 a1 a11 with ⟨k1, k2⟩ | ⟨k1, m2, k2, k3, k4⟩
    · left
      rw [k2, Option.bind_some, if_neg not01]
      dsimp only
      obtain ⟨m2, g1, g2, g3⟩ := push_e (x := lwk g) (kc' := kc + 1) (br' := br) (M := mj_up m1 68 45 (.int (nI (kc + 1)))) hS0 b1 (by omega) (by omega) a10 (by omega) (fun a j z => na_upN (by omega)) (by rw [na_upS]; rfl) (by rw [na_upN (by omega)]; exact a2) (by rw [na_upN (by omega)]) (by rw [na_upN (by omega)]; exact a4) (by rw [na_upN (by omega)]; exact a5) (by rw [na_upN (by omega)]; exact a6)
      have kA : ∀ a j, ¬ (a = 68 ∧ (j = 42 ∨ j = 45)) → a ≠ 89 → m2 a j = m1 a j := fun a j z1 z2 => by rw [g3 a j (by omega) z2, na_upN (by omega)]
      rw [g1, Option.bind_some, md_rank_e b1]
      have fin : ∀ s : Nat, s = (if 3 ≤ rkN (lwk g) then 0 else 1) → ∃ m3, md_signs_j250 (nI s) (mj_up m2 68 46 (.int 1)) = some (1, m3) ∧ RE m3 b n (nx b n p) (kc + 1) (lwk g :: W) Kn br 1 (if 3 ≤ rkN (lwk g) then 0 else 1) cd F0 ∧ frRE F0 m m3 := by
        intro s hs
        have s01 : nI s = 0 ∨ nI s = 1 := by
          rw [hs]
          split
          · exact Or.inl rfl
          · exact Or.inr rfl
        unfold md_signs_j250
        rw [if_pos s01]
        have kB : ∀ a j, ¬ (a = 68 ∧ (j = 46 ∨ j = 47)) → mj_up (mj_up m2 68 46 (.int 1)) 68 47 (.int (nI s)) a j = m2 a j := fun a j z => by rw [na_upN (by omega), na_upN (by omega)]
        obtain ⟨m3, t1, t2, t3⟩ := tok_e (m := mj_up (mj_up m2 68 46 (.int 1)) 68 47 (.int (nI s))) (hT1.cong (by rw [kB _ _ (by omega), kA _ _ (by omega) (by omega)]) (fun j z1 z2 => by rw [kB _ _ (by omega), kA _ _ (by omega) (by omega)])) (ht.cong (funext fun j => by rw [kB _ _ (by omega), kA _ _ (by omega) (by omega), fB _ _ (by omega) (by omega) (by omega)]) (by rw [kB _ _ (by omega), kA _ _ (by omega) (by omega), fB _ _ (by omega) (by omega) (by omega)]) (by rw [kB _ _ (by omega), kA _ _ (by omega) (by omega), fB _ _ (by omega) (by omega) (by omega)])) (fun i hi => by rw [kB _ _ (by omega), kA _ _ (by omega) (by omega), fB _ _ (by omega) (by omega) (by omega)]; exact hwo i hi) hp
        rw [t1, Option.bind_some]
        refine ⟨m3, rfl, ⟨t2, ht.cong (funext fun j => by rw [t3 _ _ (by omega), kB _ _ (by omega), kA _ _ (by omega) (by omega), fB _ _ (by omega) (by omega) (by omega)]) (by rw [t3 _ _ (by omega), kB _ _ (by omega), kA _ _ (by omega) (by omega), fB _ _ (by omega) (by omega) (by omega)]) (by rw [t3 _ _ (by omega), kB _ _ (by omega), kA _ _ (by omega) (by omega), fB _ _ (by omega) (by omega) (by omega)]), fun i hi => by rw [t3 _ _ (by omega), kB _ _ (by omega), kA _ _ (by omega) (by omega), fB _ _ (by omega) (by omega) (by omega)]; exact hwo i hi, nx_le hp, ?_⟩, fun a j z => ?_⟩
        · refine RS_set g2 (by simp only [List.length_cons]; omega) a10 (fun a j z => by rw [t3 _ _ (by omega), kB _ _ (by omega)]) ?_ ?_ ?_
          · rw [t3 _ _ (by omega), kB _ _ (by omega), kA _ _ (by omega) (by omega)]; exact a4
          · rw [t3 _ _ (by omega), na_upN (by omega), na_upS]; rfl
          · rw [t3 _ _ (by omega), na_upS, ← hs]; rfl
        · unfold okRE at z
          rw [t3 _ _ (by omega), kB _ _ (by omega), kA _ _ (by omega) (by omega), fB _ _ (by omega) (by omega) (by omega)]
      by_cases c3 : 3 ≤ rkN (lwk g)
      · rw [if_pos (show (3 : Int32) ≤ nI (rkN (lwk g)) from nI_le (a := 3) c3 (by omega))]
        exact ⟨k1, fin 0 (if_pos c3).symm⟩
      · rw [if_neg (show ¬ (3 : Int32) ≤ nI (rkN (lwk g)) from nI_ge (b := 3) (by omega) (by omega))]
        exact ⟨k1, fin 1 (if_neg c3).symm⟩
    · right
      rw [k2, Option.bind_some, if_pos rfl]
      exact ⟨k1, m2, rfl, k3, frRE_tr (frB_RE fB) (fr45_RE k4)⟩
  have j175 : md_signs m = (md_bind (nI (blv g)) m).bind fun q9 => (if (md_rank (nI (lwk g)) q9) = 4 then (if (mj_I (q9 68 42)) ≤ 0 then md_signs_j217 (nI (lwk g)) q9 else
  (if ((mj_I (q9 68 42)) - 1) < 0 ∨ 96 ≤ (((mj_I (q9 68 42)) - 1) : Int32).toNatClampNeg then none else
  (if (md_rank (mj_I (q9 89 ((mj_I (q9 68 42)) - 1).toNatClampNeg)) q9) = 4 then (md_wrong 1 q9).bind fun q20 =>
  (if q20.1 = 0 ∨ q20.1 = 1 then some (q20.1, q20.2) else none) else
  md_signs_j217 (nI (lwk g)) q9))) else
  md_signs_j217 (nI (lwk g)) q9) := by
    rw [signs_op hT hk hg]
    unfold md_signs_j147
    rw [if_neg (nI_ne0 (by omega) (by omega)), md_rank_e b1]
    unfold blv
    by_cases c : rkN (lwk g) = 4
    · rw [if_pos (show nI (rkN (lwk g)) = 4 by rw [c]; rfl), if_pos c]
      rfl
    · rw [if_neg (show ¬ nI (rkN (lwk g)) = 4 from fun z => c ((nI_eq (b := 4) (by omega) (by omega)).mp z)), if_neg c]
      rfl
  rw [j175, hrun, Option.bind_some, md_rank_e b1]
  by_cases c : rkN (lwk g) = 4
  case neg =>
    rw [if_neg (show ¬ nI (rkN (lwk g)) = 4 from fun z => c ((nI_eq (b := 4) (by omega) (by omega)).mp z))]
    exact j217
  rw [if_pos (show nI (rkN (lwk g)) = 4 by rw [c]; rfl), a2]
  cases W with
  | nil =>
    rw [if_pos (show nI ([] : List Nat).length ≤ 0 by decide)]
    exact j217
  | cons x W =>
    have hx := a14 x (List.mem_cons_self ..)
    have hne : rkN x ≠ 4 := hcmp c
    have hx6 := rkN_6 x
    have a9 : W.length + 1 ≤ kc + br := a9
    have y0 : (nI W.length < 0) = False := eq_false (nI_pos (by omega))
    have y1 : (96 ≤ W.length) = False := eq_false (by omega)
    have y3 : (nI W.length).toNatClampNeg = W.length := nI_clamp (by omega)
    rw [show (x :: W).length = W.length + 1 from rfl, if_neg (nI_nle (by omega) (by omega)), nI_pred]
    simp only [y0, y1, y3, or_self, if_false]
    rw [a7.1, md_rank_e hx, if_neg (show ¬ nI (rkN x) = 4 from fun z => hne ((nI_eq (b := 4) (by omega) (by omega)).mp z))]
    exact j217
/-- two comparisons one behind the other -/
theorem signs_cmp {g x : Nat} (hT : RT m b n p) (hk : (cut b n p).1 = g) (hg : 28 ≤ g ∧ g ≤ 33) (hI : Itr (md_bind_l0 (nI 5)) j m m1) (hj : j ≤ 1000) (fB : frB F0 m m1) (hS : RSt m1 kc (x :: W) Kn br wa mn cd F0) (hx4 : rkN x = 4) : ∃ m2, md_signs m = some (0, m2) ∧ fR m2 1 p ∧ frRE F0 m m2 := by
  have hgo : gOk g := Or.inr (Or.inr ⟨hg.1, by omega⟩)
  have hr4 : rkN (lwk g) = 4 := by
    rcases (show g = 28 ∨ g = 29 ∨ g = 30 ∨ g = 31 ∨ g = 32 ∨ g = 33 by omega) with rfl | rfl | rfl | rfl | rfl | rfl <;> rfl
  obtain ⟨b1, b2, b3, b4⟩ := gOk_b hgo
  have hrun := bind_run hI (bind_stop hS.1 (show rkN x < 5 by omega) (by omega)) hj
  have hT1 := frB_RT fB hT
  obtain ⟨⟨⟨a1, a2, a3, a4, a5, a6⟩, a7, a8, ⟨a9, a10, a11, a12, a13⟩, a14⟩, c1, c2⟩ := hS
  have hx := a14 x (List.mem_cons_self ..)
  have a9 : W.length + 1 ≤ kc + br := a9
  have y0 : (nI W.length < 0) = False := eq_false (nI_pos (by omega))
  have y1 : (96 ≤ W.length) = False := eq_false (by omega)
  have y3 : (nI W.length).toNatClampNeg = W.length := nI_clamp (by omega)
  obtain ⟨m2, e1, e2, e3⟩ := wrong_e hT1 (f := 1) (by decide)
  refine ⟨m2, ?_, e2, frRE_tr (frB_RE fB) (fr45_RE e3)⟩
  rw [signs_op hT hk hgo]
  unfold md_signs_j147
  rw [if_neg (nI_ne0 (by omega) (by omega)), md_rank_e b1, hr4, if_pos (show nI 4 = 4 from rfl)]
  unfold md_signs_j175
  rw [show md_bind 5 m = some m1 from hrun, Option.bind_some, md_rank_e b1, hr4, if_pos (show nI 4 = 4 from rfl), a2, show (x :: W).length = W.length + 1 from rfl, if_neg (nI_nle (by omega) (by omega)), nI_pred]
  simp only [y0, y1, y3, or_self, if_false]
  rw [a7.1, md_rank_e hx, hx4, if_pos (show nI 4 = 4 from rfl), show md_wrong 1 m1 = some (0, m2) from e1, Option.bind_some, if_pos (Or.inl rfl)]
/-- a bracket closes -/
theorem close_e (hT : RT m b n p) (ht : tpR m b n) (hwo : ∀ i, i < 100 → mj_I (m 70 i) = wcR i) (hp : p ≤ n) (hk : (cut b n p).1 = 27) (hI : Itr (md_bind_l0 (nI 1)) j m m1) (hj : j ≤ 1000) (fB : frB F0 m m1) (hS : RSt m1 kc (0 :: W) Kn (br + 1) 0 mn cd F0) : ∃ m2, md_signs m = some (1, m2) ∧ RE m2 b n (nx b n p) kc W Kn br 0 mn cd F0 ∧ frRE F0 m m2 := by
  have i41 : md_isSign 41 m = if (cut b n p).1 = 27 then 1 else 0 := tk_sign hT (K := 27) rfl (by decide)
  rw [if_pos hk] at i41
  have hrun := bind_run hI (bind_stop hS.1 (show rkN 0 < 1 by decide) (by omega)) hj
  have hT1 := frB_RT fB hT
  obtain ⟨⟨⟨a1, a2, a3, a4, a5, a6⟩, a7, a8, ⟨a9, a10, a11, a12, a13⟩, a14⟩, c1, c2⟩ := hS
  have a9 : W.length + 1 ≤ kc + (br + 1) := a9
  have a2 : mj_I (m1 68 42) = nI (W.length + 1) := a2
  have e44 : mj_I (m 68 44) = nI (br + 1) := by rw [← fB _ _ (by omega) (by omega) (by omega)]; exact a4
  unfold md_signs
  rw [i41, if_neg not01, e44, if_neg (nI_nle (by omega) (by omega)), show md_bind 1 m = some m1 from hrun, Option.bind_some, a2, a4, nI_pred, nI_pred]
  have kB : ∀ a j, ¬ (a = 68 ∧ (j = 42 ∨ j = 44)) → mj_up (mj_up m1 68 42 (.int (nI W.length))) 68 44 (.int (nI br)) a j = m1 a j := fun a j z => by rw [na_upN (by omega), na_upN (by omega)]
  obtain ⟨m3, t1, t2, t3⟩ := tok_e (m := mj_up (mj_up m1 68 42 (.int (nI W.length))) 68 44 (.int (nI br))) (hT1.cong (by rw [kB _ _ (by omega)]) (fun j z1 z2 => by rw [kB _ _ (by omega)])) (ht.cong (funext fun j => by rw [kB _ _ (by omega), fB _ _ (by omega) (by omega) (by omega)]) (by rw [kB _ _ (by omega), fB _ _ (by omega) (by omega) (by omega)]) (by rw [kB _ _ (by omega), fB _ _ (by omega) (by omega) (by omega)])) (fun i hi => by rw [kB _ _ (by omega), fB _ _ (by omega) (by omega) (by omega)]; exact hwo i hi) hp
  rw [t1, Option.bind_some]
  have kC : ∀ a j, ¬ (a = 68 ∧ (j = 42 ∨ j = 44 ∨ (7 ≤ j ∧ j ≤ 10))) → m3 a j = m1 a j := fun a j z => by rw [t3 _ _ (by omega), kB _ _ (by omega)]
  refine ⟨m3, rfl, ⟨t2, ht.cong (funext fun j => by rw [kC _ _ (by omega), fB _ _ (by omega) (by omega) (by omega)]) (by rw [kC _ _ (by omega), fB _ _ (by omega) (by omega) (by omega)]) (by rw [kC _ _ (by omega), fB _ _ (by omega) (by omega) (by omega)]), fun i hi => by rw [kC _ _ (by omega), fB _ _ (by omega) (by omega) (by omega)]; exact hwo i hi, nx_le hp, ?_⟩, fun a j z => ?_⟩
  · refine ⟨⟨⟨?_, ?_, ?_, ?_, ?_, ?_⟩, ?_, ?_, ⟨by omega, by omega, a11, a12, a13⟩, fun y hy => a14 y (List.mem_cons_of_mem _ hy)⟩, ?_, ?_⟩
    · rw [kC _ _ (by omega)]; exact a1
    · rw [t3 _ _ (by omega), na_upN (by omega), na_upS]; rfl
    · rw [kC _ _ (by omega)]; exact a3
    · rw [t3 _ _ (by omega), na_upS]; rfl
    · rw [kC _ _ (by omega)]; exact a5
    · rw [kC _ _ (by omega)]; exact a6
    · exact stW_cong (fun j _ => kC _ _ (by omega)) a7.2
    · exact fun i hi => knR_cong (m := shm m1) (m1 := shm m3) (fun a z1 z2 => show m3 a (64 + (F0 + i)) = m1 a (64 + (F0 + i)) from kC _ _ (by omega)) (a8 i hi)
    · rw [kC _ _ (by omega)]; exact c1
    · exact stH_cong (fun j _ => kC _ _ (by omega)) c2
  · unfold okRE at z
    rw [kC _ _ (by omega), fB _ _ (by omega) (by omega) (by omega)]
/-! the loop -/
theorem body_leaf (h46 : mj_I (m 68 46) = nI 1) : md_sumRead_l25 m = (md_leafRead m).bind fun q5 => (if q5.1 = 0 then some (1, q5.2) else some (0, q5.2)) := by
  unfold md_sumRead_l25 md_sumRead_j48l25
  rw [h46, if_neg (show ¬ nI 1 = 0 by decide), if_neg (show ¬ nI 1 = 0 by decide)]
  split <;> rfl
theorem body_sign (h46 : mj_I (m 68 46) = nI 0) (h44 : mj_I (m 68 44) = nI br) (hb : br ≤ 8) (hT : RT m b n p) (hk : (cut b n p).1 ≠ 25 ∨ 0 < br) : md_sumRead_l25 m = (md_signs m).bind fun q3 => (if q3.1 = 0 then some (1, q3.2) else some (0, q3.2)) := by
  have i59 : md_isSign 59 m = if (cut b n p).1 = 25 then 1 else 0 := tk_sign hT (K := 25) rfl (by decide)
  unfold md_sumRead_l25 md_sumRead_j48l25
  rw [i59, h46, h44, if_pos (show nI 0 = 0 from rfl), if_pos (show nI 0 = 0 from rfl)]
  by_cases c : (cut b n p).1 = 25
  · have : 0 < br := by
      rcases hk with h | h
      · exact absurd c h
      · exact h
    rw [if_pos c, if_neg not01, if_neg (nI_nle this (by omega))]
  · rw [if_neg c, if_pos rfl]
theorem body_end (h46 : mj_I (m 68 46) = nI 0) (h44 : mj_I (m 68 44) = nI 0) (hT : RT m b n p) (hk : (cut b n p).1 = 25) : md_sumRead_l25 m = some (2, m) := by
  have i59 : md_isSign 59 m = if (cut b n p).1 = 25 then 1 else 0 := tk_sign hT (K := 25) rfl (by decide)
  unfold md_sumRead_l25
  rw [i59, h46, h44, if_pos hk, if_neg not01, if_pos (show nI 0 = 0 from rfl), if_pos (show nI 0 ≤ 0 by decide)]
end SGN
