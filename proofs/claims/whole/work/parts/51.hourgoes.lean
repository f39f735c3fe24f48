/-! AN HOUR, ON THE REFERENCE'S SIDE: the whole (own work) -/
theorem sWk_0 {T : zT} {S : zS} : ∀ i, sWk T S 0 i = (S, 0, 0) := by
  intro i
  induction i with
  | zero => rfl
  | succ i ih =>
    rw [sWk_succ, if_neg (by unfold sOn; simp)]
    exact ih
theorem md_wearOf_e {b be H : Nat} {T : zT} {S : zS} {m : mj_M} (hb : b < 2) (hR : LR m T) (hw : WT T) (hL : WL T) (hW : WS T H S) (hH : H ≤ 20000) (hbe : be ≤ 199) (hc : mj_I (m 98 b) = nI (S.1 0 1)) (hh : mj_I (m 100 b) = nI (S.1 0 0)) : ∃ m1, md_wearOf (nI b) (nI be) m = some (nI (sWear T S be), m1) ∧ ∀ x j, x ≠ 91 → x ≠ 92 → ¬ (x = 68 ∧ j = 50) → m1 x j = m x j := by
  have hco := hW.coil
  have hho := hW.hour
  have bb : be < 2 ^ 31 ∧ 0 < 2 ^ 31 ∧ 0 < 2 ^ 31 ∧ 0 < 2 ^ 31 ∧ 0 < 2 ^ 31 ∧ S.1 0 1 < 2 ^ 31 ∧ S.1 0 0 < 2 ^ 31 := by omega
  have e1 := lay_e (p := -1) (w := -1) (f := 0) (a := 0) (l := 0) (r := 0) hb (Or.inr ⟨rfl, rfl, rfl⟩) (Or.inr ⟨rfl, rfl, rfl⟩) hc hh bb
  obtain ⟨m1, e2, f2⟩ := asked_e (l := 1) (wo := 1) (low := 0) (most := 99) (m := m) hw hL hR (by decide) bb (by omega)
  have e2 : md_boundLaw 1 1 0 99 (lay7 m be 0 0 0 0 (S.1 0 1) (S.1 0 0)) = some (nI (sWear T S be), m1) := e2
  unfold md_wearOf
  rw [e1, Option.bind_some, e2]
  exact ⟨m1, rfl, f2⟩
theorem md_rest_e {b be H : Nat} {T : zT} {S : zS} {m : mj_M} (hb : b < 2) (hT : TR m T) (hR : LR m T) (hO : HO m T) (hw : WT T) (hL : WL T) (hS : SR T b m S) (hW : WS T H S) (hH : H ≤ 20000) (hbe : be ≤ 199) (h61 : mj_I (m 68 61) = nI 0) (h62 : mj_I (m 68 62) = nI 0) : ∃ m1, md_hourGoes_j61 (nI b) (nI be) m = some m1 ∧ frR b m m1 ∧ m1 68 60 = m 68 60 ∧ SR T b m1 (sHr T S be) ∧ mj_I (m1 68 61) = nI (sWk T S be (T 0 5)).2.2 ∧ mj_I (m1 68 62) = nI (sWk T S be (T 0 5)).2.1 := by
  have hnw := hw.nw
  have hnp := hw.np
  have hco := hW.coil
  have hho := hW.hour
  have p1 : (nI b < 0) = False := eq_false (nI_pos (by omega))
  have p1' : (2 ≤ b) = False := eq_false (by omega)
  have p2 : (nI b).toNatClampNeg = b := nI_clamp (by omega)
  have works : ∃ t s, mj_loop (md_hourGoes_l64 (nI b) (nI be)) mj_F (0, m) = some (t, s) ∧ frR b m s.2 ∧ s.2 68 60 = m 68 60 ∧ SR T b s.2 (sWk T S be (T 0 5)).1 ∧ mj_I (s.2 68 61) = nI (sWk T S be (T 0 5)).2.2 ∧ mj_I (s.2 68 62) = nI (sWk T S be (T 0 5)).2.1 := by
    by_cases hb0 : be = 0
    · subst hb0
      rw [sWk_0]
      refine ⟨0, (0, m), ?_, frR_rfl, rfl, hS, h61, h62⟩
      refine lp_eq (fun _ => (0, m)) 0 (by decide) (fun i hi => absurd hi (by omega)) ?_
      unfold md_hourGoes_l64
      dsimp only
      by_cases c : mj_I (m 68 14) ≤ 0
      · rw [if_pos c]
      · rw [if_neg c, if_pos (show nI 0 ≤ 0 by decide)]
    · refine lp_up (fun i s => s.1 = nI i ∧ frR b m s.2 ∧ s.2 68 60 = m 68 60 ∧ SR T b s.2 (sWk T S be i).1 ∧ mj_I (s.2 68 61) = nI (sWk T S be i).2.2 ∧ mj_I (s.2 68 62) = nI (sWk T S be i).2.1) _ (T 0 5) (by unfold mj_F; omega) ⟨rfl, frR_rfl, rfl, hS, h61, h62⟩ ?_ ?_
      · intro i s hi ⟨h1, h2, h3, h4, h5, h6⟩
        obtain ⟨x, ms⟩ := s
        dsimp only at h1 h2 h3 h4 h5 h6
        subst h1
        have hTs := frR_TR h2 hT
        have ho := hw.owner i hi
        have hle := hW.left i hi
        have hhe := hW.here _ ho
        have hhi := hW.hic _ ho
        have e3 : (sWk T S be i).1.1 3 i = S.1 3 i := by rw [sWk_left, if_neg (fun z => absurd z.1 (Nat.lt_irrefl i))]
        unfold md_hourGoes_l64 md_hourGoes_j95l64
        dsimp only
        rw [hTs.nw, if_neg (nI_ge hi (by omega)), if_neg (nI_nle (by omega) (by omega)), md_isOn_e (S := S) hb hTs hw (frR_HO h2 hO) hi (by rw [h4.here _ ho, sWk_row (by decide)]) (by rw [h4.hic _ ho, sWk_row (by decide)]) (by rw [h4.left i hi, e3]) (by rw [h4.hour, sWk_row (by decide)]) (by omega) (show 0 < be by omega), Option.bind_some, sWk_succ]
        by_cases c : sOn T S be i = true
        · obtain ⟨m3, p1, p2, p3, p4, p5, p6⟩ := md_works1_e hb hTs (frR_LR h2 hR) hw hL hW hH hbe hi h4 h5 h6
          rw [if_pos c, if_pos c, if_neg (show ¬ (1 : Int32) = 0 by decide), p1, Option.bind_some]
          exact ⟨_, rfl, (nI_succ i).symm, frR_tr h2 p2, p3.trans h3, p4, p5, p6⟩
        · rw [if_neg c, if_neg c, if_pos (show (0 : Int32) = 0 from rfl)]
          exact ⟨_, rfl, (nI_succ i).symm, h2, h3, h4, h5, h6⟩
      · intro s ⟨h1, h2, h3, h4, h5, h6⟩
        obtain ⟨x, ms⟩ := s
        dsimp only at h1 h2 h3 h4 h5 h6
        subst h1
        refine ⟨0, (nI (T 0 5), ms), ?_, h2, h3, h4, h5, h6⟩
        unfold md_hourGoes_l64
        dsimp only
        rw [(frR_TR h2 hT).nw, if_pos (nI_le (Nat.le_refl _) (by omega))]
  obtain ⟨tt, s1, e1, q1, q2, q3, q4, q5⟩ := works
  unfold md_hourGoes_j61
  rw [e1, Option.bind_some]
  obtain ⟨x, ms⟩ := s1
  dsimp only at q1 q2 q3 q4 q5 ⊢
  obtain ⟨m4, e4, f4, g4, hS4⟩ := md_spreads_e hb (frR_TR q1 hT) (frR_LR q1 hR) hw hL q3 (sWk_WS hW) hH hbe
  unfold md_hourGoes_j101
  rw [e4, Option.bind_some]
  have fr4 := frR_tr q1 f4
  have hc4 : (sSp T (sWk T S be (T 0 5)).1 be).1 0 1 = S.1 0 1 := by rw [sSp_o (by decide), sWk_row (by decide)]
  have hh4 : (sSp T (sWk T S be (T 0 5)).1 be).1 0 0 = S.1 0 0 := by rw [sSp_o (by decide), sWk_row (by decide)]
  have ew : sWear T (sSp T (sWk T S be (T 0 5)).1 be) be = sWear T S be := by unfold sWear; rw [hc4, hh4]
  have hwe := @sWear_le T S be
  obtain ⟨m5, e5, f5⟩ := md_wearOf_e (S := S) hb (frR_LR fr4 hR) hw hL hW hH hbe (by rw [hS4.coil, hc4]) (by rw [hS4.hour, hh4])
  rw [e5, Option.bind_some]
  simp only [p1, p1', p2, or_self, if_false]
  have v98 : mj_I (m5 98 b) = nI (S.1 0 1) := by rw [f5 _ _ (by decide) (by decide) (by omega), hS4.coil, hc4]
  have v100 : mj_I (m5 100 b) = nI (S.1 0 0) := by rw [f5 _ _ (by decide) (by decide) (by omega), hS4.hour, hh4]
  have d1 : nI (S.1 0 1) ≤ nI (sWear T S be) ↔ S.1 0 1 ≤ sWear T S be := nI_leI (by omega) (by omega)
  rw [v98]
  simp only [d1]
  have eq : (if S.1 0 1 ≤ sWear T S be then md_hourGoes_j144 (nI b) (nI b) 0 m5 else md_hourGoes_j144 (nI b) (nI b) (nI (S.1 0 1) - nI (sWear T S be)) m5) = md_hourGoes_j144 (nI b) (nI b) (nI (S.1 0 1 - sWear T S be)) m5 := by
    by_cases c : S.1 0 1 ≤ sWear T S be
    · have z : S.1 0 1 - sWear T S be = 0 := by omega
      rw [if_pos c, z]
      rfl
    · rw [if_neg c, pk_sub (by omega)]
  rw [eq]
  unfold md_hourGoes_j144
  simp only [p1, p1', p2, or_self, if_false, v100]
  rw [← nI_succ]
  have h : sHr T S be = (u2 (u2 (sSp T (sWk T S be (T 0 5)).1 be).1 0 1 ((sSp T (sWk T S be (T 0 5)).1 be).1 0 1 - sWear T (sSp T (sWk T S be (T 0 5)).1 be) be)) 0 0 ((sSp T (sWk T S be (T 0 5)).1 be).1 0 0 + 1), (sSp T (sWk T S be (T 0 5)).1 be).2) := rfl
  rw [hc4, hh4, ew] at h
  rw [h]
  have same : ∀ x j, x ≠ 98 → x ≠ 100 → x ≠ 91 → x ≠ 92 → ¬ (x = 68 ∧ j = 50) → mj_up (mj_up m5 98 b (.int (nI (S.1 0 1 - sWear T S be)))) 100 b (.int (nI (S.1 0 0 + 1))) x j = m4 x j := fun x j h1 h2 h3 h4 h5 => by rw [na_upN (fun z => h2 z.1), na_upN (fun z => h1 z.1), f5 x j h3 h4 h5]
  refine ⟨_, rfl, ?_, ?_, ⟨?_, ?_, ?_, ?_, ?_, ?_, ?_, ?_⟩, ?_, ?_⟩
  · intro x j hx
    rw [na_upN (by unfold okc at hx; omega), na_upN (by unfold okc at hx; omega), f5 x j (by unfold okc at hx; omega) (by unfold okc at hx; omega) (by unfold okc at hx; omega)]
    exact fr4 x j hx
  · rw [same _ _ (by decide) (by decide) (by decide) (by decide) (by omega), g4 _ (by decide)]; exact q2
  · rw [na_upS]; rfl
  · rw [na_upN (by omega), na_upS]; rfl
  · rw [same _ _ (by decide) (by decide) (by decide) (by decide) (by omega)]; exact hS4.shift
  · intro p hp; rw [same _ _ (by decide) (by decide) (by decide) (by decide) (by omega)]; exact hS4.here p hp
  · intro p hp; rw [same _ _ (by decide) (by decide) (by decide) (by decide) (by omega)]; exact hS4.slips p hp
  · intro p hp; rw [same _ _ (by decide) (by decide) (by decide) (by decide) (by omega)]; exact hS4.hic p hp
  · intro w hww; rw [same _ _ (by decide) (by decide) (by decide) (by decide) (by omega)]; exact hS4.left w hww
  · intro w hww; rw [same _ _ (by decide) (by decide) (by decide) (by decide) (by omega)]; exact hS4.done w hww
  · rw [same _ _ (by decide) (by decide) (by decide) (by decide) (by omega), g4 _ (by decide)]; exact q4
  · rw [same _ _ (by decide) (by decide) (by decide) (by decide) (by omega), g4 _ (by decide)]; exact q5
/-- nobody has HICCUPS -/
def sZ (S : zS) : zS := (fun a p => if a = 2 then 0 else S.1 a p, S.2)
def sNh (nh : Bool) (S : zS) : zS := if nh = true then sZ S else S
theorem sZ_o {S : zS} {a p : Nat} (h : a ≠ 2) : (sZ S).1 a p = S.1 a p := if_neg h
theorem sZ_WS {T : zT} {H : Nat} {S : zS} (h : WS T H S) : WS T H (sZ S) := ⟨h.hour, h.coil, h.shift, fun p hp => h.here p hp, fun p _ => Nat.zero_le _, fun w hw => h.left w hw⟩
theorem sNh_WS {T : zT} {H : Nat} {S : zS} {nh : Bool} (h : WS T H S) : WS T H (sNh nh S) := by
  unfold sNh
  split
  · exact sZ_WS h
  · exact h
theorem sBt_nh {T : zT} {pc mode n : Nat} {S : zS} {nh : Bool} : sBt T pc mode (sNh nh S) n = sBt T pc mode S n := by
  unfold sNh
  split <;> rfl
theorem md_hourGoes_e {b pc H mode n : Nat} {nh : Bool} {T : zT} {S : zS} {m : mj_M} (hb : b < 2) (hT : TR m T) (hR : LR m T) (hO : HO m T) (hw : WT T) (hL : WL T) (hS : SR T b m S) (hW : WS T H S) (hH : H ≤ 20000) (hF : RF m pc mode) (hpc : pc ≤ 199) (hmo : mode ≤ 2) (hN : mj_J (m 68 60) = lN n) (h65 : mj_I (m 68 65) = if nh = true then 1 else 0) : ∃ m1, md_hourGoes (nI b) m = some m1 ∧ frR b m m1 ∧ SR T b m1 (sHour T pc mode (sNh nh S, n)).1 ∧ mj_J (m1 68 60) = lN (sHour T pc mode (sNh nh S, n)).2 ∧ mj_I (m1 68 61) = nI (sWk T (sNh nh S) (sBt T pc mode S n).1 (T 0 5)).2.2 ∧ mj_I (m1 68 62) = nI (sWk T (sNh nh S) (sBt T pc mode S n).1 (T 0 5)).2.1 := by
  have hnp := hw.np
  show ∃ m1, md_hourGoes (nI b) m = some m1 ∧ frR b m m1 ∧ SR T b m1 (sHr T (sNh nh S) (sBt T pc mode (sNh nh S) n).1) ∧ mj_J (m1 68 60) = lN (sBt T pc mode (sNh nh S) n).2 ∧ _ ∧ _
  rw [sBt_nh]
  have hbe := @sBt_le T pc mode n S
  have frm : ∀ M : mj_M, (∀ x j, ¬ (x = 68 ∧ (j = 60 ∨ j = 61 ∨ j = 62)) → M x j = m x j) → frR b m M := fun M h x j hx => h x j (by unfold okc at hx; omega)
  have srm : ∀ M : mj_M, (∀ x j, ¬ (x = 68 ∧ (j = 60 ∨ j = 61 ∨ j = 62)) → M x j = m x j) → SR T b M S := fun M h => ⟨by rw [h _ _ (by omega)]; exact hS.hour, by rw [h _ _ (by omega)]; exact hS.coil, by rw [h _ _ (by omega)]; exact hS.shift, fun p hp => by rw [h _ _ (by omega)]; exact hS.here p hp, fun p hp => by rw [h _ _ (by omega)]; exact hS.slips p hp, fun p hp => by rw [h _ _ (by omega)]; exact hS.hic p hp, fun w hw => by rw [h _ _ (by omega)]; exact hS.left w hw, fun w hw => by rw [h _ _ (by omega)]; exact hS.done w hw⟩
  unfold md_hourGoes
  generalize hm0 : mj_up (mj_up m 68 61 (.int 0)) 68 62 (.int 0) = m0
  have k0 : ∀ x j, ¬ (x = 68 ∧ (j = 60 ∨ j = 61 ∨ j = 62)) → m0 x j = m x j := fun x j h => by rw [← hm0, na_upN (by omega), na_upN (by omega)]
  have a60 : m0 68 60 = m 68 60 := by rw [← hm0, na_upN (by omega), na_upN (by omega)]
  have a61 : mj_I (m0 68 61) = nI 0 := by rw [← hm0, na_upN (by omega), na_upS]; rfl
  have a62 : mj_I (m0 68 62) = nI 0 := by rw [← hm0, na_upS]; rfl
  have f0 := frm m0 k0
  obtain ⟨m1, e1, n1, g1⟩ := md_wasp_e hb (frR_TR f0 hT) hw (srm m0 k0) hW hH (frR_RF f0 hF) hpc hmo (by rw [a60]; exact hN)
  have k1 : ∀ x j, ¬ (x = 68 ∧ (j = 60 ∨ j = 61 ∨ j = 62)) → m1 x j = m x j := fun x j h => by rw [g1 x j (by omega)]; exact k0 x j h
  have f1 := frm m1 k1
  rw [e1, Option.bind_some]
  dsimp only
  rw [md_beatOf_e hb (frR_TR f1 hT) hw (srm m1 k1) hW hH (frR_RF f1 hF).1 hpc, Option.bind_some]
  have eb : (if (if (sWasp T mode (sBeat T pc S) n).1 = true then (1 : Int32) else 0) = 0 then sBeat T pc S else min 199 (2 * sBeat T pc S)) = (sBt T pc mode S n).1 := by
    unfold sBt
    dsimp only
    by_cases c : (sWasp T mode (sBeat T pc S) n).1 = true
    · rw [if_pos c, if_pos c, if_neg (show ¬ (1 : Int32) = 0 by decide)]
    · rw [if_neg c, if_neg c, if_pos (show (0 : Int32) = 0 from rfl)]
  rw [eb]
  have en : (sWasp T mode (sBeat T pc S) n).2 = (sBt T pc mode S n).2 := rfl
  rw [en] at n1
  generalize (sBt T pc mode S n).1 = be at hbe
  generalize (sBt T pc mode S n).2 = n2 at n1
  have b61 : mj_I (m1 68 61) = nI 0 := by rw [g1 _ _ (by omega)]; exact a61
  have b62 : mj_I (m1 68 62) = nI 0 := by rw [g1 _ _ (by omega)]; exact a62
  have b65 : mj_I (m1 68 65) = if nh = true then 1 else 0 := by rw [k1 _ _ (by omega)]; exact h65
  have hT1 := frR_TR f1 hT
  have w1 : ∀ i, i < T 0 0 → (nI (6 * b + i) < 0) = False := fun i hi => eq_false (nI_pos (by omega))
  have w1' : ∀ i, i < T 0 0 → (12 ≤ 6 * b + i) = False := fun i hi => eq_false (by omega)
  have w2 : ∀ i, i < T 0 0 → (nI (6 * b + i)).toNatClampNeg = 6 * b + i := fun i hi => nI_clamp (by omega)
  -- nobody has HICCUPS
  have zero : ∃ t s, mj_loop (md_hourGoes_l26 (nI b) (nI be)) mj_F (0, m1) = some (t, s) ∧ (∀ x j, ¬ (x = 96 ∧ 6 * b ≤ j ∧ j < 6 * b + 6) → s.2 x j = m1 x j) ∧ SR T b s.2 (sNh nh S) := by
    cases nh with
    | false =>
      refine ⟨0, (0, m1), ?_, fun _ _ _ => rfl, srm m1 k1⟩
      refine lp_eq (fun _ => (0, m1)) 0 (by decide) (fun i hi => absurd hi (by omega)) ?_
      unfold md_hourGoes_l26
      dsimp only
      by_cases c : mj_I (m1 68 12) ≤ 0
      · rw [if_pos c]
      · rw [if_neg c, b65, if_pos (by rfl)]
    | true =>
      have : ∃ t s, mj_loop (md_hourGoes_l26 (nI b) (nI be)) mj_F (0, m1) = some (t, s) ∧ (∀ x j, ¬ (x = 96 ∧ 6 * b ≤ j ∧ j < 6 * b + 6) → s.2 x j = m1 x j) ∧ (∀ q, q < T 0 0 → mj_I (s.2 96 (6 * b + q)) = nI 0) := by
        refine lp_up (fun i s => s.1 = nI i ∧ (∀ x j, ¬ (x = 96 ∧ 6 * b ≤ j ∧ j < 6 * b + 6) → s.2 x j = m1 x j) ∧ (∀ q, q < i → mj_I (s.2 96 (6 * b + q)) = nI 0)) _ (T 0 0) (by unfold mj_F; omega) ⟨rfl, fun _ _ _ => rfl, fun q hq => absurd hq (Nat.not_lt_zero q)⟩ ?_ ?_
        · intro i s hi ⟨h1, h2, h3⟩
          obtain ⟨x, ms⟩ := s
          dsimp only at h1 h2 h3
          subst h1
          have v12 : mj_I (ms 68 12) = nI (T 0 0) := by rw [h2 _ _ (by omega)]; exact hT1.np
          have v65 : mj_I (ms 68 65) = 1 := by rw [h2 _ _ (by omega), b65]; rfl
          unfold md_hourGoes_l26
          simp only [v12, v65, ix6, w1 i hi, w1' i hi, w2 i hi, or_self, if_false]
          rw [if_neg (nI_ge hi (by omega)), if_neg (show ¬ (1 : Int32) = 0 by decide)]
          refine ⟨_, rfl, (nI_succ i).symm, fun x j hx => ?_, fun q hq => ?_⟩
          · show mj_up ms 96 (6 * b + i) _ x j = _
            rw [na_upN (by omega)]; exact h2 x j hx
          · show mj_I (mj_up ms 96 (6 * b + i) _ 96 (6 * b + q)) = _
            by_cases c : q = i
            · rw [c, na_upS]; rfl
            · rw [na_upN (by omega)]; exact h3 q (by omega)
        · intro s ⟨h1, h2, h3⟩
          obtain ⟨x, ms⟩ := s
          dsimp only at h1 h2 h3
          subst h1
          refine ⟨0, (nI (T 0 0), ms), ?_, h2, h3⟩
          have v12 : mj_I (ms 68 12) = nI (T 0 0) := by rw [h2 _ _ (by omega)]; exact hT1.np
          unfold md_hourGoes_l26
          dsimp only
          rw [v12, if_pos (nI_le (Nat.le_refl _) (by omega))]
      obtain ⟨t, s, z1, z2, z3⟩ := this
      have h1 := srm m1 k1
      refine ⟨t, s, z1, z2, ?_⟩
      show SR T b s.2 (sZ S)
      exact ⟨by rw [z2 _ _ (by omega)]; exact h1.hour, by rw [z2 _ _ (by omega)]; exact h1.coil, by rw [z2 _ _ (by omega)]; exact h1.shift, fun p hp => by rw [z2 _ _ (by omega)]; exact h1.here p hp, fun p hp => by rw [z2 _ _ (by omega)]; exact h1.slips p hp, fun p hp => z3 p hp, fun w hw => by rw [z2 _ _ (by omega)]; exact h1.left w hw, fun w hw => by rw [z2 _ _ (by omega)]; exact h1.done w hw⟩
  obtain ⟨tt, s2, e2, z2, hS2⟩ := zero
  rw [e2, Option.bind_some]
  have f2 : frR b m1 s2.2 := fun x j hx => z2 x j (by unfold okc at hx; omega)
  have f02 := frR_tr f1 f2
  obtain ⟨m3, e3, f3, g3, hS3, q61, q62⟩ := md_rest_e hb (frR_TR f02 hT) (frR_LR f02 hR) (frR_HO f02 hO) hw hL hS2 (sNh_WS hW) hH hbe (by rw [z2 _ _ (by omega)]; exact b61) (by rw [z2 _ _ (by omega)]; exact b62)
  refine ⟨m3, e3, frR_tr f02 f3, hS3, ?_, q61, q62⟩
  rw [g3, z2 _ _ (by omega)]
  exact n1
