/-! CALLS THAT TRY, 8: shifts (own work) -/
def lH (E : zE) (K : Nat) : Nat → Nat
  | 0 => 0
  | i + 1 => if (stD E K K).2.testBit i = true then max (lH E K i) (E.2 i 1) else lH E K i
theorem lH_S {E : zE} {K i : Nat} : lH E K (i + 1) = if (stD E K K).2.testBit i = true then max (lH E K i) (E.2 i 1) else lH E K i := rfl
theorem lH_ge {E : zE} {K : Nat} : ∀ n i, i < n → (stD E K K).2.testBit i = true → E.2 i 1 ≤ lH E K n := by
  intro n
  induction n with
  | zero => intro i hi; omega
  | succ n ih =>
    intro i hi hs
    rw [lH_S]
    by_cases c : i = n
    · subst c
      rw [if_pos hs]
      omega
    · have := ih i (by omega) hs
      split <;> omega
theorem lH_le {T : zT} {E : zE} {K : Nat} (hE : WE T E) (hK : K ≤ E.1.1) : ∀ n, n ≤ E.1.1 → lH E K n ≤ 40 := by
  intro n
  induction n with
  | zero => intro _; exact Nat.zero_le _
  | succ n ih =>
    intro h
    have := ih (by omega)
    rw [lH_S]
    split
    · rename_i hs
      have c0 := ((stD_bit hE hK K (Nat.le_refl _) n).mp hs).2.2.2
      have := (hE.see n (by omega) c0).2.1
      omega
    · omega
theorem lastHour_e {m : mj_M} {T : zT} {E : zE} {K : Nat} (hE : WE T E) (hC : seC m E) (hK : K ≤ E.1.1) : si_lastHour (nI (stD E K K).2) m = some (nI (lH E K E.1.1)) := by
  have hc := hE.cnt
  have hl := stD_lt hE hK K (Nat.le_refl _)
  have z63 : mj_siz 63 ≤ 5000 ∧ 24 ≤ mj_siz 63 := by decide
  have e1 : mj_loop (si_lastHour_l4 (nI (stD E K K).2) m) mj_F (0, 0) = some (0, (nI (lH E K E.1.1), nI E.1.1)) := by
    refine lp_eq (fun i => (nI (lH E K i), nI i)) E.1.1 (by unfold mj_F; omega) (fun i hi => ?_) ?_
    · have h40 := lH_le hE hK i (by omega)
      unfold si_lastHour_l4 si_lastHour_j33l4
      dsimp only
      rw [hC.cnt, if_neg (nI_ge hi (by omega)), na_bp_has (by omega) (by omega), ← nI_succ, lH_S]
      by_cases c : (stD E K K).2.testBit i = true
      · have c0 := ((stD_bit hE hK K (Nat.le_refl _) i).mp c).2.2.2
        have hs := hE.see i hi c0
        rw [if_pos c, if_pos c, if_neg not01, na_at z63.1 (by omega), (hC.see i hi c0).2.1]
        unfold ma_max
        have z1 := @lt_nn (lH E K i) (E.2 i 1) (by omega) (by omega)
        have z2 := @lt_nn (E.2 i 1) (lH E K i) (by omega) (by omega)
        have z3 := nI_leI (a := lH E K i) (b := E.2 i 1) (by omega) (by omega)
        have z4 := nI_leI (a := E.2 i 1) (b := lH E K i) (by omega) (by omega)
        simp only [z1, z2, z3, z4]
        first
          | (by_cases q : lH E K i < E.2 i 1
             · rw [if_pos q, Nat.max_eq_right (by omega)]
             · rw [if_neg q, Nat.max_eq_left (by omega)])
          | (by_cases q : E.2 i 1 < lH E K i
             · rw [if_pos q, Nat.max_eq_left (by omega)]
             · rw [if_neg q, Nat.max_eq_right (by omega)])
          | (by_cases q : E.2 i 1 ≤ lH E K i
             · rw [if_pos q, Nat.max_eq_left (by omega)]
             · rw [if_neg q, Nat.max_eq_right (by omega)])
          | (by_cases q : lH E K i ≤ E.2 i 1
             · rw [if_pos q, Nat.max_eq_right (by omega)]
             · rw [if_neg q, Nat.max_eq_left (by omega)])
      · rw [if_neg c, if_neg c, if_pos rfl]
    · unfold si_lastHour_l4
      dsimp only
      rw [hC.cnt, if_pos (nI_le (Nat.le_refl _) (by omega))]
  unfold si_lastHour
  rw [e1]
  rfl
theorem sBt_n1 {T : zT} {pc n n' : Nat} {S : zS} : (sBt T pc 1 S n).1 = (sBt T pc 1 S n').1 := by
  unfold sBt sWasp
  dsimp only
  split
  · rfl
  · rw [if_pos rfl, if_pos rfl]
theorem aH_n {T : zT} {S : zS} {n n' : Nat} : ∀ i, aH T S n i = aH T S n' i := by
  intro i
  induction i with
  | zero => rfl
  | succ i ih =>
    rw [aH_succ, aH_succ, ih]
    show sHr T (aH T S n' i) (sBt T 0 1 (aH T S n' i) n).1 = sHr T (aH T S n' i) (sBt T 0 1 (aH T S n' i) n').1
    rw [sBt_n1 (n := n) (n' := n')]
/-- at first, SHIFTED so -/
def sG (T : zT) (k : Nat) : zS := ((sF T).1, u2 (sF T).2 0 2 (nI (3 * k)))
theorem sG_WS {T : zT} {k : Nat} (hw : WT T) (hk : k ≤ 9) : WS T 0 (sG T k) := by
  have h := sF_WS hw
  refine ⟨h.hour, h.coil, ?_, h.here, h.hic, h.left⟩
  show -99 ≤ (nI (3 * k)).toInt ∧ (nI (3 * k)).toInt ≤ 99
  rw [nI_toInt (by omega)]
  omega
def fitP (T : zT) (E : zE) (K k h : Nat) : Prop := ∀ i, okB E K (aH T (sG T k) 0 h) h i
section SHIFTS
variable {t : Nat} {m : mj_M} {T : zT} {S : zS} {n : Nat} {us : List zS} {I : Option (zS × Nat)} {E : zE} {B : zB} {F : Int32 × Int32}
theorem shifted_C {K k : Nat} (ht : t = 3 ∨ t = 17) (hC : CV t m T S n us I E B F) (hW : WV T S n us I E B F) (hK : K ≤ E.1.1) (hk : k ≤ 9) : ∃ x m1, bp_isShiftedBy t (nI (3 * k)) (nI (stD E K K).2) (nI (lH E K E.1.1)) m = some (x, m1) ∧ frT m m1 ∧ ((x = 1 ∧ ∀ h, 1 ≤ h → h ≤ 40 → fitP T E K k h) ∨ (x = 0 ∧ ∃ h, 1 ≤ h ∧ h ≤ 40 ∧ ¬ fitP T E K k h)) := by
  have hsd := hW.T.seed
  have hL := lH_le hW.se hK E.1.1 (Nat.le_refl _)
  have hlast : ∀ h, lH E K E.1.1 < h → fitP T E K k h := fun h hh i hs he => by
    have hb := (stD_bit hW.se hK K (Nat.le_refl _) i).mp hs
    have := lH_ge E.1.1 i (by omega) hs
    omega
  obtain ⟨m1, e1, f1, s1, n1⟩ := sa_begin_e (sp := 47) ht (Or.inr (Or.inl rfl)) hC.T hW.T
  have hG : ∀ h, WS T (0 + h) (aH T (sG T k) 0 h) := fun h => aH_WS hW.T (sG_WS hW.T hk) h
  have hh0 : ∀ h, (aH T (sG T k) 0 h).1 0 0 = h := fun h => by
    rw [aH_hour]
    show 0 + h = h
    omega
  unfold bp_isShiftedBy
  rw [e1, Option.bind_some]
  have f2 : frT m (mj_up m1 47 2 (.int (nI (3 * k)))) := frT_tr (frT_C f1) (fun a h1 h2 h3 => funext fun j => na_upN (by omega))
  have s2 : SC T 47 (mj_up m1 47 2 (.int (nI (3 * k)))) (sG T k) := by
    have e : ∀ a j, a ≠ 47 ∨ j ≠ 2 → mj_up m1 47 2 (.int (nI (3 * k))) a j = m1 a j := fun a j hk => na_upN (by omega)
    refine ⟨?_, ?_, rfl, ?_, ?_, ?_, ?_, ?_, ?_, ?_⟩
    · rw [e _ _ (by decide)]; exact s1.hour
    · rw [e _ _ (by decide)]; exact s1.coil
    · rw [e _ _ (by decide)]; exact s1.here
    · intro q hq; rw [e _ _ (by omega)]; exact s1.2.2.2.2.1 q hq
    · intro q hq h6; rw [e _ _ (by omega)]; exact s1.2.2.2.2.2.1 q hq h6
    · intro q hq; rw [e _ _ (by omega)]; exact s1.2.2.2.2.2.2.1 q hq
    · intro q hq h6; rw [e _ _ (by omega)]; exact s1.2.2.2.2.2.2.2.1 q hq h6
    · intro q hq; rw [e _ _ (by omega)]; exact s1.2.2.2.2.2.2.2.2.1 q hq
    · intro q hq; rw [e _ _ (by omega)]; exact s1.2.2.2.2.2.2.2.2.2 q hq
  obtain ⟨ta, sa, e2, q1, q2⟩ := lp_ex (body := bp_isShiftedBy_l22 t (nI (stD E K K).2) (nI (lH E K E.1.1))) (s := (1, mj_up m1 47 2 (.int (nI (3 * k))))) (fun i s => s.1 = nI (i + 1) ∧ frT m s.2 ∧ SC T 47 s.2 (aH T (sG T k) 0 i) ∧ mj_I (s.2 47 3) = nI (T 0 15) ∧ ∀ h, 1 ≤ h → h ≤ i → fitP T E K k h) (fun a s => frT m s.2 ∧ ((a = 0 ∧ ∃ h, 1 ≤ h ∧ h ≤ 40 ∧ ¬ fitP T E K k h) ∨ (a = 1 ∧ ∀ h, 1 ≤ h → h ≤ lH E K E.1.1 → fitP T E K k h))) (lH E K E.1.1) (by unfold mj_F; omega) ⟨rfl, f2, s2, by dsimp only; rw [na_upN (by omega)]; exact n1, fun h h1 h2 => by omega⟩
    (by
      intro i s hi ⟨g1, g2, g3, g4, g5⟩
      obtain ⟨x, M⟩ := s
      dsimp only at g1 g2 g3 g4 g5
      subst g1
      have hC1 := hC.cong ht (frT_K g2)
      obtain ⟨M1, p1, p2, p3, p4, _, _⟩ := ck_pass_e (pc := 0) (mode := 1) (n := T 0 15) ht (Or.inr (Or.inl rfl)) hC1.T hW.T hW.L g3 (hG i) (by omega) hC1.inst (by decide) (by decide) (by omega) g4
      have f3 := frT_tr g2 (frT_C p2)
      have hC2 := hC.cong ht (frT_K f3)
      have p5 : SC T 47 M1 (aH T (sG T k) 0 (i + 1)) := by
        rw [aH_succ]
        have : (sHour T 0 1 (aH T (sG T k) 0 i, 0)).1 = (sHour T 0 1 (aH T (sG T k) 0 i, T 0 15)).1 := by
          show sHr T _ (sBt T 0 1 _ 0).1 = sHr T _ (sBt T 0 1 _ (T 0 15)).1
          rw [sBt_n1 (n := 0) (n' := T 0 15)]
        rw [this]
        exact p3
      have p1 : ck_pass t 47 1 M = some M1 := p1
      have p6 : mj_I (M1 47 3) = nI (T 0 15) := by
        rw [p4]
        show nI (sBt T 0 1 _ (T 0 15)).2 = _
        rw [sBt_1]
      have hf := si_fit_e hW.T hW.se hC2.se hK p5 (hG (i + 1)) (by omega)
      rw [hh0 (i + 1)] at hf
      unfold bp_isShiftedBy_l22
      dsimp only
      rw [if_neg (nI_nlt (by omega) (by omega)), p1, Option.bind_some]
      rcases hf with ⟨q1, q2⟩ | ⟨q1, j, q2⟩
      · rw [q1, Option.bind_some, if_neg (show ¬ (1 : Int32) = 0 from by decide)]
        refine Or.inl ⟨_, rfl, (nI_succ _).symm, f3, p5, p6, fun h h1 h2 => ?_⟩
        by_cases c : h = i + 1
        · rw [c]; exact q2
        · exact g5 h h1 (by omega)
      · rw [q1, Option.bind_some, if_pos rfl]
        exact Or.inr ⟨0, _, rfl, f3, Or.inl ⟨rfl, i + 1, by omega, by omega, fun z => q2 (z j)⟩⟩)
    (by
      intro s ⟨g1, g2, g3, g4, g5⟩
      obtain ⟨x, M⟩ := s
      dsimp only at g1 g2 g3 g4 g5
      subst g1
      refine ⟨1, (nI (lH E K E.1.1 + 1), M), ?_, g2, Or.inr ⟨rfl, g5⟩⟩
      unfold bp_isShiftedBy_l22
      dsimp only
      rw [if_pos (nI_lt (by omega) (by omega))])
  rw [e2, Option.bind_some]
  dsimp only
  rcases q2 with ⟨a, q⟩ | ⟨a, q⟩
  · exact ⟨0, sa.2, by rw [if_pos a], q1, Or.inr ⟨rfl, q⟩⟩
  · refine ⟨1, sa.2, by rw [if_neg (by rw [a]; decide)], q1, Or.inl ⟨rfl, fun h h1 h2 => ?_⟩⟩
    by_cases c : h ≤ lH E K E.1.1
    · exact q h h1 c
    · exact hlast h (by omega)
theorem knR_eq {M M1 : mj_M} (h : seR M E) (h1 : seR M1 E) : md_knownBy M1 = md_knownBy M := by
  unfold md_knownBy
  rw [h.kn, h.cnt, h1.kn, h1.cnt]
def rC (E : zE) (K j : Nat) (M : mj_M) : Prop := ∀ i, i < K → mj_I (M 105 i) = if (stD E K j).1.testBit i = true then 0 else 1
theorem fits_R {M : mj_M} {K k : Nat} (hR : RV m T S n us I E B F) (hW : WV T S n us I E B F) (hK : K ≤ E.1.1) (hk : k ≤ 9) (f : frQ m M) (hkn : md_knownBy m = nI K) (h5 : rC E K K M) : ∃ x m1, md_fits (nI (3 * k)) M = some (x, m1) ∧ frQ m m1 ∧ rC E K K m1 ∧ ((x = 1 ∧ ∀ h, 1 ≤ h → h ≤ 40 → fitP T E K k h) ∨ (x = 0 ∧ ∃ h, 1 ≤ h ∧ h ≤ 40 ∧ ¬ fitP T E K k h)) := by
  have hRM := RV_Q hR hW.T f
  have hG : ∀ h, WS T (0 + h) (aH T (sG T k) 0 h) := fun h => aH_WS hW.T (sG_WS hW.T hk) h
  obtain ⟨m1, e1, s1, f1⟩ := md_atFirst_e (b := 1) (by decide) hRM.T hW.T
  have e1 : md_atFirst 1 M = some m1 := e1
  obtain ⟨m2, e2, p2, f2⟩ := md_plain_e (m := m1)
  have t1 : ((1 : Int32)).toNatClampNeg = 1 := rfl
  have q3 : frQ M (mj_up m2 99 1 (.int (nI (3 * k)))) := ⟨fun a j h => by
    unfold okq okl okc at h
    rw [na_upN (by omega), f2 _ _ (by omega), f1 _ _ (by unfold okf; omega)], by
    rw [na_upN (by omega), f2 _ _ (by omega), f1 _ _ (by unfold okf; omega)]⟩
  have r3 : rC E K K (mj_up m2 99 1 (.int (nI (3 * k)))) := fun i hi => by
    rw [na_upN (by omega), f2 _ _ (by omega), f1 _ _ (by unfold okf; omega)]
    exact h5 i hi
  have s3 : SR T 1 (mj_up m2 99 1 (.int (nI (3 * k)))) (sG T k) := by
    have e : ∀ a j, 93 ≤ a → a ≠ 99 → mj_up m2 99 1 (.int (nI (3 * k))) a j = m1 a j := fun a j h1 h2 => by rw [na_upN (by omega), f2 _ _ (by omega)]
    refine ⟨?_, ?_, rfl, ?_, ?_, ?_, ?_, ?_⟩
    · rw [e _ _ (by decide) (by decide)]; exact s1.hour
    · rw [e _ _ (by decide) (by decide)]; exact s1.coil
    · intro q hq; rw [e _ _ (by decide) (by decide)]; exact s1.here q hq
    · intro q hq; rw [e _ _ (by decide) (by decide)]; exact s1.slips q hq
    · intro q hq; rw [e _ _ (by decide) (by decide)]; exact s1.hic q hq
    · intro q hq; rw [e _ _ (by decide) (by decide)]; exact s1.left q hq
    · intro q hq; rw [e _ _ (by decide) (by decide)]; exact s1.done q hq
  have p3 : PL (mj_up m2 99 1 (.int (nI (3 * k)))) := by
    unfold PL
    rw [na_upN (by omega), na_upN (by omega), na_upN (by omega), na_upN (by omega), na_upN (by omega), na_upN (by omega)]
    exact p2
  obtain ⟨ta, sa, e4, u1, u2', u3⟩ := lp_ex (body := md_fits_l18) (s := (1, mj_up m2 99 1 (.int (nI (3 * k))))) (fun i s => s.1 = nI (i + 1) ∧ frQ m s.2 ∧ SR T 1 s.2 (aH T (sG T k) 0 i) ∧ PL s.2 ∧ rC E K K s.2 ∧ ∀ h, 1 ≤ h → h ≤ i → fitP T E K k h) (fun a s => frQ m s.2 ∧ rC E K K s.2 ∧ ((a = 0 ∧ ∃ h, 1 ≤ h ∧ h ≤ 40 ∧ ¬ fitP T E K k h) ∨ (a = 1 ∧ ∀ h, 1 ≤ h → h ≤ 40 → fitP T E K k h))) 40 (by decide) ⟨rfl, frQ_tr f q3, s3, p3, r3, fun h h1 h2 => by omega⟩
    (by
      intro i s hi ⟨g1, g2, g3, g4, g5, g6⟩
      obtain ⟨x, M'⟩ := s
      dsimp only at g1 g2 g3 g4 g5 g6
      subst g1
      have hR1 := RV_Q hR hW.T g2
      obtain ⟨M1, v1, v2, v3, v4, _, _⟩ := md_hourGoes_e (b := 1) (pc := 0) (mode := 1) (n := n) (nh := false) (by decide) hR1.T hR1.L (PL_HO g4 hW.T hR1.R9) hW.T hW.L g3 (hG i) (by omega) (PL_RF g4) (by decide) (by decide) hR1.num (by rw [g4.2.2.1]; rfl)
      have v1 : md_hourGoes 1 M' = some M1 := v1
      have v5 : SR T 1 M1 (aH T (sG T k) 0 (i + 1)) := by
        rw [aH_succ]
        have : (sHour T 0 1 (aH T (sG T k) 0 i, 0)).1 = (sHour T 0 1 (aH T (sG T k) 0 i, n)).1 := by
          show sHr T _ (sBt T 0 1 _ 0).1 = sHr T _ (sBt T 0 1 _ n).1
          rw [sBt_n1 (n := 0) (n' := n)]
        rw [this]
        exact v3
      have n2 : mj_J (M1 68 60) = lN n := by
        rw [v4]
        show lN (sBt T 0 1 _ n).2 = _
        rw [sBt_1]
      have f3 : frQ m M1 := frQ_tr g2 ⟨fun a j h => v2 a j (fun z => h (Or.inl (Or.inl z))), by rw [n2, hR1.num]⟩
      have hR2 := RV_Q hR hW.T f3
      have r5 : rC E K K M1 := fun i hi => by
        rw [v2 _ _ (by unfold okc; omega)]
        exact g5 i hi
      have hf := md_isSo_e (h := i + 1) hW.T hW.se hR2.se hK (by rw [knR_eq hR.se hR2.se]; exact hkn) r5 v5 (hG (i + 1)) (by omega)
      unfold md_fits_l18
      dsimp only
      rw [if_neg (show ¬ (40 : Int32) < nI (i + 1) from nI_nlt (a := 40) (by omega) (by decide)), v1, Option.bind_some]
      rcases hf with ⟨q1, q2⟩ | ⟨q1, j, q2⟩
      · rw [q1, Option.bind_some, if_neg (show ¬ (1 : Int32) = 0 from by decide)]
        refine Or.inl ⟨_, rfl, (nI_succ _).symm, f3, v5, PL_fr g4 v2, r5, fun h h1 h2 => ?_⟩
        by_cases c : h = i + 1
        · rw [c]; exact q2
        · exact g6 h h1 (by omega)
      · rw [q1, Option.bind_some, if_pos rfl]
        exact Or.inr ⟨0, _, rfl, f3, r5, Or.inl ⟨rfl, i + 1, by omega, by omega, fun z => q2 (z j)⟩⟩)
    (by
      intro s ⟨g1, g2, g3, g4, g5, g6⟩
      obtain ⟨x, M'⟩ := s
      dsimp only at g1 g2 g3 g4 g5 g6
      subst g1
      exact ⟨1, (nI 41, M'), rfl, g2, g5, Or.inr ⟨rfl, g6⟩⟩)
  unfold md_fits
  rw [e1, Option.bind_some, e2, Option.bind_some, t1, e4, Option.bind_some]
  dsimp only
  rcases u3 with ⟨a, q⟩ | ⟨a, q⟩
  · exact ⟨0, sa.2, by rw [if_pos a], u1, u2', Or.inr ⟨rfl, q⟩⟩
  · exact ⟨1, sa.2, by rw [if_neg (by rw [a]; decide)], u1, u2', Or.inl ⟨rfl, q⟩⟩
end SHIFTS
