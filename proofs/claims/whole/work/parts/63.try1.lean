/-! CALLS THAT TRY, 1: tools; ahead, crowd, done, stops, firstSlip (own work) -/
theorem sBt_1 {T : zT} {pc n : Nat} {S : zS} : (sBt T pc 1 S n).2 = n := by
  unfold sBt sWasp
  dsimp only
  split
  · rfl
  · rw [if_pos rfl]
theorem sHours_1 {T : zT} {pc n : Nat} {S : zS} : ∀ k, (sHours T pc 1 (S, n) k).2 = n := by
  intro k
  induction k with
  | zero => rfl
  | succ k ih =>
    show (sBt T pc 1 (sHours T pc 1 (S, n) k).1 (sHours T pc 1 (S, n) k).2).2 = n
    rw [sBt_1, ih]
/-- the state in so many HOURS as it goes -/
def aH (T : zT) (S : zS) (n k : Nat) : zS := (sHours T 0 1 (S, n) k).1
theorem aH_succ {T : zT} {S : zS} {n k : Nat} : aH T S n (k + 1) = (sHour T 0 1 (aH T S n k, n)).1 := by
  show (sHour T 0 1 (sHours T 0 1 (S, n) k)).1 = _
  have e : sHours T 0 1 (S, n) k = (aH T S n k, n) := Prod.ext rfl (sHours_1 k)
  rw [e]
theorem aH_WS {T : zT} {S : zS} {n H : Nat} (hw : WT T) (h : WS T H S) (k : Nat) : WS T (H + k) (aH T S n k) := sHours_WS hw h k
/-- the slip bits of the HOUR behind k -/
def aSl (T : zT) (S : zS) (n k : Nat) : Nat := (sWk T (aH T S n k) (sBt T 0 1 (aH T S n k) n).1 (T 0 5)).2.1
def aWk (T : zT) (S : zS) (n k : Nat) : Nat := (sWk T (aH T S n k) (sBt T 0 1 (aH T S n k) n).1 (T 0 5)).2.2
/-- the first of some -/
def fstP (D : Nat → Prop) (N t : Nat) (s : Int32) : Prop := (t = 0 ∧ ∃ k, k < N ∧ D k ∧ (∀ j, j < k → ¬ D j) ∧ s = nI k) ∨ (t = 1 ∧ ∀ j, j < N → ¬ D j)
theorem fstP_eq {D : Nat → Prop} {N t t' : Nat} {s s' : Int32} (h1 : fstP D N t s) (h2 : fstP D N t' s') : t = t' ∧ (t = 0 → s = s') := by
  rcases h1 with ⟨a, k, k1, k2, k3, k4⟩ | ⟨a, k1⟩ <;> rcases h2 with ⟨b, i, i1, i2, i3, i4⟩ | ⟨b, i1⟩
  · refine ⟨by omega, fun _ => ?_⟩
    have : k = i := by
      rcases Nat.lt_trichotomy k i with h | h | h
      · exact absurd k2 (i3 k h)
      · exact h
      · exact absurd i2 (k3 i h)
    rw [k4, i4, this]
  · exact absurd k2 (i1 k k1)
  · exact absurd i2 (k1 i i1)
  · exact ⟨by omega, fun z => by omega⟩
section TRY
variable {t : Nat} {m : mj_M} {T : zT} {S : zS} {n : Nat} {us : List zS} {I : Option (zS × Nat)} {E : zE} {B : zB} {F : Int32 × Int32}
/-- the class's trial stands so -/
def KC (T : zT) (n : Nat) (m0 m : mj_M) (R : zS) : Prop := frT m0 m ∧ SC T 47 m R ∧ mj_I (m 47 3) = nI n
/-- the reference's trial stands so -/
def KR (T : zT) (n : Nat) (m0 m : mj_M) (R : zS) : Prop := frQ m0 m ∧ SR T 1 m R ∧ PL m ∧ mj_J (m 68 60) = lN n
theorem try_C (hC : CV t m T S n us I E B F) (hW : WV T S n us I E B F) : ∃ m1, sa_copy 47 42 m = some m1 ∧ KC T n m m1 S := by
  obtain ⟨m1, e1, s1, n1, f1⟩ := sa_copy_e (sp := 47) (sp2 := 42) (Or.inr (Or.inl rfl)) (Or.inl rfl) (by decide) hW.T hC.S
  exact ⟨m1, e1, fun k h1 h2 h3 => f1 k (by omega), s1, by rw [n1]; exact hC.num⟩
theorem step_C {M : mj_M} {R : zS} {H : Nat} (ht : t = 3 ∨ t = 17) (hC : CV t m T S n us I E B F) (hW : WV T S n us I E B F) (hK : KC T n m M R) (hR : WS T H R) (hH : H ≤ 20000) : ∃ M1, ck_pass t 47 1 M = some M1 ∧ KC T n m M1 (sHour T 0 1 (R, n)).1 ∧ mj_I (M1 47 10) = nI (sWk T R (sBt T 0 1 R n).1 (T 0 5)).2.1 ∧ mj_I (M1 47 9) = nI (bz (sOn T R (sBt T 0 1 R n).1) (T 0 5)) := by
  obtain ⟨f, s, nn⟩ := hK
  have hC1 := hC.cong ht (frT_K f)
  obtain ⟨M1, p1, p2, p3, p4, p5, p6⟩ := ck_pass_e (pc := 0) (mode := 1) (n := n) ht (Or.inr (Or.inl rfl)) hC1.T hW.T hW.L s hR hH hC1.inst (by decide) (by decide) hW.num nn
  refine ⟨M1, p1, ⟨frT_tr f (frT_C p2), p3, ?_⟩, p5, p6⟩
  rw [p4]
  show nI (sBt T 0 1 R n).2 = _
  rw [sBt_1]
theorem try_R {M : mj_M} (hR : RV M T S n us I E B F) (hW : WV T S n us I E B F) : ∃ M1, md_layTried (mj_up M 68 2 (.int 0)) = some M1 ∧ KR T n M M1 S := by
  have hR1 : RV (mj_up M 68 2 (.int 0)) T S n us I E B F := RV_Q hR hW.T frQ_2
  obtain ⟨M1, e1, f1, n1, s1, p1⟩ := md_layTried_e hW.T hR1.S ⟨_, hW.S⟩
  refine ⟨M1, e1, frQ_tr frQ_2 (frQ_L f1 (congrArg mj_J n1)), s1, p1, ?_⟩
  rw [n1]
  exact hR1.num
theorem PL_fr {m m1 : mj_M} (h : PL m) (f : frR 1 m m1) : PL m1 := by
  unfold PL
  rw [f 68 63 (by unfold okc; omega), f 68 64 (by unfold okc; omega), f 68 65 (by unfold okc; omega), f 68 66 (by unfold okc; omega), f 68 67 (by unfold okc; omega), f 68 68 (by unfold okc; omega)]
  exact h
theorem step_R {M0 M : mj_M} {R : zS} {H : Nat} (hR : RV M0 T S n us I E B F) (hW : WV T S n us I E B F) (hK : KR T n M0 M R) (hRw : WS T H R) (hH : H ≤ 20000) : ∃ M1, md_hourGoes 1 M = some M1 ∧ KR T n M0 M1 (sHour T 0 1 (R, n)).1 ∧ mj_I (M1 68 62) = nI (sWk T R (sBt T 0 1 R n).1 (T 0 5)).2.1 ∧ mj_I (M1 68 61) = nI (sWk T R (sBt T 0 1 R n).1 (T 0 5)).2.2 := by
  obtain ⟨f, s, p, nn⟩ := hK
  have hR1 := RV_Q hR hW.T f
  obtain ⟨M1, p1, p2, p3, p4, p5, p6⟩ := md_hourGoes_e (b := 1) (pc := 0) (mode := 1) (n := n) (nh := false) (by decide) hR1.T hR1.L (PL_HO p hW.T hR1.R9) hW.T hW.L s hRw hH (PL_RF p) (by decide) (by decide) nn (by rw [p.2.2.1]; rfl)
  have n2 : mj_J (M1 68 60) = lN n := by
    rw [p4]
    show lN (sBt T 0 1 R n).2 = _
    rw [sBt_1]
  refine ⟨M1, p1, ⟨frQ_tr f ⟨fun a j h => p2 a j (fun z => h (Or.inl (Or.inl z))), by rw [n2, nn]⟩, p3, PL_fr p p2, n2⟩, p6, p5⟩
theorem hours_C {M : mj_M} {h : Nat} (ht : t = 3 ∨ t = 17) (hC : CV t m T S n us I E B F) (hW : WV T S n us I E B F) (hK : KC T n m M S) (hh : h ≤ 1000) : ∃ M1, bp_tryHours t (nI h) 1 M = some M1 ∧ KC T n m M1 (aH T S n h) := by
  obtain ⟨f, s, nn⟩ := hK
  have hC1 := hC.cong ht (frT_K f)
  obtain ⟨M1, p1, p2, p3, p4⟩ := bp_tryHours_e (pc := 0) (mode := 1) (num := n) (n := h) ht hC1.T hW.T hW.L s hW.S (by omega) hC1.inst (by decide) (by decide) hW.num nn
  exact ⟨M1, p1, frT_tr f (frT_C p2), p3, by rw [p4, sHours_1]⟩
theorem hours_R {M0 M : mj_M} {h : Nat} (hR : RV M0 T S n us I E B F) (hW : WV T S n us I E B F) (hK : KR T n M0 M S) (hh : h ≤ 1000) : ∃ M1, md_goMany (nI h) M = some M1 ∧ KR T n M0 M1 (aH T S n h) := by
  obtain ⟨f, s, p, nn⟩ := hK
  have hR1 := RV_Q hR hW.T f
  obtain ⟨M1, p1, p2, p3, p4⟩ := md_goMany_e (pc := 0) (mode := 1) (num := n) (n := h) hR1.T hR1.L (PL_HO p hW.T hR1.R9) hW.T hW.L s hW.S (by omega) (PL_RF p) (by decide) (by decide) hW.num nn p.2.2.1
  have n2 : mj_J (M1 68 60) = lN n := by rw [p4, sHours_1]
  exact ⟨M1, p1, frQ_tr f ⟨fun a j h => p2 a j (fun z => h (Or.inl (Or.inl z))), by rw [n2, nn]⟩, p3, PL_fr p p2, n2⟩
theorem KC_left {M : mj_M} {R : zS} (hW : WV T S n us I E B F) (hK : KC T n m M R) {w : Nat} (hw : w < T 0 5) : fx_at M 50 (nI w) = nI (R.1 3 w) := (SC_at hK.2.1 (Or.inr (Or.inl rfl)) hW.T).2.2.1 w hw
theorem KR_left {M0 M : mj_M} {R : zS} (hK : KR T n M0 M R) {w : Nat} (hw : w < T 0 5) : mj_I (M 93 (8 + w)) = nI (R.1 3 w) := hK.2.1.left w hw
/-- a work, asked with thrown put back -/
theorem isWork_M {M : mj_M} {v : Int32} (hR : RV M T S n us I E B F) (hW : WV T S n us I E B F) : (md_isWork v (mj_up M 68 2 (.int 0)) = 0 ∧ (∀ t m, mj_I (m t 5) = nI (T 0 5) → to_isWork t v m = 0)) ∨ ∃ w, w < T 0 5 ∧ v = nI w ∧ md_isWork v (mj_up M 68 2 (.int 0)) = 1 ∧ (∀ t m, mj_I (m t 5) = nI (T 0 5) → to_isWork t v m = 1) := by
  have hnw := hW.T.nw
  unfold md_isWork
  rw [na_upN (by omega), hR.T.nw]
  rcases pk_ix v (n := T 0 5) (by omega) with h | h | ⟨p, h1, h2⟩
  · rw [if_pos h]; exact Or.inl ⟨rfl, fun t m e => by unfold to_isWork; rw [if_pos h]⟩
  · by_cases c : v < 0
    · rw [if_pos c]; exact Or.inl ⟨rfl, fun t m e => by unfold to_isWork; rw [if_pos c]⟩
    · rw [if_neg c, if_pos h]; exact Or.inl ⟨rfl, fun t m e => by unfold to_isWork; rw [if_neg c, e, if_pos h]⟩
  · subst h2
    rw [if_neg (show ¬ nI p < 0 from nI_pos (by omega)), if_neg (nI_ge h1 (by omega))]
    exact Or.inr ⟨p, h1, rfl, rfl, fun t m e => by unfold to_isWork; rw [e, if_neg (show ¬ nI p < 0 from nI_pos (by omega)), if_neg (nI_ge h1 (by omega))]⟩
theorem isMan_M {M : mj_M} {v : Int32} (hR : RV M T S n us I E B F) (hW : WV T S n us I E B F) : (md_isMan v (mj_up M 68 2 (.int 0)) = 0 ∧ (∀ t m, mj_I (m t 0) = nI (T 0 0) → to_isMan t v m = 0)) ∨ ∃ w, w < T 0 0 ∧ v = nI w ∧ md_isMan v (mj_up M 68 2 (.int 0)) = 1 ∧ (∀ t m, mj_I (m t 0) = nI (T 0 0) → to_isMan t v m = 1) := by
  have hnp := hW.T.np
  unfold md_isMan
  rw [na_upN (by omega), hR.T.np]
  rcases pk_ix v (n := T 0 0) (by omega) with h | h | ⟨p, h1, h2⟩
  · rw [if_pos h]; exact Or.inl ⟨rfl, fun t m e => by unfold to_isMan; rw [if_pos h]⟩
  · by_cases c : v < 0
    · rw [if_pos c]; exact Or.inl ⟨rfl, fun t m e => by unfold to_isMan; rw [if_pos c]⟩
    · rw [if_neg c, if_pos h]; exact Or.inl ⟨rfl, fun t m e => by unfold to_isMan; rw [if_neg c, e, if_pos h]⟩
  · subst h2
    rw [if_neg (show ¬ nI p < 0 from nI_pos (by omega)), if_neg (nI_ge h1 (by omega))]
    exact Or.inr ⟨p, h1, rfl, rfl, fun t m e => by unfold to_isMan; rw [e, if_neg (show ¬ nI p < 0 from nI_pos (by omega)), if_neg (nI_ge h1 (by omega))]⟩
theorem q_done (ht : t = 3 ∨ t = 17) (hC : CV t m T S n us I E B F) (hR : RV m T S n us I E B F) (hW : WV T S n us I E B F) {v : Int32} : ∃ x m1 m2, bp_done t v m = some (x, m1) ∧ frT m m1 ∧ md_done v m1 = some (x, m2) ∧ frQ m1 m2 := by
  have hnw := hW.T.nw
  unfold bp_done
  rcases isWork_M (v := v) hR hW with ⟨h1, h2⟩ | ⟨w, hw, rfl, h1, h2⟩
  · rw [h2 t m hC.T.nw, if_pos rfl]
    refine ⟨_, _, mj_up m 68 2 (.int 0), rfl, frT_rfl, ?_, frQ_2⟩
    unfold md_done
    rw [h1, if_pos rfl]
  rw [h2 t m hC.T.nw, if_neg not01]
  obtain ⟨m1, e1, k1⟩ := try_C hC hW
  rw [e1, Option.bind_some]
  have z : ∀ k, k ≤ 1000 → (nI ((aH T S n k).1 3 w) = 0 ↔ (aH T S n k).1 3 w = 0) := fun k _ => by
    have := (aH_WS (n := n) hW.T hW.S k).left w hw
    exact nI_eq (b := 0) (by omega) (by decide)
  obtain ⟨ta, sa, e2, ⟨R, k2⟩, q2⟩ := lp_ex (body := bp_done_l26 t (nI w)) (s := (0, m1)) (fun i s => s.1 = nI i ∧ KC T n m s.2 (aH T S n i) ∧ ∀ j, j < i → ¬ (aH T S n j).1 3 w = 0) (fun a s => (∃ R, KC T n m s.2 R) ∧ fstP (fun k => (aH T S n k).1 3 w = 0) 201 a s.1) 201 (by decide) ⟨rfl, k1, fun j hj => absurd hj (Nat.not_lt_zero j)⟩
    (by
      intro i s hi ⟨g1, g2, g3⟩
      obtain ⟨x, M⟩ := s
      dsimp only at g1 g2
      subst g1
      unfold bp_done_l26 sa_isDone
      dsimp only
      rw [if_neg (show ¬ (200 : Int32) < nI i from nI_nlt (a := 200) (by omega) (by decide)), KC_left hW g2 hw]
      simp only [z i (by omega)]
      by_cases c : (aH T S n i).1 3 w = 0
      · rw [if_pos c, if_neg not01]
        exact Or.inr ⟨0, _, rfl, ⟨_, g2⟩, Or.inl ⟨rfl, i, hi, c, g3, rfl⟩⟩
      · obtain ⟨M1, p1, p2, _, _⟩ := step_C ht hC hW g2 (aH_WS hW.T hW.S i) (by omega)
        rw [if_neg c, if_pos rfl, p1, Option.bind_some]
        refine Or.inl ⟨_, rfl, (nI_succ i).symm, by rw [aH_succ]; exact p2, fun j hj => ?_⟩
        by_cases e : j = i
        · rw [e]; exact c
        · exact g3 j (by omega))
    (by
      intro s ⟨g1, g2, g3⟩
      obtain ⟨x, M⟩ := s
      dsimp only at g1 g2
      subst g1
      exact ⟨1, _, rfl, ⟨_, g2⟩, Or.inr ⟨rfl, g3⟩⟩)
  rw [e2, Option.bind_some]
  dsimp only
  have hR2 := RV_T hR hW.T k2.1
  obtain ⟨M0, e3, k3⟩ := try_R hR2 hW
  obtain ⟨tb, sb, e4, ⟨R', k4⟩, q4⟩ := lp_ex (body := md_done_l21 (nI w)) (s := (0, M0)) (fun i s => s.1 = nI i ∧ KR T n sa.2 s.2 (aH T S n i) ∧ ∀ j, j < i → ¬ (aH T S n j).1 3 w = 0) (fun a s => (∃ R, KR T n sa.2 s.2 R) ∧ fstP (fun k => (aH T S n k).1 3 w = 0) 201 a s.1) 201 (by decide) ⟨rfl, k3, fun j hj => absurd hj (Nat.not_lt_zero j)⟩
    (by
      intro i s hi ⟨g1, g2, g3⟩
      obtain ⟨x, M⟩ := s
      dsimp only at g1 g2
      subst g1
      have x1 : (nI (8 + w) < 0) = False := eq_false (nI_pos (by omega))
      have x1' : (16 ≤ 8 + w) = False := eq_false (by omega)
      have x2 : (nI (8 + w)).toNatClampNeg = 8 + w := nI_clamp (by omega)
      have e8 : (8 : Int32) + nI w = nI (8 + w) := by rw [show (8 : Int32) = nI 8 from rfl, nI_add]
      unfold md_done_l21
      simp only [e8, x1, x1', x2, or_self, if_false, KR_left g2 hw, z i (by omega)]
      rw [if_neg (show ¬ (200 : Int32) < nI i from nI_nlt (a := 200) (by omega) (by decide))]
      by_cases c : (aH T S n i).1 3 w = 0
      · rw [if_pos c]
        exact Or.inr ⟨0, _, rfl, ⟨_, g2⟩, Or.inl ⟨rfl, i, hi, c, g3, rfl⟩⟩
      · obtain ⟨M1, p1, p2, _, _⟩ := step_R hR2 hW g2 (aH_WS hW.T hW.S i) (by omega)
        rw [if_neg c, p1, Option.bind_some]
        refine Or.inl ⟨_, rfl, (nI_succ i).symm, by rw [aH_succ]; exact p2, fun j hj => ?_⟩
        by_cases e : j = i
        · rw [e]; exact c
        · exact g3 j (by omega))
    (by
      intro s ⟨g1, g2, g3⟩
      obtain ⟨x, M⟩ := s
      dsimp only at g1 g2
      subst g1
      exact ⟨1, _, rfl, ⟨_, g2⟩, Or.inr ⟨rfl, g3⟩⟩)
  obtain ⟨t1, t2⟩ := fstP_eq q2 q4
  have hmd : md_done (nI w) sa.2 = (if tb = 0 then some (sb.1, sb.2) else some ((-2), sb.2)) := by
    unfold md_done
    have : md_isWork (nI w) (mj_up sa.2 68 2 (.int 0)) = 1 := by
      unfold md_isWork
      rw [na_upN (by omega), hR2.T.nw, if_neg (show ¬ nI w < 0 from nI_pos (by omega)), if_neg (nI_ge hw (by omega))]
    rw [this, if_neg not01, e3, Option.bind_some, e4]
    rfl
  rw [← t1] at hmd
  by_cases c : ta = 0
  · rw [if_pos c, ← t2 c] at hmd
    rw [if_pos c]
    exact ⟨_, _, _, rfl, k2.1, hmd, k4.1⟩
  · rw [if_neg c] at hmd
    rw [if_neg c]
    exact ⟨_, _, _, rfl, k2.1, hmd, k4.1⟩
theorem q_stops (ht : t = 3 ∨ t = 17) (hC : CV t m T S n us I E B F) (hR : RV m T S n us I E B F) (hW : WV T S n us I E B F) : ∃ x m1 m2, bp_stops t m = some (x, m1) ∧ frT m m1 ∧ md_stops m1 = some (x, m2) ∧ frQ m1 m2 := by
  unfold bp_stops
  obtain ⟨m1, e1, k1⟩ := try_C hC hW
  rw [e1, Option.bind_some]
  have z : ∀ k, k ≤ 1000 → (nI ((aH T S n k).1 0 1) = 0 ↔ (aH T S n k).1 0 1 = 0) := fun k _ => by
    have := (aH_WS (n := n) hW.T hW.S k).coil
    exact nI_eq (b := 0) (by omega) (by decide)
  obtain ⟨ta, sa, e2, ⟨R, k2⟩, q2⟩ := lp_ex (body := bp_stops_l13 t) (s := (0, m1)) (fun i s => s.1 = nI i ∧ KC T n m s.2 (aH T S n i) ∧ ∀ j, j < i → ¬ (aH T S n j).1 0 1 = 0) (fun a s => (∃ R, KC T n m s.2 R) ∧ fstP (fun k => (aH T S n k).1 0 1 = 0) 1000 a s.1) 1000 (by decide) ⟨rfl, k1, fun j hj => absurd hj (Nat.not_lt_zero j)⟩
    (by
      intro i s hi ⟨g1, g2, g3⟩
      obtain ⟨x, M⟩ := s
      dsimp only at g1 g2
      subst g1
      unfold bp_stops_l13
      dsimp only
      rw [if_neg (show ¬ (999 : Int32) < nI i from nI_nlt (a := 999) (by omega) (by decide)), g2.2.1.coil]
      simp only [z i (by omega)]
      by_cases c : (aH T S n i).1 0 1 = 0
      · rw [if_pos c]
        exact Or.inr ⟨0, _, rfl, ⟨_, g2⟩, Or.inl ⟨rfl, i, hi, c, g3, rfl⟩⟩
      · obtain ⟨M1, p1, p2, _, _⟩ := step_C ht hC hW g2 (aH_WS hW.T hW.S i) (by omega)
        rw [if_neg c, p1, Option.bind_some]
        refine Or.inl ⟨_, rfl, (nI_succ i).symm, by rw [aH_succ]; exact p2, fun j hj => ?_⟩
        by_cases e : j = i
        · rw [e]; exact c
        · exact g3 j (by omega))
    (by
      intro s ⟨g1, g2, g3⟩
      obtain ⟨x, M⟩ := s
      dsimp only at g1 g2
      subst g1
      exact ⟨1, _, rfl, ⟨_, g2⟩, Or.inr ⟨rfl, g3⟩⟩)
  rw [e2, Option.bind_some]
  dsimp only
  have hR2 := RV_T hR hW.T k2.1
  obtain ⟨M0, e3, k3⟩ := try_R hR2 hW
  obtain ⟨tb, sb, e4, ⟨R', k4⟩, q4⟩ := lp_ex (body := md_stops_l11) (s := (0, M0)) (fun i s => s.1 = nI i ∧ KR T n sa.2 s.2 (aH T S n i) ∧ ∀ j, j < i → ¬ (aH T S n j).1 0 1 = 0) (fun a s => (∃ R, KR T n sa.2 s.2 R) ∧ fstP (fun k => (aH T S n k).1 0 1 = 0) 1000 a s.1) 1000 (by decide) ⟨rfl, k3, fun j hj => absurd hj (Nat.not_lt_zero j)⟩
    (by
      intro i s hi ⟨g1, g2, g3⟩
      obtain ⟨x, M⟩ := s
      dsimp only at g1 g2
      subst g1
      have t1 : ((1 : Int32)).toNatClampNeg = 1 := rfl
      unfold md_stops_l11
      dsimp only
      rw [if_neg (show ¬ (999 : Int32) < nI i from nI_nlt (a := 999) (by omega) (by decide)), t1, g2.2.1.coil]
      simp only [z i (by omega)]
      by_cases c : (aH T S n i).1 0 1 = 0
      · rw [if_pos c]
        exact Or.inr ⟨0, _, rfl, ⟨_, g2⟩, Or.inl ⟨rfl, i, hi, c, g3, rfl⟩⟩
      · obtain ⟨M1, p1, p2, _, _⟩ := step_R hR2 hW g2 (aH_WS hW.T hW.S i) (by omega)
        rw [if_neg c, p1, Option.bind_some]
        refine Or.inl ⟨_, rfl, (nI_succ i).symm, by rw [aH_succ]; exact p2, fun j hj => ?_⟩
        by_cases e : j = i
        · rw [e]; exact c
        · exact g3 j (by omega))
    (by
      intro s ⟨g1, g2, g3⟩
      obtain ⟨x, M⟩ := s
      dsimp only at g1 g2
      subst g1
      exact ⟨1, _, rfl, ⟨_, g2⟩, Or.inr ⟨rfl, g3⟩⟩)
  obtain ⟨t1, t2⟩ := fstP_eq q2 q4
  have hmd : md_stops sa.2 = (if tb = 0 then some (sb.1, sb.2) else some ((-2), sb.2)) := by
    unfold md_stops
    rw [e3, Option.bind_some, e4]
    rfl
  rw [← t1] at hmd
  by_cases c : ta = 0
  · rw [if_pos c, ← t2 c] at hmd
    rw [if_pos c]
    exact ⟨_, _, _, rfl, k2.1, hmd, k4.1⟩
  · rw [if_neg c] at hmd
    rw [if_neg c]
    exact ⟨_, _, _, rfl, k2.1, hmd, k4.1⟩
end TRY
