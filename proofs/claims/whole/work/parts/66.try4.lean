/-! CALLS THAT TRY, 4: pace (own work) -/
def pH (T : zT) (pc : Nat) (S : zS) (n k : Nat) : zS := (sHours T pc 1 (S, n) k).1
theorem pH_succ {T : zT} {pc : Nat} {S : zS} {n k : Nat} : pH T pc S n (k + 1) = (sHour T pc 1 (pH T pc S n k, n)).1 := by
  show (sHour T pc 1 (sHours T pc 1 (S, n) k)).1 = _
  have e : sHours T pc 1 (S, n) k = (pH T pc S n k, n) := Prod.ext rfl (sHours_1 k)
  rw [e]
theorem sHr_left {T : zT} {R : zS} {be w : Nat} : (sHr T R be).1 3 w = (sWk T R be (T 0 5)).1.1 3 w := by
  show (sSp T (sWk T R be (T 0 5)).1 be).1 3 w = _
  rw [sSp_o (by decide)]
theorem sHr_0 {T : zT} {R : zS} : (∀ w, (sHr T R 0).1 3 w = R.1 3 w) ∧ (∀ p, (sHr T R 0).2 1 p = R.2 1 p) := by
  refine ⟨fun w => ?_, fun p => ?_⟩
  · rw [sHr_left, sWk_0]
  · show (sWk T R 0 (T 0 5)).1.2 1 p = _
    rw [sWk_0]
theorem sHr_coil0 {T : zT} {R : zS} {be : Nat} (h : R.1 0 1 = 0) : (sHr T R be).1 0 1 = 0 := by
  show (sSp T (sWk T R be (T 0 5)).1 be).1 0 1 - _ = 0
  rw [sSp_o (by decide), sWk_row (by decide), h, Nat.zero_sub]
theorem sBt_coil0 {T : zT} {pc n : Nat} {R : zS} (h : R.1 0 1 = 0) : (sBt T pc 1 R n).1 = 0 := by
  have hb : sBeat T pc R = 0 := by unfold sBeat; rw [if_pos h]
  unfold sBt sWasp
  rw [hb, if_pos (Or.inr (Or.inr rfl))]
  rfl
theorem pH_stop {T : zT} {pc : Nat} {S : zS} {n k : Nat} (h : (pH T pc S n k).1 0 1 = 0) : ∀ j, (pH T pc S n (k + j)).1 0 1 = 0 ∧ (∀ w, (pH T pc S n (k + j)).1 3 w = (pH T pc S n k).1 3 w) ∧ (∀ p, (pH T pc S n (k + j)).2 1 p = (pH T pc S n k).2 1 p) := by
  intro j
  induction j with
  | zero => exact ⟨h, fun _ => rfl, fun _ => rfl⟩
  | succ j ih =>
    have e : pH T pc S n (k + (j + 1)) = sHr T (pH T pc S n (k + j)) 0 := by
      rw [show k + (j + 1) = (k + j) + 1 by omega, pH_succ]
      show sHr T (pH T pc S n (k + j)) (sBt T pc 1 (pH T pc S n (k + j)) n).1 = _
      rw [sBt_coil0 ih.1]
    rw [e]
    exact ⟨sHr_coil0 ih.1, fun w => by rw [sHr_0.1, ih.2.1], fun p => by rw [sHr_0.2, ih.2.2]⟩
theorem left_0 {T : zT} {pc : Nat} {S : zS} {n w : Nat} (h : S.1 3 w = 0) : ∀ k, (pH T pc S n k).1 3 w = 0 := by
  intro k
  induction k with
  | zero => exact h
  | succ k ih =>
    rw [pH_succ]
    show (sHr T (pH T pc S n k) _).1 3 w = 0
    rw [sHr_left, sWk_left, ih]
    split <;> omega
/-- DONE more, SLIPS more by a SPEED -/
def pD (T : zT) (S : zS) (n a s : Nat) : Int32 := nI (cnt (fun w => decide ((pH T s S n a).1 3 w = 0)) (T 0 5)) - nI (cnt (fun w => decide (S.1 3 w = 0)) (T 0 5))
def pX (T : zT) (S : zS) (n a s : Nat) : Int32 := sumI ((pH T s S n a).2 1) (T 0 0) - sumI (S.2 1) (T 0 0)
def pK (T : zT) (S : zS) (n a : Nat) : Nat → Int32 × Int32 × Int32
  | 0 => (0, -1, 0)
  | i + 1 => if (pK T S n a i).2.1 < pD T S n a (i + 1) then (nI (i + 1), pD T S n a (i + 1), pX T S n a (i + 1)) else if pD T S n a (i + 1) = (pK T S n a i).2.1 then (if (pK T S n a i).2.2 ≤ pX T S n a (i + 1) then pK T S n a i else (nI (i + 1), pD T S n a (i + 1), pX T S n a (i + 1))) else pK T S n a i
theorem pD_ge {T : zT} {S : zS} {n a s : Nat} (hw : WT T) : (-1 : Int32) < pD T S n a s := by
  have h := cnt_mono (f := fun w => decide (S.1 3 w = 0)) (g := fun w => decide ((pH T s S n a).1 3 w = 0)) (n := T 0 5) (fun p _ hp => decide_eq_true (left_0 (of_decide_eq_true hp) a))
  have h2 := cnt_le (f := fun w => decide ((pH T s S n a).1 3 w = 0)) (T 0 5)
  have := hw.nw
  unfold pD
  rw [pk_sub h, na_ltI, nI_toInt (by omega)]
  have : ((-1 : Int32)).toInt = -1 := rfl
  omega
theorem pK_succ {T : zT} {S : zS} {n a i : Nat} : pK T S n a (i + 1) = if (pK T S n a i).2.1 < pD T S n a (i + 1) then (nI (i + 1), pD T S n a (i + 1), pX T S n a (i + 1)) else if pD T S n a (i + 1) = (pK T S n a i).2.1 then (if (pK T S n a i).2.2 ≤ pX T S n a (i + 1) then pK T S n a i else (nI (i + 1), pD T S n a (i + 1), pX T S n a (i + 1))) else pK T S n a i := rfl
theorem pK_best {T : zT} {S : zS} {n a : Nat} (hw : WT T) : ∀ i, ∃ s, 1 ≤ s ∧ s ≤ i + 1 ∧ (pK T S n a (i + 1)).1 = nI s := by
  intro i
  induction i with
  | zero =>
    refine ⟨1, by omega, by omega, ?_⟩
    rw [pK_succ, if_pos (show (pK T S n a 0).2.1 < pD T S n a (0 + 1) from pD_ge hw)]
  | succ i ih =>
    obtain ⟨s, s1, s2, s3⟩ := ih
    rw [pK_succ (i := i + 1)]
    split
    · exact ⟨i + 1 + 1, by omega, by omega, rfl⟩
    · split
      · split
        · exact ⟨s, s1, by omega, s3⟩
        · exact ⟨i + 1 + 1, by omega, by omega, rfl⟩
      · exact ⟨s, s1, by omega, s3⟩
theorem SR.cong {b : Nat} {T : zT} {S : zS} {m m1 : mj_M} (h : SR T b m S) (hk : ∀ k j, 93 ≤ k → k ≤ 100 → m1 k j = m k j) : SR T b m1 S :=
  ⟨by rw [hk _ _ (by omega) (by omega)]; exact h.hour, by rw [hk _ _ (by omega) (by omega)]; exact h.coil, by rw [hk _ _ (by omega) (by omega)]; exact h.shift, fun p hp => by rw [hk _ _ (by omega) (by omega)]; exact h.here p hp, fun p hp => by rw [hk _ _ (by omega) (by omega)]; exact h.slips p hp, fun p hp => by rw [hk _ _ (by omega) (by omega)]; exact h.hic p hp, fun w hw => by rw [hk _ _ (by omega) (by omega)]; exact h.left w hw, fun w hw => by rw [hk _ _ (by omega) (by omega)]; exact h.done w hw⟩
theorem frT_up {m m1 : mj_M} {v : Value} (h : frT m m1) : frT (mj_up m 37 1 v) (mj_up m1 37 1 v) := fun k a b c => funext fun j => by
  rw [na_up, na_up, h k a b c]
theorem cnt_ext {f g : Nat → Bool} : ∀ {n : Nat}, (∀ p, p < n → f p = g p) → cnt f n = cnt g n := by
  intro n h
  exact Nat.le_antisymm (cnt_mono (fun p hp e => by rw [← h p hp]; exact e)) (cnt_mono (fun p hp e => by rw [h p hp]; exact e))
theorem sumI_ext {f g : Nat → Int32} : ∀ {n : Nat}, (∀ p, f p = g p) → sumI f n = sumI g n := fun h => by rw [funext h]
theorem leI_or {a b : Int32} : (¬ a < b ∧ ¬ b < a → a = b) := fun ⟨h1, h2⟩ => by
  apply Int32.toInt_inj.mp
  rw [na_ltI] at h1 h2
  omega
section PACE
variable {t : Nat} {m : mj_M} {T : zT} {S : zS} {n : Nat} {us : List zS} {I : Option (zS × Nat)} {E : zE} {B : zB} {F : Int32 × Int32}
def KP (T : zT) (n s : Nat) (m0 m : mj_M) (R : zS) : Prop := frT m0 (mj_up m 37 1 (.int 0)) ∧ mj_I (m 37 1) = nI s ∧ SC T 47 m R ∧ mj_I (m 47 3) = nI n
theorem pH_WS {s k : Nat} (hw : WT T) (h : WS T 9900 S) : WS T (9900 + k) (pH T s S n k) := sHours_WS hw h k
theorem pace_C {a s : Nat} (ht : t = 3 ∨ t = 17) (hC : CV t m T S n us I E B F) (hW : WV T S n us I E B F) (ha : a ≤ 60) (hs : s ≤ 99) : ∃ m1 R, bp_tryPace t (nI a) (nI s) m = some m1 ∧ frT m m1 ∧ SC T 47 m1 R ∧ WS T 10000 R ∧ (∀ w, R.1 3 w = (pH T s S n a).1 3 w) ∧ (∀ p, R.2 1 p = (pH T s S n a).2 1 p) := by
  unfold bp_tryPace
  obtain ⟨m1, e1, k1⟩ := try_C hC hW
  rw [e1, Option.bind_some]
  have hv : frT m (mj_up m 37 1 (.int 0)) := fun k _ _ _ => funext fun j => by
    rw [na_up]
    split
    · rename_i q
      rw [q.1, q.2]
      exact hC.instV.symm
    · rfl
  have z : ∀ k, k ≤ 60 → (nI ((pH T s S n k).1 0 1) ≤ 0 ↔ (pH T s S n k).1 0 1 = 0) := fun k _ => by
    have := (pH_WS (n := n) (s := s) (k := k) hW.T hW.S).coil
    rw [show (0 : Int32) = nI 0 from rfl, nI_leI (by omega) (by decide)]
    omega
  have k0 : KP T n s m (mj_up m1 37 1 (.int (nI s))) S := by
    refine ⟨?_, by rw [na_upS]; rfl, k1.2.1.cong (fun j _ => na_upN (by omega)) (fun i h1 h2 => funext fun j => na_upN (by omega)), by rw [na_upN (by omega)]; exact k1.2.2⟩
    have : mj_up (mj_up m1 37 1 (.int (nI s))) 37 1 (.int 0) = mj_up m1 37 1 (.int 0) := by
      funext k j
      rw [na_up, na_up, na_up]
      split <;> rfl
    rw [this]
    exact frT_tr hv (frT_up k1.1)
  obtain ⟨ta, sa, e2, k, h1, h2, k2⟩ := lp_ex (body := bp_tryPace_l21 t (nI a)) (s := (0, mj_up m1 37 1 (.int (nI s)))) (fun i s' => s'.1 = nI i ∧ KP T n s m s'.2 (pH T s S n i)) (fun _ s' => ∃ k, k ≤ a ∧ (k = a ∨ (pH T s S n k).1 0 1 = 0) ∧ KP T n s m s'.2 (pH T s S n k)) a (by unfold mj_F; omega) ⟨rfl, k0⟩
    (by
      intro i s' hi ⟨g1, g2⟩
      obtain ⟨x, M⟩ := s'
      dsimp only at g1 g2
      subst g1
      unfold bp_tryPace_l21
      dsimp only
      rw [if_neg (nI_ge hi (by omega)), g2.2.2.1.coil]
      simp only [z i (by omega)]
      by_cases c : (pH T s S n i).1 0 1 = 0
      · rw [if_pos c]
        exact Or.inr ⟨0, _, rfl, i, by omega, Or.inr c, g2⟩
      · have hT1 : TC t M T := hC.T.cong (fun j hj => by
          have := g2.1 (t + j) (by omega) (by omega) (by omega)
          rw [← this]
          funext j'
          exact (na_upN (by omega)).symm)
        obtain ⟨M1, p1, p2, p3, p4, _, _⟩ := ck_pass_e (pc := s) (mode := 1) (n := n) ht (Or.inr (Or.inl rfl)) hT1 hW.T hW.L g2.2.2.1 (pH_WS (n := n) (s := s) (k := i) hW.T hW.S) (by omega) g2.2.1 (by omega) (by decide) hW.num g2.2.2.2
        refine Or.inl ⟨_, by rw [if_neg c, show (1 : Int32) = nI 1 from rfl, p1]; rfl, ?_, ?_⟩
        · exact (nI_succ i).symm
        · refine ⟨frT_tr g2.1 (frT_up (frT_C p2)), ?_, by rw [pH_succ]; exact p3, ?_⟩
          · show mj_I (M1 37 1) = _
            rw [p2 37 (by omega) (by omega) (by omega) (by omega) (by omega)]; exact g2.2.1
          · rw [p4]
            show nI (sBt T s 1 _ n).2 = _
            rw [sBt_1])
    (by
      intro s' ⟨g1, g2⟩
      obtain ⟨x, M⟩ := s'
      dsimp only at g1 g2
      subst g1
      unfold bp_tryPace_l21
      dsimp only
      rw [if_pos (nI_le (Nat.le_refl _) (by omega))]
      exact ⟨0, _, rfl, a, by omega, Or.inl rfl, g2⟩)
  rw [e2, Option.bind_some]
  have hW1 := pH_WS (n := n) (s := s) (k := k) hW.T hW.S
  refine ⟨_, pH T s S n k, rfl, k2.1, k2.2.2.1.cong (fun j _ => na_upN (by omega)) (fun i h1 h2 => funext fun j => na_upN (by omega)), ⟨Nat.le_trans hW1.1 (by omega), hW1.2⟩, fun w => ?_, fun p => ?_⟩
  · rcases h2 with rfl | h2
    · rfl
    · obtain ⟨j, rfl⟩ : ∃ j, a = k + j := ⟨a - k, by omega⟩
      exact ((pH_stop h2 j).2.1 w).symm
  · rcases h2 with rfl | h2
    · rfl
    · obtain ⟨j, rfl⟩ : ∃ j, a = k + j := ⟨a - k, by omega⟩
      exact ((pH_stop h2 j).2.2 p).symm
theorem q_pace (ht : t = 3 ∨ t = 17) (hC : CV t m T S n us I E B F) (hR : RV m T S n us I E B F) (hW : WV T S n us I E B F) {h v : Int32} : ∃ x m1 m2, bp_pace t h v m = some (x, m1) ∧ frT m m1 ∧ md_pace h v m1 = some (x, m2) ∧ frQ m1 m2 := by
  have i1 : ∀ M, md_isIn h 1 60 M = if h < 1 then 0 else if 60 < h then 0 else 1 := fun _ => rfl
  have i2 : ∀ M, md_isIn v 0 2 M = if v < 0 then 0 else if 2 < v then 0 else 1 := fun _ => rfl
  unfold bp_pace md_pace
  by_cases c : h < 1
  · exact ⟨_, m, _, by rw [if_pos c], frT_rfl, by rw [i1, if_pos c, if_pos rfl], frQ_2⟩
  by_cases c' : 60 < h
  · exact ⟨_, m, _, by rw [if_neg c, if_pos c'], frT_rfl, by rw [i1, if_neg c, if_pos c', if_pos rfl], frQ_2⟩
  by_cases d : v < 0
  · exact ⟨_, m, _, by rw [if_neg c, if_neg c', if_pos d], frT_rfl, by rw [i1, if_neg c, if_neg c', if_neg not01, i2, if_pos d, if_pos rfl], frQ_2⟩
  by_cases d' : v ≤ 2
  case neg =>
    have d2 : (2 : Int32) < v := by rw [na_ltI]; rw [na_leI] at d'; omega
    exact ⟨_, m, _, by rw [if_neg c, if_neg c', if_neg d, if_neg d'], frT_rfl, by rw [i1, if_neg c, if_neg c', if_neg not01, i2, if_neg d, if_pos d2, if_pos rfl], frQ_2⟩
  have d2 : ¬ (2 : Int32) < v := by rw [na_ltI]; rw [na_leI] at d'; omega
  obtain ⟨a, ha1, ha, rfl⟩ := isIn_n (v := h) (a := 1) (b := 60) (by decide) (by decide) c c'
  rw [if_neg c, if_neg c', if_neg d, if_pos d']
  obtain ⟨ta, sa, e2, f2, g2⟩ := lp_ex (body := bp_pace_l33 t (nI a) v) (s := (0, -1, 0, 1, m)) (fun i s => s.2.2.2.1 = nI (i + 1) ∧ frT m s.2.2.2.2 ∧ s.1 = (pK T S n a i).1 ∧ s.2.1 = (pK T S n a i).2.1 ∧ s.2.2.1 = (pK T S n a i).2.2) (fun _ s => frT m s.2.2.2.2 ∧ s.1 = (pK T S n a 99).1 ∧ s.2.1 = (pK T S n a 99).2.1 ∧ s.2.2.1 = (pK T S n a 99).2.2) 99 (by decide) ⟨rfl, frT_rfl, rfl, rfl, rfl⟩
    (by
      intro i s hi ⟨g1, g2, g3, g4, g5⟩
      obtain ⟨be, mo, sl, x, M⟩ := s
      dsimp only at g1 g2 g3 g4 g5
      subst g1 g3 g4 g5
      have hC1 := hC.cong ht (frT_K g2)
      obtain ⟨M1, R, p1, p2, p3, p4, p5, p6⟩ := pace_C (s := i + 1) (a := a) ht hC1 hW ha (by omega)
      have hC2 := hC1.cong ht (frT_K p2)
      have eD : nI (cnt (fun w => decide (R.1 3 w = 0)) (T 0 5)) - nI (cnt (fun w => decide (S.1 3 w = 0)) (T 0 5)) = pD T S n a (i + 1) := by
        unfold pD
        rw [show (fun w => decide (R.1 3 w = 0)) = fun w => decide ((pH T (i + 1) S n a).1 3 w = 0) from funext fun w => by rw [p5]]
      have eX : sumI (R.2 1) (T 0 0) - sumI (S.2 1) (T 0 0) = pX T S n a (i + 1) := by
        unfold pX
        rw [show R.2 1 = (pH T (i + 1) S n a).2 1 from funext p6]
      unfold bp_pace_l33
      dsimp only
      rw [if_neg (show ¬ (99 : Int32) < nI (i + 1) from nI_nlt (a := 99) (by omega) (by decide)), p1, Option.bind_some, hC2.T.nw, sa_doneCount_e (Or.inr (Or.inl rfl)) hW.T p3 p4, Option.bind_some, sa_doneCount_e (Or.inl rfl) hW.T hC2.S hW.S, Option.bind_some, sa_allSlips_e hW.T p3, Option.bind_some, sa_allSlips_e hW.T hC2.S, Option.bind_some, eD, eX]
      have f3 := frT_tr g2 p2
      rw [pK_succ]
      by_cases q : (pK T S n a i).2.1 < pD T S n a (i + 1)
      · rw [if_pos q, if_pos q]
        exact Or.inl ⟨_, rfl, (nI_succ _).symm, f3, rfl, rfl, rfl⟩
      rw [if_neg q, if_neg q]
      by_cases q1 : pD T S n a (i + 1) = (pK T S n a i).2.1
      · rw [if_pos q1, if_pos q1]
        by_cases q2 : (pK T S n a i).2.2 ≤ pX T S n a (i + 1)
        · rw [if_pos q2, if_pos q2]
          exact Or.inl ⟨_, rfl, (nI_succ _).symm, f3, rfl, rfl, rfl⟩
        · rw [if_neg q2, if_neg q2]
          exact Or.inl ⟨_, rfl, (nI_succ _).symm, f3, rfl, rfl, rfl⟩
      · rw [if_neg q1, if_neg q1]
        exact Or.inl ⟨_, rfl, (nI_succ _).symm, f3, rfl, rfl, rfl⟩)
    (by
      intro s ⟨g1, g2, g3⟩
      obtain ⟨be, mo, sl, x, M⟩ := s
      dsimp only at g1 g2 g3
      subst g1
      exact ⟨0, (be, mo, sl, 100, M), rfl, g2, g3⟩)
  rw [e2, Option.bind_some]
  dsimp only
  have hR2 := RV_T hR hW.T f2
  obtain ⟨tb, sb, e4, f4, g4⟩ := lp_ex (body := md_pace_l37 (nI a) v) (s := (0, 0, 0, 1, mj_up sa.2.2.2.2 68 2 (.int 0))) (fun i s => s.2.2.2.1 = nI (i + 1) ∧ frQ sa.2.2.2.2 s.2.2.2.2 ∧ ((i = 0 ∧ s.1 = 0) ∨ (0 < i ∧ s.1 = (pK T S n a i).1 ∧ s.2.1 = (pK T S n a i).2.1 ∧ s.2.2.1 = (pK T S n a i).2.2))) (fun _ s => frQ sa.2.2.2.2 s.2.2.2.2 ∧ s.1 = (pK T S n a 99).1 ∧ s.2.1 = (pK T S n a 99).2.1 ∧ s.2.2.1 = (pK T S n a 99).2.2) 99 (by decide) ⟨rfl, frQ_2, Or.inl ⟨rfl, rfl⟩⟩
    (by
      intro i s hi ⟨g1, g2, g3⟩
      obtain ⟨be, mo, sl, x, M⟩ := s
      dsimp only at g1 g2 g3
      subst g1
      have hR3 := RV_Q hR2 hW.T g2
      obtain ⟨M1, p1, p2, p3, p4, p5⟩ := md_layTried_e hW.T hR3.S ⟨_, hW.S⟩
      have q1 : frQ M M1 := frQ_L p2 (congrArg mj_J p3)
      have q2 : frQ M1 (mj_up M1 68 66 (.int (nI (i + 1)))) := ⟨fun a j h => na_upN (by unfold okq okl okc at h; omega), congrArg mj_J (na_upN (by omega))⟩
      have hR4 := RV_Q hR3 hW.T (frQ_tr q1 q2)
      have hO : HO (mj_up M1 68 66 (.int (nI (i + 1)))) T := PL_HO (m := M1) p5 hW.T (RV_Q hR3 hW.T q1).R9
      obtain ⟨M2, p6, p7, p8, p9⟩ := md_goMany_e (pc := i + 1) (mode := 1) (num := n) (n := a) hR4.T hR4.L hO hW.T hW.L (p4.cong (fun k j h1 h2 => na_upN (by omega))) hW.S (by omega) ⟨by rw [na_upS]; rfl, by rw [na_upN (by omega)]; exact p5.1, by rw [na_upN (by omega)]; exact p5.2.1⟩ (by omega) (by decide) hW.num (by rw [na_upN (by omega), p3]; exact hR3.num) (by rw [na_upN (by omega)]; exact p5.2.2.1)
      have p8 : SR T 1 M2 (pH T (i + 1) S n a) := p8
      have q3 : frQ (mj_up M1 68 66 (.int (nI (i + 1)))) M2 := ⟨fun a j h => p7 a j (fun z => h (Or.inl (Or.inl z))), by rw [p9, sHours_1, na_upN (by omega), p3]; exact hR3.num.symm⟩
      have hR5 := RV_Q hR4 hW.T q3
      have f5 := frQ_tr g2 (frQ_tr (frQ_tr q1 q2) q3)
      have w1 := pH_WS (n := n) (s := i + 1) (k := a) hW.T hW.S
      have b1 := md_doneAll_e (b := 1) (by decide) hW.T hR5.T p8 w1
      have b2 := md_doneAll_e (b := 0) (by decide) hW.T hR5.T hR5.S hW.S
      have b3 := md_slipsAll_e (b := 1) (by decide) hW.T hR5.T p8
      have b4 := md_slipsAll_e (b := 0) (by decide) hW.T hR5.T hR5.S
      have b1 : md_doneAll 1 M2 = _ := b1
      have b2 : md_doneAll 0 M2 = _ := b2
      have b3 : md_slipsAll 1 M2 = _ := b3
      have b4 : md_slipsAll 0 M2 = _ := b4
      unfold md_pace_l37
      dsimp only
      rw [if_neg (show ¬ (100 : Int32) ≤ nI (i + 1) from nI_ge (b := 100) (by omega) (by decide)), p1, Option.bind_some, p6, Option.bind_some, b1, Option.bind_some, b2, Option.bind_some, b3, Option.bind_some, b4, Option.bind_some]
      show (∃ s1, (if be ≤ 0 then md_pace_j113l37 (nI a) v (nI (i + 1)) (pD T S n a (i + 1)) (pX T S n a (i + 1)) M2 else if pD T S n a (i + 1) < mo then md_pace_j124l37 (nI a) v be mo sl (nI (i + 1)) M2 else if pD T S n a (i + 1) = mo then (if pX T S n a (i + 1) < sl then md_pace_j113l37 (nI a) v (nI (i + 1)) (pD T S n a (i + 1)) (pX T S n a (i + 1)) M2 else md_pace_j124l37 (nI a) v be mo sl (nI (i + 1)) M2) else md_pace_j113l37 (nI a) v (nI (i + 1)) (pD T S n a (i + 1)) (pX T S n a (i + 1)) M2) = some (0, s1) ∧ _) ∨ _
      rcases g3 with ⟨rfl, rfl⟩ | ⟨hi0, rfl, rfl, rfl⟩
      · rw [if_pos (show (0 : Int32) ≤ 0 from by decide), pK_succ, if_pos (show (pK T S n a 0).2.1 < pD T S n a (0 + 1) from pD_ge hW.T)]
        exact Or.inl ⟨_, rfl, (nI_succ _).symm, f5, Or.inr ⟨by omega, rfl, rfl, rfl⟩⟩
      · obtain ⟨j, rfl⟩ : ∃ j, i = j + 1 := ⟨i - 1, by omega⟩
        obtain ⟨s, s1, s2, s3⟩ := pK_best (S := S) (n := n) (a := a) hW.T j
        have hb : ¬ (pK T S n a (j + 1)).1 ≤ 0 := by
          rw [s3, show (0 : Int32) = nI 0 from rfl, nI_leI (by omega) (by decide)]
          omega
        rw [if_neg hb, pK_succ (i := j + 1)]
        generalize (pD T S n a (j + 1 + 1)) = D
        generalize (pX T S n a (j + 1 + 1)) = X
        generalize pK T S n a (j + 1) = K
        by_cases c1 : D < K.2.1
        · have c2 : ¬ K.2.1 < D := by rw [na_ltI] at c1 ⊢; omega
          have c3 : ¬ D = K.2.1 := fun z => by rw [z, na_ltI] at c1; omega
          rw [if_pos c1, if_neg c2, if_neg c3]
          exact Or.inl ⟨_, rfl, (nI_succ _).symm, f5, Or.inr ⟨by omega, rfl, rfl, rfl⟩⟩
        rw [if_neg c1]
        by_cases c3 : D = K.2.1
        · have c2 : ¬ K.2.1 < D := by rw [c3, na_ltI]; omega
          rw [if_pos c3, if_neg c2, if_pos c3]
          by_cases c4 : X < K.2.2
          · have c5 : ¬ K.2.2 ≤ X := by rw [na_leI]; rw [na_ltI] at c4; omega
            rw [if_pos c4, if_neg c5]
            exact Or.inl ⟨_, rfl, (nI_succ _).symm, f5, Or.inr ⟨by omega, rfl, rfl, rfl⟩⟩
          · have c5 : K.2.2 ≤ X := by rw [na_leI]; rw [na_ltI] at c4; omega
            rw [if_neg c4, if_pos c5]
            exact Or.inl ⟨_, rfl, (nI_succ _).symm, f5, Or.inr ⟨by omega, rfl, rfl, rfl⟩⟩
        · have c2 : K.2.1 < D := by
            apply Classical.byContradiction
            intro z
            exact c3 (leI_or ⟨c1, z⟩)
          rw [if_neg c3, if_pos c2]
          exact Or.inl ⟨_, rfl, (nI_succ _).symm, f5, Or.inr ⟨by omega, rfl, rfl, rfl⟩⟩)
    (by
      intro s ⟨g1, g2, g3⟩
      obtain ⟨be, mo, sl, x, M⟩ := s
      dsimp only at g1 g2 g3
      subst g1
      refine ⟨0, (be, mo, sl, 100, M), rfl, g2, ?_⟩
      rcases g3 with ⟨z, _⟩ | ⟨_, z⟩
      · exact absurd z (by decide)
      · exact z)
  obtain ⟨M3, e5, p5, f5⟩ := md_plain_e (m := sb.2.2.2.2)
  have q5 : frQ sb.2.2.2.2 M3 := ⟨fun a j h => f5 a j (by unfold okq okl okc at h; omega), congrArg mj_J (f5 _ _ (by omega))⟩
  have hmd : md_pace (nI a) v sa.2.2.2.2 = (if v = 0 then some (sb.1, M3) else if v = 1 then some (sb.2.1, M3) else some (sb.2.2.1, M3)) := by
    unfold md_pace
    rw [i1, if_neg c, if_neg c', if_neg not01, i2, if_neg d, if_neg d2, if_neg not01, e4, Option.bind_some, e5]
    rfl
  have hmd2 := hmd
  unfold md_pace at hmd2
  rw [g4.1, g4.2.1, g4.2.2] at hmd2
  rw [g2.1, g2.2.1, g2.2.2]
  by_cases v0 : v = 0
  · rw [if_pos v0] at hmd2
    rw [if_pos v0]
    exact ⟨_, _, M3, rfl, f2, hmd2, frQ_tr f4 q5⟩
  rw [if_neg v0] at hmd2
  rw [if_neg v0]
  by_cases v1 : v = 1
  · rw [if_pos v1] at hmd2
    rw [if_pos v1]
    exact ⟨_, _, M3, rfl, f2, hmd2, frQ_tr f4 q5⟩
  rw [if_neg v1] at hmd2
  rw [if_neg v1]
  exact ⟨_, _, M3, rfl, f2, hmd2, frQ_tr f4 q5⟩
end PACE
