/-! CALLS THAT TRY, 6: chance (own work) -/
def frN (m m1 : mj_M) : Prop := ∀ a j, ¬ okq a j → m1 a j = m a j
theorem frN_tr {m m1 m2 : mj_M} (h1 : frN m m1) (h2 : frN m1 m2) : frN m m2 := fun a j h => (h2 a j h).trans (h1 a j h)
/-- the number behind k goes -/
def cN (T : zT) (S : zS) (a x : Nat) : Nat → Nat
  | 0 => x
  | k + 1 => (sHours T 0 0 (S, cN T S a x k) a).2
theorem cN_lt {T : zT} {S : zS} {a x : Nat} (h : x < 2 ^ 31) : ∀ k, cN T S a x k < 2 ^ 31 := by
  intro k
  induction k with
  | zero => exact h
  | succ k ih => exact sHours_n ih a
def cD (T : zT) (S : zS) (a x w k : Nat) : Bool := decide ((sHours T 0 0 (S, cN T S a x k) a).1.1 3 w = 0)
theorem cnt_y {f : Nat → Bool} {n : Nat} (h : f n = true) : cnt f (n + 1) = cnt f n + 1 := by
  show cnt f n + (if f n = true then 1 else 0) = _
  rw [if_pos h]
theorem cnt_n {f : Nat → Bool} {n : Nat} (h : f n = false) : cnt f (n + 1) = cnt f n := by
  show cnt f n + (if f n = true then 1 else 0) = _
  rw [if_neg (by rw [h]; decide)]
  rfl
theorem cD_y {T : zT} {S : zS} {a x w i : Nat} (h : (sHours T 0 0 (S, cN T S a x i) a).1.1 3 w = 0) : cnt (cD T S a x w) (i + 1) = cnt (cD T S a x w) i + 1 := cnt_y (f := cD T S a x w) (decide_eq_true h)
theorem cD_n {T : zT} {S : zS} {a x w i : Nat} (h : ¬ (sHours T 0 0 (S, cN T S a x i) a).1.1 3 w = 0) : cnt (cD T S a x w) (i + 1) = cnt (cD T S a x w) i := cnt_n (f := cD T S a x w) (decide_eq_false h)
section CHANCE
variable {t : Nat} {m : mj_M} {T : zT} {S : zS} {n : Nat} {us : List zS} {I : Option (zS × Nat)} {E : zE} {B : zB} {F : Int32 × Int32}
theorem q_chance (ht : t = 3 ∨ t = 17) (hC : CV t m T S n us I E B F) (hR : RV m T S n us I E B F) (hW : WV T S n us I E B F) {v h q : Int32} : ∃ x m1 m2, bp_chance t v h q m = some (x, m1) ∧ frT m m1 ∧ md_chance v h q m1 = some (x, m2) ∧ frQ m1 m2 := by
  have hnw := hW.T.nw
  have i2 : ∀ M, md_isIn h 1 99 M = if h < 1 then 0 else if 99 < h then 0 else 1 := fun _ => rfl
  unfold bp_chance md_chance
  by_cases c : v < 0
  · exact ⟨_, m, _, by rw [if_pos c], frT_rfl, by rw [if_pos c], frQ_2⟩
  by_cases d : h < 1
  · exact ⟨_, m, _, by rw [if_neg c, if_pos d], frT_rfl, by rw [if_neg c, i2, if_pos d, if_pos rfl], frQ_2⟩
  by_cases d' : 99 < h
  · exact ⟨_, m, _, by rw [if_neg c, if_neg d, if_pos d'], frT_rfl, by rw [if_neg c, i2, if_neg d, if_pos d', if_pos rfl], frQ_2⟩
  rcases isWork_M (v := q) hR hW with ⟨h1, h2⟩ | ⟨w, hw, rfl, h1, h2⟩
  · exact ⟨_, m, _, by rw [if_neg c, if_neg d, if_neg d', h2 t m hC.T.nw, if_pos rfl], frT_rfl, by rw [if_neg c, i2, if_neg d, if_neg d', if_neg not01, h1, if_pos rfl], frQ_2⟩
  obtain ⟨a, ha0, ha, rfl⟩ := isIn_n (v := h) (a := 1) (b := 99) (by decide) (by decide) d d'
  obtain ⟨x, hx, rfl⟩ : ∃ x, x < 2 ^ 31 ∧ v = nI x := by
    rw [na_ltI] at c
    have h0 : ((0 : Int32)).toInt = 0 := rfl
    have hl := v.toInt_lt
    refine ⟨v.toInt.toNat, by omega, ?_⟩
    apply Int32.toInt_inj.mp
    rw [nI_toInt (by omega)]
    omega
  rw [if_neg c, if_neg d, if_neg d', h2 t m hC.T.nw, if_neg not01]
  have nl := cN_lt (T := T) (S := S) (a := a) hx
  have hWS : ∀ k, WS T (9900 + a) (sHours T 0 0 (S, cN T S a x k) a).1 := fun k => sHours_WS hW.T hW.S a
  have z : ∀ k, (nI ((sHours T 0 0 (S, cN T S a x k) a).1.1 3 w) = 0 ↔ (sHours T 0 0 (S, cN T S a x k) a).1.1 3 w = 0) := fun k => by
    have := (hWS k).left w hw
    exact nI_eq (b := 0) (by omega) (by decide)
  obtain ⟨ta, sa, e2, f2, g2⟩ := lp_ex (body := bp_chance_l37 t (nI a) (nI w)) (s := (nI x, 0, 0, m)) (fun i s => s.1 = nI (cN T S a x i) ∧ s.2.1 = nI (cnt (cD T S a x w) i) ∧ s.2.2.1 = nI i ∧ frT m s.2.2.2) (fun _ s => frT m s.2.2.2 ∧ s.2.1 = nI (cnt (cD T S a x w) 10)) 10 (by decide) ⟨rfl, rfl, rfl, frT_rfl⟩
    (by
      intro i s hi ⟨g1, g2, g3, g4⟩
      obtain ⟨a1, a2, a3, M⟩ := s
      dsimp only at g1 g2 g3 g4
      subst g1 g2 g3
      have hC1 := hC.cong ht (frT_K g4)
      obtain ⟨M1, p1, p2⟩ := try_C hC1 hW
      have fu : frT M1 (mj_up M1 47 3 (.int (nI (cN T S a x i)))) := fun k h1 h2 h3 => funext fun j => na_upN (by omega)
      have hC2 := (hC1.cong ht (frT_K p2.1)).cong ht (frT_K fu)
      obtain ⟨M2, p3, p4, p5, p6⟩ := bp_tryHours_e (pc := 0) (mode := 0) (num := cN T S a x i) (n := a) ht hC2.T hW.T hW.L (p2.2.1.cong (fun j hj => na_upN (by omega)) (fun i h1 h2 => funext fun j => na_upN (by omega))) hW.S (by omega) hC2.inst (by decide) (by decide) (nl i) (by rw [na_upS]; rfl)
      have hl : fx_at M2 50 (nI w) = nI ((sHours T 0 0 (S, cN T S a x i) a).1.1 3 w) := (SC_at p5 (Or.inr (Or.inl rfl)) hW.T).2.2.1 w hw
      have p6 : mj_I (M2 47 3) = nI (cN T S a x (i + 1)) := p6
      have f5 := frT_tr g4 (frT_tr p2.1 (frT_tr fu (frT_C p4)))
      have p3 : bp_tryHours t (nI a) 0 (mj_up M1 47 3 (.int (nI (cN T S a x i)))) = some M2 := p3
      unfold bp_chance_l37 sa_isDone
      dsimp only
      rw [if_neg (show ¬ (10 : Int32) ≤ nI i from nI_ge (b := 10) (by omega) (by decide)), p1, Option.bind_some, p3, Option.bind_some, hl, p6]
      simp only [z i]
      left
      by_cases c : (sHours T 0 0 (S, cN T S a x i) a).1.1 3 w = 0
      · rw [if_pos c, if_neg not01]
        exact ⟨_, rfl, rfl, by rw [cD_y c]; exact (nI_succ _).symm, (nI_succ _).symm, f5⟩
      · rw [if_neg c, if_pos rfl]
        exact ⟨_, rfl, rfl, by rw [cD_n c], (nI_succ _).symm, f5⟩)
    (by
      intro s ⟨g1, g2, g3, g4⟩
      obtain ⟨a1, a2, a3, M⟩ := s
      dsimp only at g1 g2 g3 g4
      subst g1 g2 g3
      exact ⟨0, (nI (cN T S a x 10), nI (cnt (cD T S a x w) 10), nI 10, M), rfl, g4, rfl⟩)
  rw [e2, Option.bind_some]
  dsimp only
  have hR2 := RV_T hR hW.T f2
  have hwk : md_isWork (nI w) (mj_up sa.2.2.2 68 2 (.int 0)) = 1 := by
    rcases isWork_M (v := nI w) hR2 hW with ⟨g1, g2⟩ | ⟨p', _, _, g1, _⟩
    · have z1 := h2 t m hC.T.nw
      have z2 := g2 t m hC.T.nw
      rw [z1] at z2
      exact absurd z2 (by decide)
    · exact g1
  have rv : ∀ M k, frN sa.2.2.2 M → mj_J (M 68 60) = lN k → RV M T S k us I E B F := fun M k f h60 => hR2.cong' hW.T (fun a j h => f a j (fun z => h (okq_d z))) h60
  obtain ⟨tb, sb, e4, f4, g4⟩ := lp_ex (body := md_chance_l47 (nI a) (nI w) (mj_J (sa.2.2.2 68 60))) (s := (0, 0, mj_up (mj_up sa.2.2.2 68 2 (.int 0)) 68 60 (.long ((nI x).toInt64)))) (fun i s => s.1 = nI (cnt (cD T S a x w) i) ∧ s.2.1 = nI i ∧ frN sa.2.2.2 s.2.2 ∧ mj_J (s.2.2 68 60) = lN (cN T S a x i)) (fun _ s => s.1 = nI (cnt (cD T S a x w) 10) ∧ frN sa.2.2.2 s.2.2) 10 (by decide) ⟨rfl, rfl, fun a j h => by unfold okq okl okc at h; dsimp only; rw [na_upN (by omega), na_upN (by omega)], by dsimp only; rw [na_upS]; exact nI_l hx⟩
    (by
      intro i s hi ⟨g1, g2, g3, g4⟩
      obtain ⟨a1, a2, M⟩ := s
      dsimp only at g1 g2 g3 g4
      subst g1 g2
      have hR3 := rv M _ g3 g4
      obtain ⟨M1, p1, p2, p3, p4, p5⟩ := md_layTried_e hW.T hR3.S ⟨_, hW.S⟩
      have k1 : frN M (mj_up M1 68 63 (.int 1)) := fun a j h => by
        rw [na_upN (by unfold okq okl okc at h; omega)]
        exact p2 a j (fun z => h (Or.inl z))
      have k2 : mj_J (mj_up M1 68 63 (.int 1) 68 60) = lN (cN T S a x i) := by rw [na_upN (by omega), p3]; exact g4
      have hR4 := rv _ _ (frN_tr g3 k1) k2
      have hO : HO (mj_up M1 68 63 (.int 1)) T := PL_HO (m := M1) p5 hW.T hR4.R9
      obtain ⟨M2, p6, p7, p8, p9⟩ := md_goMany_e (pc := 0) (mode := 0) (num := cN T S a x i) (n := a) hR4.T hR4.L hO hW.T hW.L (p4.cong (fun k j h1 h2 => na_upN (by omega))) hW.S (by omega) ⟨by rw [na_upN (by omega)]; exact p5.2.2.2.1, by rw [na_upS]; rfl, by rw [na_upN (by omega)]; exact p5.2.1⟩ (by decide) (by decide) (nl i) k2 (by rw [na_upN (by omega)]; exact p5.2.2.1)
      have k3 : frN M M2 := frN_tr k1 (fun a j h => p7 a j (fun z => h (Or.inl (Or.inl z))))
      have x1 : (nI (8 + w) < 0) = False := eq_false (nI_pos (by omega))
      have x1' : (16 ≤ 8 + w) = False := eq_false (by omega)
      have x2 : (nI (8 + w)).toNatClampNeg = 8 + w := nI_clamp (by omega)
      have e8 : (8 : Int32) + nI w = nI (8 + w) := by rw [show (8 : Int32) = nI 8 from rfl, nI_add]
      have hl : mj_I (M2 93 (8 + w)) = nI ((sHours T 0 0 (S, cN T S a x i) a).1.1 3 w) := p8.left w hw
      unfold md_chance_l47
      dsimp only
      rw [if_neg (show ¬ (10 : Int32) ≤ nI i from nI_ge (b := 10) (by omega) (by decide)), p1, Option.bind_some, p6, Option.bind_some]
      simp only [e8, x1, x1', x2, or_self, if_false, hl, z i]
      left
      by_cases c : (sHours T 0 0 (S, cN T S a x i) a).1.1 3 w = 0
      · rw [if_pos c]
        exact ⟨_, rfl, by rw [cD_y c]; exact (nI_succ _).symm, (nI_succ _).symm, frN_tr g3 k3, p9⟩
      · rw [if_neg c]
        exact ⟨_, rfl, by rw [cD_n c]; exact Int32.add_zero _, (nI_succ _).symm, frN_tr g3 k3, p9⟩)
    (by
      intro s ⟨g1, g2, g3, g4⟩
      obtain ⟨a1, a2, M⟩ := s
      dsimp only at g1 g2 g3 g4
      subst g1 g2
      exact ⟨0, (nI (cnt (cD T S a x w) 10), nI 10, M), rfl, rfl, g3⟩)
  refine ⟨nI (cnt (cD T S a x w) 10), _, mj_up (mj_up sb.2.2 68 63 (.int 0)) 68 60 (.long (mj_J (sa.2.2.2 68 60))), by rw [g2], f2, ?_, ?_⟩
  · rw [if_neg c, i2, if_neg d, if_neg d', if_neg not01, hwk, if_neg not01, e4, Option.bind_some]
    dsimp only
    rw [f4]
  · refine ⟨fun a j h => ?_, by rw [na_upS]; rfl⟩
    have h' := h
    unfold okq okl okc at h'
    rw [na_upN (by omega), na_upN (by omega)]
    exact g4 a j h
end CHANCE
