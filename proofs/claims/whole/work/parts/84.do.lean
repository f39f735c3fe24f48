/-! CALLS THAT CHANGE THE STATE, 5: shift wind hiccup aunt (own work) -/
section DO
variable {t : Nat} {m : mj_M} {T : zT} {S S' : zS} {n : Nat} {us : List zS} {I : Option (zS × Nat)} {E : zE} {B : zB} {F : Int32 × Int32}
theorem u2_bk {α : Type} {g : Nat → Nat → α} {i j : Nat} {v w : α} (h : g i j = w) : g = u2 (u2 g i j v) i j w := by
  funext a b
  by_cases c : a = i ∧ b = j
  · rw [c.1, c.2, u2_s, h]
  · rw [u2_n c, u2_n c]
theorem deed_step {c1 c2 : mj_M} {k man wn : Nat} {v2 wi : Int32} (ht : t = 3 ∨ t = 17) (hC : CV t m T S n us I E B F) (hR : RV m T S n us I E B F) (hW : WV T S n us I E B F)
    (f1 : ∀ a, a < 57 ∨ 60 < a → c1 a = m a) (n1 : mj_I (c1 57 0) = nI ((cutU us).length + 1)) (d1 : dvC T c1 S (cutU us)) (g1 : mj_I (c1 58 (cutU us).length) = nI k) (g2 : mj_I (c1 59 (cutU us).length) = v2) (g3 : mj_I (c1 60 (cutU us).length) = wi)
    (hk : k ≤ 4) (hm : 2 ≤ k → man < T 0 0 ∧ v2 = nI man) (hwi : 1 ≤ k → wi = nI wn ∧ wn ≤ 999) (hb : S = dBk k man wn wi S')
    (f2 : ∀ a j, (a < 42 ∨ 46 < a) → c2 a j = c1 a j) (h23 : mj_I (c2 42 3) = mj_I (m 42 3)) (sC : SC T 42 c2 S') (hWS : WS T 9900 S') (hNH : NHs T S') :
    ∃ r1, md_remember (mj_up c2 68 2 (.int 0)) = some r1 ∧ SR T 0 r1 S ∧ ∀ f : mj_M, (∀ a j, ¬ (93 ≤ a ∧ a ≤ 100) → f a j = r1 a j) → SR T 0 f S' → REL t f := by
  have k2 : ∀ a, (a < 42 ∨ 46 < a) → c2 a = c1 a := fun a h => funext fun j => f2 a j h
  have kr : ∀ a j, ¬ (a = 68 ∧ j = 2) → (a < 42 ∨ 46 < a) → (a < 57 ∨ 60 < a) → mj_up c2 68 2 (.int 0) a j = m a j := fun a j h1 h2 h3 => by rw [na_upN h1, k2 a h2, f1 a h3]
  have s0 : SR T 0 (mj_up c2 68 2 (.int 0)) S := hR.S.cong (fun a j h1 h2 => kr _ _ (by omega) (by omega) (by omega))
  have d0 : dvR T (mj_up c2 68 2 (.int 0)) us := dvR_cong (funext fun j => kr _ _ (by omega) (by omega) (by omega)) hR.us
  obtain ⟨r1, p1, p2, p3, p4⟩ := md_remember_e hW.T s0 hW.S d0 (by rw [kr _ _ (by omega) (by omega) (by omega)]; exact hR.uc) hW.uc
  have s1 : SR T 0 r1 S := s0.cong (fun a j h1 h2 => p2 _ _ (by omega) (by omega))
  refine ⟨r1, p1, s1, fun f hf sf => ?_⟩
  have kf : ∀ a j, a < 68 → f a j = c2 a j := fun a j h => by rw [hf _ _ (by omega), p2 _ _ (by omega) (by omega), na_upN (by omega)]
  have kfr : ∀ a, a < 68 → f a = c2 a := fun a h => funext fun j => kf a j h
  have hln : (S :: cutU us).length = (cutU us).length + 1 := rfl
  obtain ⟨l1, l2, l3⟩ := cutU_len hW.uc
  refine deed_REL (S' := S') (us' := S :: cutU us) ht hC hR hW (fun k h => by rw [kfr k (by omega), k2 k (by omega), f1 k (by omega)]) (fun k h1 h2 => by rw [kfr k (by omega), k2 k (by omega), f1 k (by omega)]) (fun k h1 h2 => by rw [kfr k (by omega), k2 k (by omega), f1 k (by omega)]) ?_ ?_ ?_ ?_ ?_ sf ?_ ?_ hWS hNH ?_ ?_
  · exact sC.cong (fun j _ => by rw [kfr 42 (by omega)]) (fun i h1 h2 => by rw [kfr _ (by omega)])
  · rw [kf _ _ (by omega), h23]; exact hC.num
  · rw [kf _ _ (by omega), f2 _ _ (by omega), hln]; exact n1
  · refine ⟨⟨k, man, wn, wi, hk, ?_, fun h => ⟨(hm h).1, ?_⟩, ?_, hwi, hb⟩, dvC_cong (fun k h1 h2 => by rw [kfr k (by omega), k2 k (by omega)]) d1⟩
    · rw [kf _ _ (by omega), f2 _ _ (by omega)]; exact g1
    · rw [kf _ _ (by omega), f2 _ _ (by omega), g2]; exact (hm h).2
    · rw [kf _ _ (by omega), f2 _ _ (by omega)]; exact g3
  · intro a j h1 h2 h3 h4
    rw [hf _ _ h2, p2 _ _ h3 (by omega)]
    exact kr _ _ (by omega) (by omega) (by omega)
  · rw [hf _ _ (by omega), hln]; exact p3
  · exact dvR_cong (funext fun j => hf _ _ (by omega)) p4
  · rw [hln]; omega
  · intro u hu
    rcases List.mem_cons.mp hu with rfl | hu
    · exact ⟨hW.S, hW.nh⟩
    · exact hW.us u (cutU_mem hu)
theorem isIn_e {v : Int32} {a b : Int32} {M : mj_M} : (md_isIn v a b M = 0 ∧ (v < a ∨ b < v)) ∨ (md_isIn v a b M = 1 ∧ ¬ v < a ∧ ¬ b < v) := by
  unfold md_isIn
  by_cases c : v < a
  · rw [if_pos c]; exact Or.inl ⟨rfl, Or.inl c⟩
  · rw [if_neg c]
    by_cases d : b < v
    · rw [if_pos d]; exact Or.inl ⟨rfl, Or.inr d⟩
    · rw [if_neg d]; exact Or.inr ⟨rfl, c, d⟩
theorem q_shift (ht : t = 3 ∨ t = 17) (h : REL t m) {v : Int32} : ∃ x m1 m2, bp_shift v m = some (x, m1) ∧ md_shift v m1 = some (x, m2) ∧ REL t m2 := by
  obtain ⟨T, S, n, us, I, E, B, F, hC, hR, hW⟩ := h
  have hw := hW.T
  have no : REL t (mj_up m 68 2 (.int 0)) := REL_Q ht ⟨T, S, n, us, I, E, B, F, hC, hR, hW⟩ frQ_2
  have t0 : ((0 : Int32)).toNatClampNeg = 0 := rfl
  have hR0 := hR.S.shift
  unfold bp_shift md_shift
  rcases isIn_e (v := v) (a := -99) (b := 99) (M := mj_up m 68 2 (.int 0)) with ⟨i1, i2⟩ | ⟨_, i2, i3⟩
  · refine ⟨0, m, _, ?_, by rw [i1, if_pos rfl], no⟩
    rcases i2 with i2 | i2
    · rw [if_pos i2]
    · by_cases c : v < -99
      · rw [if_pos c]
      · rw [if_neg c, if_pos i2]
  have iI : ∀ M, md_isIn v (-99) 99 M = 1 := fun M => by unfold md_isIn; rw [if_neg i2, if_neg i3]
  rw [if_neg i2, if_neg i3, hC.S.shift]
  by_cases c : v = S.2 0 2
  · exact ⟨0, m, _, by rw [if_pos c], by rw [iI, if_neg not01, t0, hR0, if_pos c.symm], no⟩
  obtain ⟨c1, e1, f1, n1, d1, g1, g2, g3⟩ := de_add_e (v1 := 0) (v2 := -1) (v3 := S.2 0 2) hC.us hC.uc hW.uc
  have sc1 : SC T 42 c1 S := hC.S.cong (fun j _ => by rw [f1 42 (by omega)]) (fun i h1 h2 => f1 _ (by omega))
  generalize hc2 : mj_up c1 42 2 (.int v) = c2
  have k2 : ∀ a j, ¬ (a = 42 ∧ j = 2) → c2 a j = c1 a j := fun a j h => by rw [← hc2, na_upN h]
  have n99 : ((-99 : Int32)).toInt = -99 := rfl
  have p99 : ((99 : Int32)).toInt = 99 := rfl
  have j2 := i2
  have j3 := i3
  rw [na_ltI] at j2 j3
  have hWS : WS T 9900 (S.1, u2 S.2 0 2 v) := ⟨hW.S.hour, hW.S.coil, by show -99 ≤ (u2 S.2 0 2 v 0 2).toInt ∧ (u2 S.2 0 2 v 0 2).toInt ≤ 99; rw [u2_s]; omega, hW.S.here, hW.S.hic, hW.S.left⟩
  obtain ⟨r1, p1, s1, p2⟩ := deed_step (S' := (S.1, u2 S.2 0 2 v)) (c2 := c2) (k := 0) (man := 0) (wn := 0) ht hC hR hW f1 n1 d1 g1 g2 g3 (by omega) (fun z => by omega) (fun z => by omega) (Prod.ext rfl (u2_bk rfl)) (fun a j h => k2 _ _ (by omega)) (by rw [k2 _ _ (by omega), f1 42 (by omega)]) (by
    refine ⟨?_, ?_, ?_, ?_, ?_, ?_, ?_, ?_, ?_, ?_⟩
    · rw [k2 _ _ (by omega)]; exact sc1.hour
    · rw [k2 _ _ (by omega)]; exact sc1.coil
    · rw [← hc2, na_upS]; show v = u2 S.2 0 2 v 0 2; rw [u2_s]
    · rw [k2 _ _ (by omega)]; exact sc1.here
    · intro p hp; rw [k2 _ _ (by omega)]; show _ = u2 S.2 0 2 v 1 p; rw [u2_r (by decide)]; exact sc1.slips p hp
    · intro p hp h6; rw [k2 _ _ (by omega)]; exact sc1.slips0 p hp h6
    · intro p hp; rw [k2 _ _ (by omega)]; exact sc1.hic p hp
    · intro p hp h6; rw [k2 _ _ (by omega)]; exact sc1.hic0 p hp h6
    · intro w hww; rw [k2 _ _ (by omega)]; exact sc1.left w hww
    · intro w hww; rw [k2 _ _ (by omega)]; show _ = u2 S.2 0 2 v 4 w; rw [u2_r (by decide)]; exact sc1.done w hww) hWS hW.nh
  refine ⟨1, c2, mj_up r1 99 0 (.int v), by rw [if_neg c, e1, Option.bind_some, hc2], ?_, p2 _ (fun a j h => na_upN (by omega)) ?_⟩
  · have e99 : mj_I (c2 99 0) = S.2 0 2 := by rw [k2 _ _ (by omega), f1 99 (by omega)]; exact hR0
    rw [iI, if_neg not01, t0, e99, if_neg (fun z => c z.symm), p1, Option.bind_some]
  · refine ⟨?_, ?_, ?_, ?_, ?_, ?_, ?_, ?_⟩
    · rw [na_upN (by omega)]; exact s1.hour
    · rw [na_upN (by omega)]; exact s1.coil
    · rw [na_upS]; show v = u2 S.2 0 2 v 0 2; rw [u2_s]
    · intro p hp; rw [na_upN (by omega)]; exact s1.here p hp
    · intro p hp; rw [na_upN (by omega)]; show _ = u2 S.2 0 2 v 1 p; rw [u2_r (by decide)]; exact s1.slips p hp
    · intro p hp; rw [na_upN (by omega)]; exact s1.hic p hp
    · intro w hww; rw [na_upN (by omega)]; exact s1.left w hww
    · intro w hww; rw [na_upN (by omega)]; show _ = u2 S.2 0 2 v 4 w; rw [u2_r (by decide)]; exact s1.done w hww
theorem q_wind (ht : t = 3 ∨ t = 17) (h : REL t m) {v : Int32} : ∃ x m1 m2, bp_wind v m = some (x, m1) ∧ md_wind v m1 = some (x, m2) ∧ REL t m2 := by
  obtain ⟨T, S, n, us, I, E, B, F, hC, hR, hW⟩ := h
  have hw := hW.T
  have no : REL t (mj_up m 68 2 (.int 0)) := REL_Q ht ⟨T, S, n, us, I, E, B, F, hC, hR, hW⟩ frQ_2
  have t0 : ((0 : Int32)).toNatClampNeg = 0 := rfl
  have hR0 := hR.S.coil
  have hco := hW.S.coil
  unfold bp_wind md_wind
  rcases isIn_e (v := v) (a := 1) (b := 999) (M := mj_up m 68 2 (.int 0)) with ⟨i1, i2⟩ | ⟨_, i2, i3⟩
  · refine ⟨-1, m, _, ?_, by rw [i1, if_pos rfl], no⟩
    rcases i2 with i2 | i2
    · rw [if_pos i2]
    · by_cases c : v < 1
      · rw [if_pos c]
      · rw [if_neg c, if_pos i2]
  have iI : ∀ M, md_isIn v 1 999 M = 1 := fun M => by unfold md_isIn; rw [if_neg i2, if_neg i3]
  obtain ⟨j, hj, rfl⟩ : ∃ j : Nat, j ≤ 999 ∧ v = nI j := na_ofN (n := 999) (by decide) (by
    rw [na_ltI] at i2
    rw [na_leI]
    have h0 : ((0 : Int32)).toInt = 0 := rfl
    have h1 : ((1 : Int32)).toInt = 1 := rfl
    omega) (by
    rw [na_ltI] at i3
    rw [na_leI]
    have h1 : ((999 : Int32)).toInt = 999 := rfl
    have h2 : (nI 999).toInt = 999 := rfl
    omega)
  rw [if_neg i2, if_neg i3, hC.S.coil, nI_add]
  by_cases c : S.1 0 1 + j ≤ 999
  case neg =>
    have c2 : ¬ nI (S.1 0 1 + j) ≤ 999 := nI_ge (a := 999) (by omega) (by omega)
    exact ⟨-1, m, _, by rw [if_neg c2], by rw [iI, if_neg not01, t0, hR0, nI_add, if_neg c2], no⟩
  have c3 : nI (S.1 0 1 + j) ≤ 999 := nI_le (b := 999) (by omega) (by omega)
  obtain ⟨c1, e1, f1, n1, d1, g1, g2, g3⟩ := de_add_e (v1 := 1) (v2 := -1) (v3 := nI (S.1 0 1)) hC.us hC.uc hW.uc
  have sc1 : SC T 42 c1 S := hC.S.cong (fun j _ => by rw [f1 42 (by omega)]) (fun i h1 h2 => f1 _ (by omega))
  generalize hc2 : mj_up c1 42 1 (.int (nI (S.1 0 1 + j))) = c2
  have k2 : ∀ a i, ¬ (a = 42 ∧ i = 1) → c2 a i = c1 a i := fun a i h => by rw [← hc2, na_upN h]
  have e0 : ∀ a i, ¬ (a = 0 ∧ i = 1) → u2 S.1 0 1 (S.1 0 1 + j) a i = S.1 a i := fun a i h => u2_n h
  have hWS : WS T 9900 (u2 S.1 0 1 (S.1 0 1 + j), S.2) := ⟨by show u2 S.1 0 1 (S.1 0 1 + j) 0 0 ≤ 9900; rw [e0 _ _ (by omega)]; exact hW.S.hour, by show u2 S.1 0 1 (S.1 0 1 + j) 0 1 ≤ 999; rw [u2_s]; exact c, hW.S.shift, fun p hp => by show u2 S.1 0 1 (S.1 0 1 + j) 5 p ≤ 1; rw [e0 _ _ (by omega)]; exact hW.S.here p hp, fun p hp => by show u2 S.1 0 1 (S.1 0 1 + j) 2 p ≤ 9; rw [e0 _ _ (by omega)]; exact hW.S.hic p hp, fun w hww => by show u2 S.1 0 1 (S.1 0 1 + j) 3 w ≤ 999; rw [e0 _ _ (by omega)]; exact hW.S.left w hww⟩
  obtain ⟨r1, p1, s1, p2⟩ := deed_step (S' := (u2 S.1 0 1 (S.1 0 1 + j), S.2)) (c2 := c2) (k := 1) (man := 0) (wn := S.1 0 1) ht hC hR hW f1 n1 d1 g1 g2 g3 (by omega) (fun z => by omega) (fun _ => ⟨rfl, hco⟩) (Prod.ext (u2_bk rfl) rfl) (fun a j h => k2 _ _ (by omega)) (by rw [k2 _ _ (by omega), f1 42 (by omega)]) (by
    refine ⟨?_, ?_, ?_, ?_, ?_, ?_, ?_, ?_, ?_, ?_⟩
    · rw [k2 _ _ (by omega)]; show _ = nI (u2 S.1 0 1 (S.1 0 1 + j) 0 0); rw [e0 _ _ (by omega)]; exact sc1.hour
    · rw [← hc2, na_upS]; show nI (S.1 0 1 + j) = nI (u2 S.1 0 1 (S.1 0 1 + j) 0 1); rw [u2_s]
    · rw [k2 _ _ (by omega)]; exact sc1.shift
    · rw [k2 _ _ (by omega)]; exact sc1.here
    · intro p hp; rw [k2 _ _ (by omega)]; exact sc1.slips p hp
    · intro p hp h6; rw [k2 _ _ (by omega)]; exact sc1.slips0 p hp h6
    · intro p hp; rw [k2 _ _ (by omega)]; show _ = nI (u2 S.1 0 1 (S.1 0 1 + j) 2 p); rw [e0 _ _ (by omega)]; exact sc1.hic p hp
    · intro p hp h6; rw [k2 _ _ (by omega)]; exact sc1.hic0 p hp h6
    · intro w hww; rw [k2 _ _ (by omega)]; show _ = nI (u2 S.1 0 1 (S.1 0 1 + j) 3 w); rw [e0 _ _ (by omega)]; exact sc1.left w hww
    · intro w hww; rw [k2 _ _ (by omega)]; exact sc1.done w hww) hWS (fun p hp h => by
      have h : u2 S.1 0 1 (S.1 0 1 + j) 5 p = 0 := h
      rw [e0 _ _ (by omega)] at h
      show u2 S.1 0 1 (S.1 0 1 + j) 2 p = 0
      rw [e0 _ _ (by omega)]
      exact hW.nh p hp h)
  have e1c : mj_I (c1 42 1) = nI (S.1 0 1) := sc1.coil
  have e1r : mj_I (r1 98 0) = nI (S.1 0 1) := s1.coil
  refine ⟨nI (S.1 0 1 + j), c2, mj_up r1 98 0 (.int (nI (S.1 0 1 + j))), by rw [if_pos c3, e1, Option.bind_some, e1c, nI_add, hc2], ?_, p2 _ (fun a j h => na_upN (by omega)) ?_⟩
  · have e98 : mj_I (c2 98 0) = nI (S.1 0 1) := by rw [k2 _ _ (by omega), f1 98 (by omega)]; exact hR0
    rw [iI, if_neg not01, t0, e98, nI_add, if_pos c3, p1, Option.bind_some, e1r, nI_add]
  · refine ⟨?_, ?_, ?_, ?_, ?_, ?_, ?_, ?_⟩
    · rw [na_upN (by omega)]; show _ = nI (u2 S.1 0 1 (S.1 0 1 + j) 0 0); rw [e0 _ _ (by omega)]; exact s1.hour
    · rw [na_upS]; show nI (S.1 0 1 + j) = nI (u2 S.1 0 1 (S.1 0 1 + j) 0 1); rw [u2_s]
    · rw [na_upN (by omega)]; exact s1.shift
    · intro p hp; rw [na_upN (by omega)]; show _ = nI (u2 S.1 0 1 (S.1 0 1 + j) 5 p); rw [e0 _ _ (by omega)]; exact s1.here p hp
    · intro p hp; rw [na_upN (by omega)]; exact s1.slips p hp
    · intro p hp; rw [na_upN (by omega)]; show _ = nI (u2 S.1 0 1 (S.1 0 1 + j) 2 p); rw [e0 _ _ (by omega)]; exact s1.hic p hp
    · intro w hww; rw [na_upN (by omega)]; show _ = nI (u2 S.1 0 1 (S.1 0 1 + j) 3 w); rw [e0 _ _ (by omega)]; exact s1.left w hww
    · intro w hww; rw [na_upN (by omega)]; exact s1.done w hww
theorem q_hiccup (ht : t = 3 ∨ t = 17) (h : REL t m) {v w : Int32} : ∃ x m1 m2, bp_hiccup t v w m = some (x, m1) ∧ md_hiccup v w m1 = some (x, m2) ∧ REL t m2 := by
  obtain ⟨T, S, n, us, I, E, B, F, hC, hR, hW⟩ := h
  have hw := hW.T
  have hnp := hw.np
  have no : REL t (mj_up m 68 2 (.int 0)) := REL_Q ht ⟨T, S, n, us, I, E, B, F, hC, hR, hW⟩ frQ_2
  unfold bp_hiccup md_hiccup
  rcases isHere_c hC hR hW v with ⟨h1, h2 | ⟨p, hp, rfl, h2, h3⟩⟩ | ⟨p, hp, rfl, h1, h2, h3⟩
  · exact ⟨0, m, _, by rw [h1, if_pos rfl], by rw [h2, if_pos rfl], no⟩
  · have o1 : (nI p < 0) = False := eq_false (nI_pos (by omega))
    have o1' : (12 ≤ p) = False := eq_false (by omega)
    have o2 : (nI p).toNatClampNeg = p := nI_clamp (by omega)
    have e97 : mj_I (m 97 p) = 0 := by
      have e := hR.S.here p hp
      rw [show 6 * 0 + p = p by omega, h3] at e
      exact e
    refine ⟨0, m, _, by rw [h1, if_pos rfl], ?_, no⟩
    rw [h2, if_neg not01]
    simp only [o1, o1', o2, or_self, if_false]
    rw [e97, if_pos rfl]
  have o1 : (nI p < 0) = False := eq_false (nI_pos (by omega))
  have o1' : (12 ≤ p) = False := eq_false (by omega)
  have o2 : (nI p).toNatClampNeg = p := nI_clamp (by omega)
  have e97 : mj_I (m 97 p) = nI 1 := by
    have e := hR.S.here p hp
    rw [show 6 * 0 + p = p by omega, h3] at e
    exact e
  have e96 : mj_I (m 96 p) = nI (S.1 2 p) := by
    have e := hR.S.hic p hp
    rw [show 6 * 0 + p = p by omega] at e
    exact e
  have e44 : fx_at m 44 (nI p) = nI (S.1 2 p) := (SC_at hC.S (Or.inl rfl) hw).2.1 p hp
  have n10 : ¬ nI 1 = (0 : Int32) := by decide
  have mE : ∀ M : mj_M, mj_I (M 68 12) = mj_I (m 68 12) → md_isMan (nI p) M = 1 := fun M hM => by
    have h2 : md_isMan (nI p) m = 1 := h2
    unfold md_isMan at h2 ⊢
    rw [hM]
    exact h2
  rw [h1, if_neg not01]
  rcases isIn_e (v := w) (a := 0) (b := 9) (M := mj_up m 68 2 (.int 0)) with ⟨i1, i2⟩ | ⟨_, i2, i3⟩
  · refine ⟨0, m, _, ?_, ?_, no⟩
    · rcases i2 with i2 | i2
      · rw [if_pos i2]
      · by_cases c : w < 0
        · rw [if_pos c]
        · rw [if_neg c, if_pos i2]
    · rw [h2, if_neg not01]
      simp only [o1, o1', o2, or_self, if_false]
      rw [e97, if_neg n10, i1, if_pos rfl]
  have iI : ∀ M, md_isIn w 0 9 M = 1 := fun M => by unfold md_isIn; rw [if_neg i2, if_neg i3]
  obtain ⟨j, hj, rfl⟩ : ∃ j : Nat, j ≤ 9 ∧ w = nI j := na_ofN (n := 9) (by decide) (by
    rw [na_ltI] at i2
    rw [na_leI]
    omega) (by
    rw [na_ltI] at i3
    rw [na_leI]
    have h1 : ((9 : Int32)).toInt = 9 := rfl
    have h2 : (nI 9).toInt = 9 := rfl
    omega)
  rw [if_neg i2, if_neg i3, e44]
  have hh9 := hW.S.hic p hp
  by_cases c : nI (S.1 2 p) = nI j
  · refine ⟨0, m, _, by rw [if_pos c], ?_, no⟩
    rw [h2, if_neg not01]
    simp only [o1, o1', o2, or_self, if_false]
    rw [e97, if_neg n10, iI, if_neg not01, e96, if_pos c]
  obtain ⟨c1, e1, f1, n1, d1, g1, g2, g3⟩ := de_add_e (v1 := 2) (v2 := nI p) (v3 := nI (S.1 2 p)) hC.us hC.uc hW.uc
  have sc1 : SC T 42 c1 S := hC.S.cong (fun j _ => by rw [f1 42 (by omega)]) (fun i h1 h2 => f1 _ (by omega))
  have z44 : mj_siz 44 = 6 := by decide
  have eput : fx_put c1 44 (nI p) (nI j) = mj_up c1 44 p (.int (nI j)) := na_put (by omega) (by omega)
  generalize hc2 : mj_up c1 44 p (.int (nI j)) = c2
  have k2 : ∀ a i, ¬ (a = 44 ∧ i = p) → c2 a i = c1 a i := fun a i h => by rw [← hc2, na_upN h]
  have e0 : ∀ a i, ¬ (a = 2 ∧ i = p) → u2 S.1 2 p j a i = S.1 a i := fun a i h => u2_n h
  have hWS : WS T 9900 (u2 S.1 2 p j, S.2) := ⟨by show u2 S.1 2 p j 0 0 ≤ 9900; rw [e0 _ _ (by omega)]; exact hW.S.hour, by show u2 S.1 2 p j 0 1 ≤ 999; rw [e0 _ _ (by omega)]; exact hW.S.coil, hW.S.shift, fun q hq => by show u2 S.1 2 p j 5 q ≤ 1; rw [e0 _ _ (by omega)]; exact hW.S.here q hq, fun q hq => by
    show u2 S.1 2 p j 2 q ≤ 9
    by_cases z : q = p
    · rw [z, u2_s]; exact hj
    · rw [e0 _ _ (by omega)]; exact hW.S.hic q hq, fun w hww => by show u2 S.1 2 p j 3 w ≤ 999; rw [e0 _ _ (by omega)]; exact hW.S.left w hww⟩
  obtain ⟨r1, p1, s1, p2⟩ := deed_step (S' := (u2 S.1 2 p j, S.2)) (c2 := c2) (k := 2) (man := p) (wn := S.1 2 p) ht hC hR hW f1 n1 d1 g1 g2 g3 (by omega) (fun _ => ⟨hp, rfl⟩) (fun _ => ⟨rfl, by omega⟩) (Prod.ext (u2_bk rfl) rfl) (fun a j h => k2 _ _ (by omega)) (by rw [k2 _ _ (by omega), f1 42 (by omega)]) (by
    refine ⟨?_, ?_, ?_, ?_, ?_, ?_, ?_, ?_, ?_, ?_⟩
    · rw [k2 _ _ (by omega)]; show _ = nI (u2 S.1 2 p j 0 0); rw [e0 _ _ (by omega)]; exact sc1.hour
    · rw [k2 _ _ (by omega)]; show _ = nI (u2 S.1 2 p j 0 1); rw [e0 _ _ (by omega)]; exact sc1.coil
    · rw [k2 _ _ (by omega)]; exact sc1.shift
    · rw [k2 _ _ (by omega), sc1.here]
      refine congrArg nI (bz_congr (fun q _ => ?_))
      show _ = decide (u2 S.1 2 p j 5 q = 1)
      rw [e0 _ _ (by omega)]
    · intro q hq; rw [k2 _ _ (by omega)]; exact sc1.slips q hq
    · intro q hq h6; rw [k2 _ _ (by omega)]; exact sc1.slips0 q hq h6
    · intro q hq
      show _ = nI (u2 S.1 2 p j 2 q)
      by_cases z : q = p
      · rw [z, ← hc2, na_upS, u2_s]; rfl
      · rw [k2 _ _ (by omega), e0 _ _ (by omega)]; exact sc1.hic q hq
    · intro q hq h6; rw [k2 _ _ (by omega)]; exact sc1.hic0 q hq h6
    · intro w hww; rw [k2 _ _ (by omega)]; show _ = nI (u2 S.1 2 p j 3 w); rw [e0 _ _ (by omega)]; exact sc1.left w hww
    · intro w hww; rw [k2 _ _ (by omega)]; exact sc1.done w hww) hWS (fun q hq h => by
      have h : u2 S.1 2 p j 5 q = 0 := h
      rw [e0 _ _ (by omega)] at h
      show u2 S.1 2 p j 2 q = 0
      have : q ≠ p := fun z => by rw [z, h3] at h; exact absurd h (by decide)
      rw [e0 _ _ (by omega)]
      exact hW.nh q hq h)
  refine ⟨1, c2, mj_up r1 96 p (.int (nI j)), by rw [if_neg c, e1, Option.bind_some, eput, hc2], ?_, p2 _ (fun a j h => na_upN (by omega)) ?_⟩
  · have kk : ∀ a i, 68 ≤ a → ¬ (a = 68 ∧ i = 2) → mj_up c2 68 2 (.int 0) a i = m a i := fun a i h1 h2 => by rw [na_upN h2, k2 _ _ (by omega), f1 a (by omega)]
    rw [mE _ (by rw [kk _ _ (by omega) (by omega)]), if_neg not01]
    simp only [o1, o1', o2, or_self, if_false]
    rw [show mj_I (c2 97 p) = nI 1 by rw [k2 _ _ (by omega), f1 97 (by omega)]; exact e97, if_neg n10, iI, if_neg not01]
    rw [show mj_I (c2 96 p) = nI (S.1 2 p) by rw [k2 _ _ (by omega), f1 96 (by omega)]; exact e96, if_neg c, p1, Option.bind_some]
  · refine ⟨?_, ?_, ?_, ?_, ?_, ?_, ?_, ?_⟩
    · rw [na_upN (by omega)]; show _ = nI (u2 S.1 2 p j 0 0); rw [e0 _ _ (by omega)]; exact s1.hour
    · rw [na_upN (by omega)]; show _ = nI (u2 S.1 2 p j 0 1); rw [e0 _ _ (by omega)]; exact s1.coil
    · rw [na_upN (by omega)]; exact s1.shift
    · intro q hq; rw [na_upN (by omega)]; show _ = nI (u2 S.1 2 p j 5 q); rw [e0 _ _ (by omega)]; exact s1.here q hq
    · intro q hq; rw [na_upN (by omega)]; exact s1.slips q hq
    · intro q hq
      show _ = nI (u2 S.1 2 p j 2 q)
      rw [show 6 * 0 + q = q by omega]
      by_cases z : q = p
      · rw [z, na_upS, u2_s]; rfl
      · have e := s1.hic q hq
        rw [show 6 * 0 + q = q by omega] at e
        rw [na_upN (by omega), e0 _ _ (by omega)]
        exact e
    · intro w hww; rw [na_upN (by omega)]; show _ = nI (u2 S.1 2 p j 3 w); rw [e0 _ _ (by omega)]; exact s1.left w hww
    · intro w hww; rw [na_upN (by omega)]; exact s1.done w hww
end DO
