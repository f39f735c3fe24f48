/-! READING, 11: a LINE that tells a law; LINES (own work) -/
def lawR (m : mj_M) : Option (Int32 × mj_M) :=
  (md_token m).bind fun q22 =>
  (if (mj_I (q22 68 8)) = 1 then (if (mj_I (q22 68 9)) < 8 then md_lineRead_j164 q22 else
  (if (mj_I (q22 68 9)) ≤ 10 then (if (((3 : Int32) + (mj_I (q22 68 9))) - 8) < 0 ∨ 6 ≤ ((((3 : Int32) + (mj_I (q22 68 9))) - 8) : Int32).toNatClampNeg then none else
  (if (mj_I (q22 83 (((3 : Int32) + (mj_I (q22 68 9))) - 8).toNatClampNeg)) = 0 then (if (((3 : Int32) + (mj_I (q22 68 9))) - 8) < 0 ∨ 6 ≤ ((((3 : Int32) + (mj_I (q22 68 9))) - 8) : Int32).toNatClampNeg then none else
  (md_token (mj_up q22 83 (((3 : Int32) + (mj_I (q22 68 9))) - 8).toNatClampNeg (.int (1 &&& 1)))).bind fun q31 =>
  (if (((3 : Int32) + (mj_I (q22 68 9))) - 8) < 0 ∨ 6 ≤ ((((3 : Int32) + (mj_I (q22 68 9))) - 8) : Int32).toNatClampNeg then none else
  (md_sumRead (mj_up q31 84 (((3 : Int32) + (mj_I (q22 68 9))) - 8).toNatClampNeg (.int (mj_I (q31 68 21))))).bind fun q33 =>
  (if (((3 : Int32) + (mj_I (q22 68 9))) - 8) < 0 ∨ 6 ≤ ((((3 : Int32) + (mj_I (q22 68 9))) - 8) : Int32).toNatClampNeg then none else
  md_lineRead_j231 q33.1 (mj_up q33.2 85 (((3 : Int32) + (mj_I (q22 68 9))) - 8).toNatClampNeg (.int (mj_I (q33.2 68 21))))))) else
  (md_wrong 3 q22).bind fun q35 =>
  (if q35.1 = 0 ∨ q35.1 = 1 then some (q35.1, q35.2) else none))) else
  md_lineRead_j164 q22)) else
  md_lineRead_j164 q22)
def lawD (D : zT) (cd : Nat → Nat) (l F0 K : Nat) : zT := fun a j => if a = 11 then cd j else if a = 12 ∧ j = l then F0 else if a = 13 ∧ j = l then K else if a = 0 ∧ j = 16 then K else D a j
section LAWL
variable {ip n p o : Nat} {b : Nat → Nat} {mC mR : mj_M} {D : zT} {cd : Nat → Nat} {l F0 K : Nat}
theorem lawD_11 : lawD D cd l F0 K 11 = cd := funext fun j => if_pos rfl
theorem lawD_12 : lawD D cd l F0 K 12 l = F0 := by
  unfold lawD
  rw [if_neg (by omega), if_pos ⟨rfl, rfl⟩]
theorem lawD_13 : lawD D cd l F0 K 13 l = K := by
  unfold lawD
  rw [if_neg (by omega), if_neg (by omega), if_pos ⟨rfl, rfl⟩]
theorem lawD_16 : lawD D cd l F0 K 0 16 = K := by
  unfold lawD
  rw [if_neg (by omega), if_neg (by omega), if_neg (by omega), if_pos ⟨rfl, rfl⟩]
theorem lawD_n {a j : Nat} (h1 : a ≠ 11) (h2 : ¬ ((a = 12 ∨ a = 13) ∧ j = l)) (h3 : ¬ (a = 0 ∧ j = 16)) : lawD D cd l F0 K a j = D a j := by
  unfold lawD
  rw [if_neg h1, if_neg (by omega), if_neg (by omega), if_neg h3]
theorem lawD_cnt {i : Nat} : cntT (lawD D cd l F0 K) i = cntT D i := by
  unfold cntT
  rw [lawD_n (by omega) (by omega) (by omega), lawD_n (by omega) (by omega) (by omega), lawD_n (by omega) (by omega) (by omega)]
theorem LK_congr {f g : Nat → Nat} {a N : Nat} (h : ∀ i, i < N → f (a + i) = g (a + i)) (hk : LK f a N) : LK g a N := by
  intro i hi
  rw [← h i hi, ← stk_congr (f := f) (g := g) i (fun j hj => h j (by omega))]
  exact hk i hi
theorem WD_law (h : WD D o) (hl : l < 3) (hF : F0 = D 0 16) (hK : F0 < K) (hK64 : K ≤ 64) (hcd : ∀ i, i < F0 → cd i = D 11 i) (hL : LK cd F0 (K - F0)) (hs : (stk cd F0 (K - F0)).length = 1) : WD (lawD D cd l F0 K) (o ||| 2 ^ (8 + l)) := by
  obtain ⟨w1, w2, ⟨w3, w4⟩, w5, w6, w7, w8⟩ := h
  have e0 : ∀ j, j ≠ 16 → lawD D cd l F0 K 0 j = D 0 j := fun j hj => lawD_n (by omega) (by omega) (by omega)
  have e4 : lawD D cd l F0 K 4 = D 4 := funext fun j => lawD_n (by omega) (by omega) (by omega)
  refine ⟨WT_mk (by rw [e0 _ (by omega)]; exact w1.np) (by rw [e0 _ (by omega)]; exact w1.nw) (by rw [e0 _ (by omega)]; exact w1.ns) (by rw [e0 _ (by omega)]; exact w1.spring) (by rw [e0 _ (by omega)]; exact w1.wasp) (by rw [e0 _ (by omega)]; exact w1.seed) (fun i j z1 z2 z3 => ?_) (fun l' hl' => ?_), by rw [lawD_16]; exact hK64, ⟨by rw [e0 _ (by omega)]; exact w3, ?_⟩, ?_, ?_, Nat.or_lt_two_pow w7 (Nat.pow_lt_pow_right (by omega) (by omega)), fun l' hl' => ?_⟩
  · rw [lawD_cnt] at z3
    rw [e0 0 (by omega), lawD_n (by omega) (by omega) (by omega)]
    exact WT_rows w1 i j z1 z2 z3
  · by_cases c : l' = l
    · subst c
      rw [lawD_12, lawD_13]; omega
    · rw [lawD_n (by omega) (by omega) (by omega), lawD_n (by omega) (by omega) (by omega)]; exact w1.law l' hl'
  · unfold tieS at *
    rw [e0 0 (by omega), e0 12 (by omega), e4]; exact w4
  · rw [e0 0 (by omega), e4]; exact w5
  · rw [e0 0 (by omega), e4]; exact w6
  · rw [lawD_11, lawD_16]
    by_cases c : l' = l
    · subst c
      rw [lawD_12, lawD_13, na_set_bit, decide_eq_true rfl, Bool.or_true]
      exact ⟨fun z => Bool.noConfusion z, fun _ => ⟨hK, hL, hs⟩, Nat.le_refl _⟩
    · obtain ⟨y1, y2, y3⟩ := w8 l' hl'
      have yl := (w1.law l' hl').1
      rw [lawD_n (by omega) (by omega) (by omega), lawD_n (by omega) (by omega) (by omega), or_bit (by omega)]
      have hc : ∀ i, i < D 13 l' - D 12 l' → D 11 (D 12 l' + i) = cd (D 12 l' + i) := fun i hi => (hcd _ (by omega)).symm
      refine ⟨y1, fun z => ⟨(y2 z).1, LK_congr hc (y2 z).2.1, ?_⟩, by omega⟩
      rw [← stk_congr (f := D 11) (g := cd) _ hc]
      exact (y2 z).2.2
/-- the sign that ends a LINE -/
theorem semi_L (hip : ip = 3 ∨ ip = 17) {rc : Option mj_M} {rr : Option (Int32 × mj_M)} (h : LineP ip b n mR p rc rr) : LineP ip b n mR p (rc.bind fun q => rd_readLine_j141 ip q) (rr.bind fun q => md_lineRead_j231 q.1 q.2) := by
  obtain ⟨mC', h1, h2⟩ := h
  subst h1
  rw [Option.bind_some]
  unfold rd_readLine_j141
  rcases h2 with ⟨mR', p', D', o', g1, g2, g3, g4, g5, g6, g7, g8⟩ | ⟨mR', f, pl, g1, g2, g3, g4⟩
  · subst g1
    rw [Option.bind_some]
    have i59 : md_isSign 59 mR' = if (cut b n p').1 = 25 then 1 else 0 := tk_sign g4.1 (K := 25) rfl (by decide)
    unfold md_lineRead_j231
    dsimp only
    rw [if_neg not01, i59]
    by_cases c : (cut b n p').1 = 25
    · obtain ⟨m2, t1, t2, t3⟩ := LT_take g2 (k := 25) (by decide) c
      obtain ⟨r2, u1, u2, u3⟩ := tok1_e g4
      rw [show rd_take 25 mC' = some m2 from t1, Option.bind_some, if_pos c, if_neg not01, u1, Option.bind_some]
      have hp : p' < nx b n p' := (nx_gt (lt_of_kind (b := b) g4.2.2.2 (by omega))).1
      exact ⟨m2, rfl, Or.inl ⟨r2, _, D', o', rfl, t2, DC_cong hip g3 (fun a j hh => t3 _ _ (by omega)), u2, DR_cong g5 (fun j hh => u3 _ _ (by omega)) (fun a z1 z2 => funext fun j => u3 _ _ (by omega)), g6, by omega, fun a j hh => by rw [u3 a j (by unfold okX at hh; omega)]; exact g8 a j hh⟩⟩
    · obtain ⟨r2, u1, u2, u3⟩ := wrong1 g4 (f := 1) (by decide)
      rcases take_e g2.1 g2.2 (k := 25) (by decide) with ⟨z, _⟩ | ⟨_, m2, t1, t2, t3⟩
      · exact absurd z c
      rw [show rd_take 25 mC' = some m2 from t1, Option.bind_some, if_neg c, if_pos rfl]
      exact LineBad rfl u1 t2 u2 (fun a j hh => by rw [u3 a j (by unfold okX at hh; omega)]; exact g8 a j hh)
  · subst g1
    rw [zf_take (fC_ne g2), Option.bind_some, Option.bind_some]
    unfold md_lineRead_j231
    dsimp only
    rw [if_pos rfl]
    exact LineBad rfl rfl g2 g3 g4
theorem frRE_X {F0 : Nat} {m m1 : mj_M} (h : frRE F0 m m1) : frX m m1 := fun a j hh => h a j (fun z => hh (by unfold okRE at z; unfold okX; omega))
theorem law_L (hip : ip = 3 ∨ ip = 17) (hC : LT mC b n p) (hD : DC ip mC D o) (hR : RT1 mR b n p) (hE : DR mR D o) (hW : WD D o) : LineP ip b n mR p ((rd_readLaw ip mC).bind fun q => rd_readLine_j141 ip q) (lawR mR) := by
  have z12 : mj_siz (ip + 12) = 3 ∧ mj_siz (ip + 13) = 3 := by rcases hip with rfl | rfl <;> decide
  have ho := hW.2.2.2.2.2.1
  obtain ⟨m1, e1, e2, e3⟩ := LT_step hC
  obtain ⟨r1, g1, g2, g3⟩ := tok1_e hR
  have hk1 : mj_I (m1 32 6) = nI (cut b n (nx b n p)).1 := e2.1.2.1
  have hk40 := cut_k (b := b) (n := n) (p := nx b n p)
  have hple : p ≤ nx b n p := by
    by_cases z : p < n
    · have := (nx_gt (b := b) z).1; omega
    · have z1 := hR.2.2.2
      rw [show p = n by omega, nx_end]; exact Nat.le_refl _
  unfold rd_readLaw lawR
  rw [e1, Option.bind_some, g1, Option.bind_some, hk1]
  -- no law
  have no : ∃ m2 r2, (rd_readLaw_j27 ip m1) = some m2 ∧ md_lineRead_j164 r1 = some (0, r2) ∧ fC m2 1 (nx b n p) ∧ fR r2 1 (nx b n p) ∧ frX mR r2 := by
    obtain ⟨m2, t1, t2, t3⟩ := refuse_e e2.1 e2.2 (f := 1) (by decide)
    obtain ⟨r2, u1, u2, u3⟩ := wrong1 g2 (f := 1) (by decide)
    refine ⟨m2, r2, ?_, u1, t2, u2, fun a j h => by rw [u3 a j (by unfold okX at h; omega), g3 a j (by unfold okX at h; omega)]⟩
    unfold rd_readLaw_j27
    rw [show rd_refuse 1 m1 = some m2 from t1, Option.bind_some]
  have noL : ∀ rr : Option (Int32 × mj_M), rr = md_lineRead_j164 r1 → LineP ip b n mR p ((rd_readLaw_j27 ip m1).bind fun q => rd_readLine_j141 ip q) rr := by
    intro rr hrr
    obtain ⟨m2, r2, v1, v2, v3, v4, v5⟩ := no
    rw [v1, Option.bind_some, hrr, v2]
    unfold rd_readLine_j141
    rw [zf_take (fC_ne v3), Option.bind_some]
    exact LineBad rfl rfl v3 v4 v5
  by_cases cl : 8 ≤ (cut b n (nx b n p)).1 ∧ (cut b n (nx b n p)).1 ≤ 10
  case neg =>
    by_cases c8 : (cut b n (nx b n p)).1 < 8
    · rw [if_pos (show nI (cut b n (nx b n p)).1 - 8 < 0 from pk_sneg (b := 8) (by omega) c8)]
      refine noL _ ?_
      by_cases c1 : mj_I (r1 68 8) = 1
      · have hk21 := (tk_kind g2.1).2.1.mp c1
        have : permK (cut b n (nx b n p)).1 = (cut b n (nx b n p)).1 := by
          unfold permK
          rw [if_neg (by omega), if_neg (by omega), if_neg (by omega)]
        rw [if_pos c1, (tk_which g2.1).1 hk21, this, if_pos (show nI (cut b n (nx b n p)).1 < 8 from nI_lt (b := 8) c8 (by omega))]
      · rw [if_neg c1]
    · rw [show nI (cut b n (nx b n p)).1 - 8 = nI ((cut b n (nx b n p)).1 - 8) from pk_sub (b := 8) (by omega), if_neg (nI_pos (by omega)), if_neg (show ¬ nI ((cut b n (nx b n p)).1 - 8) < 3 from nI_nlt (b := 3) (by omega) (by omega))]
      refine noL _ ?_
      by_cases c1 : mj_I (r1 68 8) = 1
      · have hk21 := (tk_kind g2.1).2.1.mp c1
        have hpk : 11 ≤ permK (cut b n (nx b n p)).1 ∧ permK (cut b n (nx b n p)).1 < 21 := by
          unfold permK
          split
          · omega
          · split
            · omega
            · split <;> omega
        rw [if_pos c1, (tk_which g2.1).1 hk21, if_neg (show ¬ nI (permK (cut b n (nx b n p)).1) < 8 from nI_nlt (b := 8) (by omega) (by omega)), if_neg (show ¬ nI (permK (cut b n (nx b n p)).1) ≤ 10 from nI_ge (a := 10) (by omega) (by omega))]
      · rw [if_neg c1]
  obtain ⟨l, hl, hkl⟩ : ∃ l, l < 3 ∧ (cut b n (nx b n p)).1 = 8 + l := ⟨(cut b n (nx b n p)).1 - 8, by omega, by omega⟩
  have hp1n : nx b n p < n := lt_of_kind (b := b) g2.2.2.2 (by omega)
  have hpl : permK (8 + l) = 8 + l := by
    unfold permK
    rw [if_neg (by omega), if_neg (by omega), if_neg (by omega)]
  have x0 : (nI (3 + l) < 0) = False := eq_false (nI_pos (by omega))
  have x1 : (6 ≤ 3 + l) = False := eq_false (by omega)
  have x3 : (nI (3 + l)).toNatClampNeg = 3 + l := nI_clamp (by omega)
  have x6 : (3 : Int32) + nI (8 + l) - 8 = nI (3 + l) := by
    rw [show (3 : Int32) = nI 3 from rfl, nI_add, show nI (3 + (8 + l)) - 8 = nI (3 + (8 + l) - 8) from pk_sub (b := 8) (by omega), show 3 + (8 + l) - 8 = 3 + l by omega]
  rw [hkl, show nI (8 + l) - 8 = nI l by rw [show nI (8 + l) - 8 = nI (8 + l - 8) from pk_sub (b := 8) (by omega), Nat.add_sub_cancel_left], if_neg (nI_pos (by omega)), if_pos (show nI l < 3 from nI_lt (b := 3) hl (by omega))]
  rw [if_pos ((tk_kind g2.1).2.1.mpr (by omega)), (tk_which g2.1).1 (by omega), hkl, hpl, if_neg (show ¬ nI (8 + l) < 8 from nI_nlt (b := 8) (by omega) (by omega)), if_pos (show nI (8 + l) ≤ 10 from nI_le (b := 10) (by omega) (by omega))]
  simp only [x6, x0, x1, x3, or_self, if_false]
  have h83 : mj_I (r1 83 (3 + l)) = if o.testBit (8 + l) = true then 1 else 0 := by rw [g3 _ _ (by omega)]; exact (hE.2.2.2.2.2 l hl).1
  unfold rd_takeOnce
  rw [h83, show mj_I (m1 31 2) = nI o by rw [e3 _ _ (by omega)]; exact hD.2.2.2.1, hk1, hkl, na_bp_has (by omega) (by omega)]
  by_cases cb : o.testBit (8 + l) = true
  · obtain ⟨m2, t1, t2, t3⟩ := refuse_e e2.1 e2.2 (f := 3) (by decide)
    obtain ⟨r2, u1, u2, u3⟩ := wrong1 g2 (f := 3) (by decide)
    rw [if_pos cb, if_neg not01, if_neg not01, show rd_refuse 3 m1 = some m2 from t1, Option.bind_some, Option.bind_some, na_put (k := ip + 12) (by omega) (by omega)]
    unfold rd_readEither0
    have hz : mj_I (mj_up m2 (ip + 12) l (.int (mj_I (m2 ip 16))) 31 4) ≠ 0 := by rw [na_upN (by omega)]; exact fC_ne t2
    rw [zf_either hz, Option.bind_some, Option.bind_some, na_put (k := ip + 13) (by omega) (by omega)]
    unfold rd_readLine_j141
    rw [zf_take (by rw [na_upN (by omega)]; exact hz), Option.bind_some]
    refine LineBad rfl u1 ⟨t2.1, ?_, ?_⟩ u2 (fun a j h => by rw [u3 a j (by unfold okX at h; omega), g3 a j (by unfold okX at h; omega)])
    · rw [na_upN (by omega), na_upN (by omega)]; exact t2.2.1
    · rw [na_upN (by omega), na_upN (by omega)]; exact t2.2.2
  rw [if_neg cb, if_pos rfl, if_pos rfl, na_set (by omega)]
  generalize hM : mj_up m1 31 2 (.int (nI (o ||| 2 ^ (8 + l)))) = M
  have kM : ∀ a j, ¬ (a = 31 ∧ j = 2) → M a j = m1 a j := fun a j h => by rw [← hM, na_upN h]
  have hCM : LT M b n (nx b n p) := ⟨e2.1.cong (fun j z1 z2 => kM _ _ (by omega)) (fun k z1 z2 => funext fun j => kM _ _ (by omega)) (kM _ _ (by omega)), by rw [kM _ _ (by omega)]; exact e2.2⟩
  obtain ⟨m2, t1, t2, t3⟩ := LT_step hCM
  generalize hQ : mj_up r1 83 (3 + l) (.int (1 &&& 1)) = Q
  have kQ : ∀ a j, ¬ (a = 83 ∧ j = 3 + l) → Q a j = r1 a j := fun a j h => by rw [← hQ, na_upN h]
  obtain ⟨r2, u1, u2, u3⟩ := tok1_e (mR := Q) (g2.cong (fun j z1 z2 => kQ _ _ (by omega)) (funext fun j => kQ _ _ (by omega)) (funext fun j => kQ _ _ (by omega)))
  rw [t1, Option.bind_some, Option.bind_some, u1, Option.bind_some]
  have km2 : ∀ a j, ¬ (a = 32 ∧ 5 ≤ j ∧ j ≤ 8) → ¬ (a = 31 ∧ j = 2) → m2 a j = mC a j := fun a j h h2 => by rw [t3 _ _ h, kM _ _ h2, e3 _ _ h]
  have kr2 : ∀ a j, ¬ (a = 68 ∧ 7 ≤ j ∧ j ≤ 10) → ¬ (a = 83 ∧ j = 3 + l) → r2 a j = mR a j := fun a j h h2 => by rw [u3 _ _ h, kQ _ _ h2, g3 _ _ h]
  obtain ⟨F0, hF0⟩ : ∃ F0, F0 = D 0 16 := ⟨_, rfl⟩
  have hF64 : F0 ≤ 64 := by rw [hF0]; exact hW.2.1
  have h16 : mj_I (m2 ip 16) = nI F0 := by rw [km2 _ _ (by omega) (by omega), hF0]; exact hD.2.1
  have r21 : mj_I (r2 68 21) = nI F0 := by rw [kr2 _ _ (by omega) (by omega), hF0]; exact hE.1.2.2.2.2.1
  rw [h16, r21, na_put (k := ip + 12) (by omega) (by omega)]
  generalize hM3 : mj_up m2 (ip + 12) l (.int (nI F0)) = m3
  have km3 : ∀ a j, ¬ (a = ip + 12 ∧ j = l) → m3 a j = m2 a j := fun a j h => by rw [← hM3, na_upN h]
  generalize hR3 : mj_up r2 84 (3 + l) (.int (nI F0)) = r3
  have kr3 : ∀ a j, ¬ (a = 84 ∧ j = 3 + l) → r3 a j = r2 a j := fun a j h => by rw [← hR3, na_upN h]
  unfold md_sumRead
  generalize hR4 : mj_up (mj_up (mj_up (mj_up (mj_up r3 68 42 (.int 0)) 68 43 (.int 0)) 68 44 (.int 0)) 68 46 (.int 1)) 68 47 (.int 1) = r4
  have kr4 : ∀ a j, ¬ (a = 68 ∧ 42 ≤ j ∧ j ≤ 47 ∧ j ≠ 45) → r4 a j = r3 a j := fun a j h => by rw [← hR4, na_upN (by omega), na_upN (by omega), na_upN (by omega), na_upN (by omega), na_upN (by omega)]
  have hCE : CE ip m3 b n (nx b n (nx b n p)) F0 F0 (D 11) := by
    refine ⟨t2.1.cong (fun j z1 z2 => km3 _ _ (by omega)) (fun k z1 z2 => funext fun j => km3 _ _ (by omega)) (km3 _ _ (by omega)), ?_, ?_, ?_, fun i hi => ?_, Nat.le_refl _, hF64⟩
    · rw [km3 _ _ (by omega)]; exact t2.2
    · rw [km3 _ _ (by omega), km2 _ _ (by omega) (by omega), hF0]; exact hD.2.2.2.2.1
    · rw [km3 _ _ (by omega)]; exact h16
    · rw [km3 _ _ (by omega), km2 _ _ (by omega) (by omega)]; exact hD.2.2.2.2.2 i (by omega)
  have hRT4 : RT1 r4 b n (nx b n (nx b n p)) := u2.cong (fun j z1 z2 => by rw [kr4 _ _ (by omega), kr3 _ _ (by omega)]) (funext fun j => by rw [kr4 _ _ (by omega), kr3 _ _ (by omega)]) (funext fun j => by rw [kr4 _ _ (by omega), kr3 _ _ (by omega)])
  have hs0 : stk (D 11) F0 (F0 - F0) = [] := by rw [Nat.sub_self]; rfl
  have hRE : RE r4 b n (nx b n (nx b n p)) F0 [] F0 0 1 1 (D 11) F0 := by
    refine ⟨hRT4.1, hRT4.2.1, hRT4.2.2.1, hRT4.2.2.2, ⟨⟨?_, ?_, ?_, ?_, ?_, ?_⟩, trivial, fun i hi => by omega, ⟨by show 0 ≤ F0 + 0; omega, by omega, hF64, Nat.le_refl _, Nat.le_refl _⟩, fun x hx => by cases hx⟩, ?_⟩
    · rw [kr4 _ _ (by omega), kr3 _ _ (by omega), kr2 _ _ (by omega) (by omega), hF0]; exact hE.1.2.2.2.2.2
    · rw [← hR4, na_upN (by omega), na_upN (by omega), na_upN (by omega), na_upN (by omega), na_upS]; rfl
    · rw [kr4 _ _ (by omega), kr3 _ _ (by omega)]; exact r21
    · rw [← hR4, na_upN (by omega), na_upN (by omega), na_upS]; rfl
    · rw [← hR4, na_upN (by omega), na_upS]; rfl
    · rw [← hR4, na_upS]; rfl
    · rw [hs0]
      refine ⟨?_, trivial⟩
      rw [← hR4, na_upN (by omega), na_upN (by omega), na_upN (by omega), na_upS]; rfl
  have hLK0 : LK (D 11) F0 (F0 - F0) := fun i hi => by omega
  obtain ⟨m4, q1, q2⟩ := either_S (br := 0) hip (by omega) (group_S (b := b) (n := n) (F0 := F0) hip 12 0 (by omega) (by omega)) m3 r4 (nx b n (nx b n p)) F0 F0 (D 11) [] 1 hCE hRE hLK0 (by decide) (Or.inl ⟨by omega, rfl⟩)
  unfold rd_readEither0
  rw [show rd_readEither ip (rd_readGroup ip 12) 0 m3 = some m4 from q1, Option.bind_some, Option.bind_some, na_put (k := ip + 13) (by omega) (by omega)]
  have fr4 : frX mR r4 := fun a j h => by rw [kr4 a j (by unfold okX at h; omega), kr3 a j (by unfold okX at h; omega), kr2 a j (by unfold okX at h; omega) (by unfold okX at h; omega)]
  have n7 : n ≤ 700 := hR.2.1.1.1
  -- a FAULT in the reference's loop
  have badR : ∀ (s1 s2 : mj_M) (k : Nat), Itr md_sumRead_l25 k r4 s1 → k ≤ 1000 → md_sumRead_l25 s1 = some (1, s2) → (((mj_loop md_sumRead_l25 mj_F r4).bind fun q9 => (if q9.1 = 0 then some (0, q9.2) else (md_bind 1 q9.2).bind fun q10 => some (1, q10))).bind fun q33 => md_lineRead_j231 q33.1 (mj_up q33.2 85 (3 + l) (.int (mj_I (q33.2 68 21))))) = some (0, mj_up s2 85 (3 + l) (.int (mj_I (s2 68 21)))) := by
    intro s1 s2 k i1 i2 i3
    rw [Itr_loop (t := 0) i3 i1 (by unfold mj_F; omega), Option.bind_some, if_pos rfl, Option.bind_some]
    unfold md_lineRead_j231
    dsimp only
    rw [if_pos rfl]
  have fr85 : ∀ s2 : mj_M, frX r4 s2 → frX mR (mj_up s2 85 (3 + l) (.int (mj_I (s2 68 21)))) := fun s2 h a j hh => by rw [na_upN (by unfold okX at hh; omega)]; exact (frX_tr fr4 h) a j hh
  have fR85 : ∀ (s2 : mj_M) (f pl : Nat), fR s2 f pl → fR (mj_up s2 85 (3 + l) (.int (mj_I (s2 68 21)))) f pl := fun s2 f pl h => ⟨h.1, by rw [na_upN (by omega)]; exact h.2.1, by rw [na_upN (by omega)]; exact h.2.2⟩
  rcases q2 with ⟨r5, p3, kc3, Kn3, cd3, k3, a1, a2, a3, a4, a5, a6, a7, ⟨a81, a82, a83, a84⟩, a9, a10⟩ | ⟨s1, s2, f, pl, k, c1, c2, c3, c4, c5, c6, c7⟩
  case inr =>
    rw [badR s1 s2 k c3 (by omega) c5]
    have hz : mj_I (mj_up m4 (ip + 13) l (.int (mj_I (m4 ip 16))) 31 4) ≠ 0 := by rw [na_upN (by omega)]; exact fC_ne c1
    unfold rd_readLine_j141
    rw [zf_take hz, Option.bind_some]
    exact LineBad rfl rfl ⟨c1.1, by rw [na_upN (by omega)]; exact c1.2.1, by rw [na_upN (by omega)]; exact c1.2.2⟩ (fR85 s2 f pl c7) (fr85 s2 (frRE_X c6))
  have hkc3 := a1.2.2.2.2.2
  have hkK : kc3 = Kn3 := by omega
  have hp3n := a6.2.2.2.1
  rw [show mj_I (m4 ip 16) = nI Kn3 from a1.2.2.2.1]
  generalize hM5 : mj_up m4 (ip + 13) l (.int (nI Kn3)) = m5
  have km5 : ∀ a j, ¬ (a = ip + 13 ∧ j = l) → m5 a j = m4 a j := fun a j h => by rw [← hM5, na_upN h]
  have hL5 : LT m5 b n p3 := ⟨a1.1.cong (fun j z1 z2 => km5 _ _ (by omega)) (fun k z1 z2 => funext fun j => km5 _ _ (by omega)) (km5 _ _ (by omega)), by rw [km5 _ _ (by omega)]; exact a1.2.1⟩
  unfold rd_readLine_j141
  by_cases c25 : (cut b n p3).1 = 25
  case neg =>
    obtain ⟨s2, y1, y2, y3⟩ := end_bad (F0 := F0) a6 (by omega) a7.1 (a7.2 (by omega)) (fun _ => rfl) (Or.inl c25)
    rw [badR r5 s2 k3 a3 (by omega) y1]
    rcases take_e hL5.1 hL5.2 (k := 25) (by decide) with ⟨z, _⟩ | ⟨_, m6, v1, v2, v3⟩
    · exact absurd z c25
    rw [show rd_take 25 m5 = some m6 from v1, Option.bind_some]
    exact LineBad rfl rfl v2 (fR85 s2 1 p3 y2) (fr85 s2 (frX_tr (frRE_X a5) (frRE_X y3)))
  obtain ⟨d1, d2, d3, d4, d5, d6, jj, r6, mn6, d7, d8, d9, d10⟩ := a6
  have hend := body_end d6 d5 d1 c25
  have hrun := bind_run d7 (bind_stop d10.1 (show topR ([] : List Nat) < 1 by decide) (by omega)) (by omega)
  rw [Itr_loop (t := 1) hend a3 (by unfold mj_F; omega), Option.bind_some, if_neg (show ¬ ((1 : Nat) = 0) by omega)]
  dsimp only
  rw [show md_bind 1 r5 = some r6 from hrun, Option.bind_some, Option.bind_some]
  dsimp only
  obtain ⟨⟨⟨f1, f2, f3, f4, f5, f6⟩, f7, f8, f9, f10⟩, f11, f12⟩ := d10
  rw [f3]
  generalize hR7 : mj_up r6 85 (3 + l) (.int (nI Kn3)) = r7
  have kr7 : ∀ a j, ¬ (a = 85 ∧ j = 3 + l) → r7 a j = r6 a j := fun a j h => by rw [← hR7, na_upN h]
  have hRT7 : RT1 r7 b n p3 := by
    have h6 : RT1 r6 b n p3 := ⟨frB_RT d9 d1, d2.cong (funext fun j => d9 _ _ (by omega) (by omega) (by omega)) (d9 _ _ (by omega) (by omega) (by omega)) (d9 _ _ (by omega) (by omega) (by omega)), fun i hi => by rw [d9 _ _ (by omega) (by omega) (by omega)]; exact d3 i hi, d4⟩
    exact h6.cong (fun j z1 z2 => kr7 _ _ (by omega)) (funext fun j => kr7 _ _ (by omega)) (funext fun j => kr7 _ _ (by omega))
  obtain ⟨m6, v1, v2, v3⟩ := LT_take hL5 (k := 25) (by decide) c25
  obtain ⟨r8, w1, w2, w3⟩ := tok1_e hRT7
  have i59 : md_isSign 59 r7 = 1 := by
    have := tk_sign hRT7.1 (K := 25) rfl (by decide)
    rw [if_pos c25] at this
    exact this
  unfold md_lineRead_j231
  rw [if_neg not01, i59, if_neg not01, w1, Option.bind_some, show rd_take 25 m5 = some m6 from v1, Option.bind_some]
  have hp3 : p3 < n := lt_of_kind (b := b) d4 (by omega)
  have hnx3 := nx_gt (b := b) hp3
  have hnx1 := nx_gt (b := b) hp1n
  -- what stays
  have kmF : ∀ a j, ¬ okRd ip F0 a j → ¬ (a = 31 ∧ j = 2) → ¬ ((a = ip + 12 ∨ a = ip + 13) ∧ j = l) → m6 a j = mC a j := fun a j h1 h2 h3 => by
    have h32 : ¬ (a = 32 ∧ 5 ≤ j ∧ j ≤ 8) := fun z => h1 (Or.inr (Or.inl z))
    rw [v3 _ _ h32, km5 _ _ (by omega), a2 a j h1, km3 _ _ (by omega), km2 _ _ h32 h2]
  have krF : ∀ a j, ¬ okRE F0 a j → ¬ ((83 ≤ a ∧ a ≤ 85) ∧ j = 3 + l) → r8 a j = mR a j := fun a j h1 h2 => by
    have h68 : ¬ (a = 68 ∧ 7 ≤ j ∧ j ≤ 10) := fun z => h1 (Or.inl ⟨z.1, by omega⟩)
    have hB : r6 a j = r5 a j := frB_RE d9 a j h1
    rw [w3 _ _ h68, kr7 _ _ (by omega), hB, a5 a j h1, kr4 _ _ (fun z => h1 (Or.inl ⟨z.1, by omega⟩)), kr3 _ _ (by omega), kr2 _ _ h68 (by omega)]
  have hcd : ∀ i, i < F0 → cd3 i = D 11 i := fun i hi => a81 i hi
  have hstk1 : (stk cd3 F0 (Kn3 - F0)).length = 1 := by rw [a9, hs0]; rfl
  have hwf := WD_law (l := l) hW hl hF0 a83 (by omega) hcd a10 hstk1
  have e0 : ∀ j, j ≠ 16 → lawD D cd3 l F0 Kn3 0 j = D 0 j := fun j hj => lawD_n (by omega) (by omega) (by omega)
  obtain ⟨dd1, dd2, dd3, dd4, dd5, dd6⟩ := hD
  obtain ⟨⟨b1, b2, b3, b4, b5, b6⟩, ⟨b7, b8, b9⟩, bf, bd, be, bl⟩ := hE
  have code6 : ∀ i, i < Kn3 → mj_I (m6 (ip + 11) i) = nI (cd3 i) := fun i hi => by
    rw [v3 _ _ (by omega), km5 _ _ (by omega)]
    exact a1.2.2.2.2.1 i hi
  have ok1 : ∀ i j, 1 ≤ i → i ≤ 10 → ¬ okRd ip F0 (ip + i) j := fun i j h1 h2 => by unfold okRd; omega
  have okr : ∀ i j, 71 ≤ i → i ≤ 85 → ¬ okRE F0 i j := fun i j h1 h2 => by unfold okRE; omega
  have ok0 : ∀ j, j ≠ 16 → ¬ okRd ip F0 ip j := fun j h1 => by unfold okRd; omega
  refine ⟨m6, rfl, Or.inl ⟨r8, _, lawD D cd3 l F0 Kn3, o ||| 2 ^ (8 + l), rfl, v2, ⟨⟨?_, ?_, ?_, ?_, ?_, ?_, fun i j z1 z2 z3 => ?_, fun l' hl' => ?_, fun l' i hl' z1 z2 => ?_⟩, ?_, fun q z1 z2 => ?_, ?_, ?_, fun i hi => ?_⟩, w2, ⟨⟨?_, ?_, ?_, ?_, ?_, ?_⟩, ⟨?_, ?_, ?_⟩, fun i j z1 z2 z3 => ?_, fun q z1 z2 => ?_, fun k hk => ?_, fun l' hl' => ?_⟩, hwf, by omega, ?_⟩⟩
  · rw [kmF _ _ (ok0 _ (by omega)) (by omega) (by omega), e0 _ (by omega)]; exact dd1.np
  · rw [kmF _ _ (ok0 _ (by omega)) (by omega) (by omega), e0 _ (by omega)]; exact dd1.nw
  · rw [kmF _ _ (ok0 _ (by omega)) (by omega) (by omega), e0 _ (by omega)]; exact dd1.ns
  · rw [kmF _ _ (ok0 _ (by omega)) (by omega) (by omega), e0 _ (by omega)]; exact dd1.spring
  · rw [kmF _ _ (ok0 _ (by omega)) (by omega) (by omega), e0 _ (by omega)]; exact dd1.wasp
  · rw [kmF _ _ (ok0 _ (by omega)) (by omega) (by omega), e0 _ (by omega)]; exact dd1.seed
  · rw [lawD_cnt] at z3
    rw [kmF _ _ (ok1 _ _ z1 z2) (by omega) (by omega), lawD_n (by omega) (by omega) (by omega)]; exact dd1.row i j z1 z2 z3
  · by_cases c : l' = l
    · subst c
      rw [lawD_12, lawD_13]
      refine ⟨?_, ?_⟩
      · rw [v3 _ _ (by omega), km5 _ _ (by omega), a2 _ _ (by unfold okRd; omega), ← hM3, na_upS]; rfl
      · rw [v3 _ _ (by omega), ← hM5, na_upS]; rfl
    · rw [lawD_n (by omega) (by omega) (by omega), lawD_n (by omega) (by omega) (by omega), kmF _ _ (by unfold okRd; omega) (by omega) (by omega), kmF _ _ (by unfold okRd; omega) (by omega) (by omega)]
      exact dd1.law l' hl'
  · have hK : i < Kn3 := by
      by_cases c : l' = l
      · subst c; rw [lawD_13] at z2; exact z2
      · rw [lawD_n (by omega) (by omega) (by omega)] at z2
        have := (hW.2.2.2.2.2.2 l' hl').2.2
        omega
    rw [lawD_11]
    exact code6 i hK
  · rw [v3 _ _ (by omega), km5 _ _ (by omega), lawD_16]; exact a1.2.2.2.1
  · rw [e0 _ (by omega)] at z1
    rw [kmF _ _ (ok1 4 _ (by omega) (by omega)) (by omega) (by omega)]; exact dd3 q z1 z2
  · rw [v3 _ _ (by omega), km5 _ _ (by omega), a2 _ _ (by unfold okRd; omega), km3 _ _ (by omega), t3 _ _ (by omega), ← hM, na_upS]; rfl
  · rw [v3 _ _ (by omega), km5 _ _ (by omega), lawD_16, a1.2.2.1, hkK]
  · rw [lawD_16] at hi
    rw [lawD_11]; exact code6 i hi
  · rw [krF _ _ (by unfold okRE; omega) (by omega), e0 _ (by omega)]; exact b1
  · rw [krF _ _ (by unfold okRE; omega) (by omega), e0 _ (by omega)]; exact b2
  · rw [krF _ _ (by unfold okRE; omega) (by omega), e0 _ (by omega)]; exact b3
  · rw [krF _ _ (by unfold okRE; omega) (by omega), e0 _ (by omega)]; exact b4
  · rw [w3 _ _ (by omega), kr7 _ _ (by omega), lawD_16]; exact f3
  · rw [w3 _ _ (by omega), kr7 _ _ (by omega), lawD_16, f1, hkK]
  · rw [krF _ _ (okr _ _ (by omega) (by omega)) (by omega), e0 _ (by omega)]; exact b7
  · rw [krF _ _ (okr _ _ (by omega) (by omega)) (by omega), e0 _ (by omega)]; exact b8
  · rw [krF _ _ (okr _ _ (by omega) (by omega)) (by omega), e0 _ (by omega)]; exact b9
  · rw [lawD_cnt] at z3
    rw [krF _ _ (okr _ _ (by omega) (by omega)) (by omega), lawD_n (by omega) (by omega) (by omega)]; exact bf i j z1 z2 z3
  · rw [e0 _ (by omega)] at z1
    rw [krF _ _ (okr _ _ (by omega) (by omega)) (by omega)]; exact bd q z1 z2
  · rw [krF _ _ (okr _ _ (by omega) (by omega)) (by omega), or_bit (by omega)]; exact be k hk
  · have kB : ∀ a j, 83 ≤ a → a ≤ 85 → r6 a j = r4 a j := fun a j h1 h2 => by rw [frB_RE d9 a j (okr a j (by omega) h2), a5 a j (okr a j (by omega) h2)]
    by_cases c : l' = l
    · subst c
      rw [lawD_11, lawD_12, lawD_13, na_set_bit, decide_eq_true rfl, Bool.or_true, if_pos rfl]
      refine ⟨?_, fun _ => ⟨?_, ?_, fun i hi => ?_⟩⟩
      · rw [w3 _ _ (by omega), kr7 _ _ (by omega), kB _ _ (by omega) (by omega), kr4 _ _ (by omega), kr3 _ _ (by omega), u3 _ _ (by omega), ← hQ, na_upS]; rfl
      · rw [w3 _ _ (by omega), kr7 _ _ (by omega), kB _ _ (by omega) (by omega), kr4 _ _ (by omega), ← hR3, na_upS]; rfl
      · rw [w3 _ _ (by omega), ← hR7, na_upS]; rfl
      · exact knR_cong (m := shm r6) (m1 := shm r8) (fun a z1 z2 => show r8 a (64 + (F0 + i)) = r6 a (64 + (F0 + i)) by rw [w3 _ _ (by omega), kr7 _ _ (by omega)]) (f8 i hi)
    · obtain ⟨y1, y2, y3⟩ := hW.2.2.2.2.2.2 l' hl'
      have yl := (hW.1.law l' hl').1
      rw [lawD_11, lawD_n (by omega) (by omega) (by omega), lawD_n (by omega) (by omega) (by omega), or_bit (by omega), krF _ _ (okr _ _ (by omega) (by omega)) (by omega), krF _ _ (okr _ _ (by omega) (by omega)) (by omega), krF _ _ (okr _ _ (by omega) (by omega)) (by omega)]
      refine ⟨(bl l' hl').1, fun y => ⟨((bl l' hl').2 y).1, ((bl l' hl').2 y).2.1, fun i hi => ?_⟩⟩
      rw [hcd _ (by omega), stk_congr (f := cd3) (g := D 11) i (fun j hj => hcd _ (by omega))]
      exact knR_cong (m := shm mR) (m1 := shm r8) (fun a z1 z2 => show r8 a (64 + (D 12 l' + i)) = mR a (64 + (D 12 l' + i)) from krF _ _ (by unfold okRE; omega) (by omega)) (((bl l' hl').2 y).2.2 i hi)
  · intro a j h
    rw [w3 a j (by unfold okX at h; omega), kr7 a j (by unfold okX at h; omega), frRE_X (frB_RE d9) a j h, frRE_X a5 a j h]
    exact fr4 a j h
end LAWL
