/-! CALLS THAT ASK, 3: goOn, strange, law (own work) -/
section ASK3
variable {t : Nat} {m : mj_M} {T : zT} {S : zS} {n : Nat} {us : List zS} {I : Option (zS × Nat)} {E : zE} {B : zB} {F : Int32 × Int32}
theorem plain_2 (hR : RV m T S n us I E B F) (hW : WV T S n us I E B F) : ∃ m1, md_plainTried (mj_up m 68 2 (.int 0)) = some m1 ∧ PL m1 ∧ frQ m m1 ∧ RV m1 T S n us I E B F ∧ md_beatOf 0 0 m1 = some (nI (sBeat T 0 S)) := by
  obtain ⟨m1, e1, p1, f1⟩ := md_plain_e (m := mj_up m 68 2 (.int 0))
  have fq : frQ m m1 := frQ_tr frQ_2 ⟨fun a j h => f1 a j (by unfold okq okl okc at h; omega), congrArg mj_J (f1 _ _ (by omega))⟩
  have hR1 : RV m1 T S n us I E B F := RV_Q hR hW.T fq
  have e2 := md_beatOf_e (v2 := 0) (b := 0) (by decide) hR1.T hW.T hR1.S hW.S (by decide) (PL_RF p1).1 (by decide)
  exact ⟨m1, e1, p1, fq, hR1, e2⟩
theorem q_goOn (ht : t = 3 ∨ t = 17) (hC : CV t m T S n us I E B F) (hR : RV m T S n us I E B F) (hW : WV T S n us I E B F) : ∃ r m1, bp_goOn t m = some r ∧ md_goOn m = some (r, m1) ∧ frQ m m1 := by
  have hnp := hW.T.np
  have hnw := hW.T.nw
  obtain ⟨m1, e1, p1, fq, hR1, e2⟩ := plain_2 hR hW
  have hbe := @sBeat_le T 0 S
  unfold bp_goOn md_goOn
  rw [ck_plain_e (pc := 0) ht hC.T hW.T hC.S hW.S (by decide) hC.inst (by decide), Option.bind_some, ck_going_e ht (Or.inl rfl) hC.T hW.T hC.S hW.S (by decide) hbe, Option.bind_some, e1, Option.bind_some]
  have hho := hW.S.hour
  have e3 : mj_loop md_goOn_l13 mj_F (0, 0, m1) = some (0, (nI (bz (sOn T S (sBeat T 0 S)) (T 0 5)), (if sBeat T 0 S = 0 then 0 else nI (T 0 5)), m1)) := by
    generalize sBeat T 0 S = be at e2 hbe
    by_cases h0 : be = 0
    · subst h0
      have hz : bz (sOn T S 0) (T 0 5) = 0 := by
        have z : bz (sOn T S 0) (T 0 5) = bz (fun _ => false) (T 0 5) := bz_congr (fun p _ => by unfold sOn; simp)
        rw [z]
        generalize T 0 5 = n
        induction n with
        | zero => rfl
        | succ n ih => unfold bz; rw [if_neg (by decide)]; exact ih
      rw [hz]
      refine lp_eq (fun _ => (0, 0, m1)) 0 (by decide) (fun i hi => absurd hi (by omega)) ?_
      unfold md_goOn_l13
      dsimp only
      by_cases c : mj_I (m1 68 14) ≤ 0
      · rw [if_pos c]; rfl
      · rw [if_neg c, e2, Option.bind_some, if_pos (show nI 0 ≤ 0 by decide)]; rfl
    · rw [if_neg h0]
      refine lp_eq (fun i => (nI (bz (sOn T S be) i), nI i, m1)) (T 0 5) (by unfold mj_F; omega) (fun i hi => ?_) ?_
      · have ho := hW.T.owner i hi
        have hl := hW.S.left i hi
        have hhe := hW.S.here _ ho
        have hhi := hW.S.hic _ ho
        have e4 := md_isOn_e (b := 0) (beat := be) (S := S) (by decide) hR1.T hW.T (PL_HO p1 hW.T hR1.R9) hi (hR1.S.here _ ho) (hR1.S.hic _ ho) (hR1.S.left i hi) hR1.S.hour (by omega) (by omega)
        have e4 : md_isOn 0 (nI i) m1 = some (if sOn T S be i = true then 1 else 0) := e4
        unfold md_goOn_l13 md_goOn_j47l13
        dsimp only
        rw [hR1.T.nw, if_neg (nI_ge hi (by omega)), e2, Option.bind_some, if_neg (nI_nle (by omega) (by omega)), e4, Option.bind_some, na_set (by omega), ← nI_succ]
        have eb : bz (sOn T S be) (i + 1) = if sOn T S be i = true then bz (sOn T S be) i ||| 2 ^ i else bz (sOn T S be) i := rfl
        have e0 : nI (bz (sOn T S be) i) ||| (0 : Int32) = nI (bz (sOn T S be) i) := by rw [show (0 : Int32) = nI 0 from rfl, na_or, Nat.or_zero]
        rw [eb, e0]
        by_cases c : sOn T S be i = true
        · rw [if_pos c, if_neg not01, if_pos c]
        · rw [if_neg c, if_pos rfl, if_neg c]
      · unfold md_goOn_l13
        dsimp only
        rw [hR1.T.nw, if_pos (nI_le (Nat.le_refl _) (by omega))]
  rw [e3]
  exact ⟨_, _, rfl, rfl, fq⟩
theorem q_strange (ht : t = 3 ∨ t = 17) (hC : CV t m T S n us I E B F) (hR : RV m T S n us I E B F) (hW : WV T S n us I E B F) {v x : Int32} : ∃ r m1, bp_strange t v x m = some r ∧ md_strange v x m = some (r, m1) ∧ frQ m m1 := by
  have hnp := hW.T.np
  obtain ⟨m1, e1, p1, fq, hR1, e2⟩ := plain_2 hR hW
  have hbe := @sBeat_le T 0 S
  have i1 : md_isIn v 0 9999 (mj_up m 68 2 (.int 0)) = if v < 0 then 0 else if 9999 < v then 0 else 1 := rfl
  have i2 : md_isIn x 0 1 (mj_up m 68 2 (.int 0)) = if x < 0 then 0 else if 1 < x then 0 else 1 := rfl
  unfold bp_strange md_strange
  rw [i1, i2]
  by_cases c : v < 0
  · rw [if_pos c, if_pos c, if_pos rfl]; exact ⟨_, _, rfl, rfl, frQ_2⟩
  rw [if_neg c, if_neg c]
  by_cases c : 9999 < v
  · rw [if_pos c, if_pos c, if_pos rfl]; exact ⟨_, _, rfl, rfl, frQ_2⟩
  rw [if_neg c, if_neg c, if_neg not01]
  by_cases c : x < 0
  · rw [if_pos c, if_pos c, if_pos rfl]; exact ⟨_, _, rfl, rfl, frQ_2⟩
  rw [if_neg c, if_neg c]
  by_cases c1 : x ≤ 1
  · have c2 : ¬ (1 : Int32) < x := by rw [na_ltI]; rw [na_leI] at c1; omega
    rw [if_pos c1, if_neg c2, if_neg not01, ck_plain_e (pc := 0) ht hC.T hW.T hC.S hW.S (by decide) hC.inst (by decide), Option.bind_some, e1, Option.bind_some, e2, Option.bind_some]
    have x01 : x = 0 ∨ x = 1 := by
      rw [na_ltI] at c
      rw [na_leI] at c1
      have k0 : ((0 : Int32)).toInt = 0 := rfl
      rw [k0] at c
      rw [k1] at c1
      rcases (show x.toInt = 0 ∨ x.toInt = 1 by omega) with z | z
      · exact Or.inl (Int32.toInt_inj.mp z)
      · exact Or.inr (Int32.toInt_inj.mp z)
    generalize nI (sBeat T 0 S) = be
    obtain ⟨a, s, b, u, e3, e4, q1, q2⟩ := lpr2 (b1 := bp_strange_l40 t v x be m) (b2 := md_strange_l44 v x be) (s := (0, 0)) (u := (0, 0, m1))
      (fun i s u => s.2 = nI i ∧ u.2.1 = nI i ∧ u.2.2 = m1 ∧ s.1 = u.1)
      (fun _ s _ u => s.1 = u.1 ∧ u.2.2 = m1) (T 0 0) (by unfold mj_F; omega) ⟨rfl, rfl, rfl, rfl⟩
      (by
        intro i s u hi ⟨h1, h2, h3, h4⟩
        obtain ⟨y, y2⟩ := s
        obtain ⟨y', y2', mm⟩ := u
        dsimp only at h1 h2 h3 h4
        subst h1 h2 h3 h4
        refine Or.inl ?_
        have o1 : (nI i < 0) = False := eq_false (nI_pos (by omega))
        have o1' : (12 ≤ i) = False := eq_false (by omega)
        have o2 : (nI i).toNatClampNeg = i := nI_clamp (by omega)
        have l1 := hR1.S.here i hi
        have l2 := hR1.S.slips i hi
        rw [show 6 * 0 + i = i by omega] at l1 l2
        have r2 := hR1.T.row 2 i (by decide) (by decide) (by decide) hi
        have c2 := hC.T.r ht hW.T (i := 2) (by decide) (by decide) hi
        have s1 := (SC_at hC.S (Or.inl rfl) hW.T).1 i hi
        have e0 : y ||| (0 : Int32) = y := Int32.or_zero
        unfold bp_strange_l40 bp_strange_j73l40 bp_strange_j121l40 md_strange_l44 md_strange_j69l44 md_strange_j105l44 md_strange_j115l44 md_strange_j116l44
        dsimp only
        rw [hC.T.np, hR1.T.np, if_neg (nI_ge hi (by omega)), if_neg (nI_ge hi (by omega)), has_here hC hW hi, c2, s1]
        simp only [o1, o1', o2, or_self, if_false, l1, l2, here01 hW hi, r2, e0]
        by_cases cb : be ≤ nI (T 2 i)
        · rw [if_pos cb, if_pos cb]
          by_cases ch : S.1 5 i = 1
          · rw [if_pos ch, if_neg not01, if_neg (show ¬ ¬ S.1 5 i = 1 from fun z => z ch)]
            by_cases cs : S.2 1 i < v
            · rw [if_pos cs, if_pos cs]; exact ⟨_, _, rfl, rfl, (nI_succ i).symm, (nI_succ i).symm, rfl, rfl⟩
            · rw [if_neg cs, if_neg cs]
              rcases x01 with rfl | rfl
              · rw [if_neg (show ¬ (1 : Int32) = 0 by decide), if_pos rfl, if_neg (show ¬ (0 : Int32) = 1 by decide)]
                exact ⟨_, _, rfl, rfl, (nI_succ i).symm, (nI_succ i).symm, rfl, rfl⟩
              · rw [if_pos rfl, if_neg (show ¬ (1 : Int32) = 0 by decide)]
                simp only [if_true]
                exact ⟨_, _, rfl, rfl, (nI_succ i).symm, (nI_succ i).symm, rfl, rfl⟩
          · rw [if_neg ch, if_pos rfl, if_pos ch]; exact ⟨_, _, rfl, rfl, (nI_succ i).symm, (nI_succ i).symm, rfl, rfl⟩
        · rw [if_neg cb, if_neg cb]
          by_cases ch : S.1 5 i = 1
          · rw [if_pos ch, if_neg not01, if_neg (show ¬ ¬ S.1 5 i = 1 from fun z => z ch)]
            by_cases cs : S.2 1 i < v
            · rw [if_pos cs, if_pos cs]; exact ⟨_, _, rfl, rfl, (nI_succ i).symm, (nI_succ i).symm, rfl, rfl⟩
            · rw [if_neg cs, if_neg cs]
              rcases x01 with rfl | rfl
              · rw [if_pos (show (0 : Int32) = 0 from rfl), if_pos (show (0 : Int32) = 0 from rfl)]
                simp only [if_true]
                exact ⟨_, _, rfl, rfl, (nI_succ i).symm, (nI_succ i).symm, rfl, rfl⟩
              · rw [if_neg (show ¬ (0 : Int32) = 1 by decide), if_neg (show ¬ (1 : Int32) = 0 by decide), if_neg (show ¬ (1 : Int32) = 0 by decide)]
                exact ⟨_, _, rfl, rfl, (nI_succ i).symm, (nI_succ i).symm, rfl, rfl⟩
          · rw [if_neg ch, if_pos rfl, if_pos ch]; exact ⟨_, _, rfl, rfl, (nI_succ i).symm, (nI_succ i).symm, rfl, rfl⟩)
      (by
        intro s u ⟨h1, h2, h3, h4⟩
        obtain ⟨y, y2⟩ := s
        obtain ⟨y', y2', mm⟩ := u
        dsimp only at h1 h2 h3 h4
        subst h1 h2 h3 h4
        unfold bp_strange_l40 md_strange_l44
        dsimp only
        rw [hC.T.np, hR1.T.np, if_pos (nI_le (Nat.le_refl _) (by omega)), if_pos (nI_le (Nat.le_refl _) (by omega))]
        exact ⟨_, _, _, _, rfl, rfl, rfl, rfl⟩)
    rw [e3, e4, Option.bind_some, Option.bind_some, q1, q2]
    exact ⟨_, _, rfl, rfl, fq⟩
  · have c2 : (1 : Int32) < x := by rw [na_ltI]; rw [na_leI] at c1; omega
    rw [if_neg c1, if_pos c2, if_pos rfl]; exact ⟨_, _, rfl, rfl, frQ_2⟩
def lawE : Int64 := -9223372036854775808
def lyP (m : mj_M) (p : Int32) (f a : Nat) : Prop := (∃ o, p = nI o ∧ o < 12 ∧ mj_I (m 74 o) = nI f ∧ mj_I (m 75 o) = nI a) ∨ (p = -1 ∧ f = 0 ∧ a = 0)
def lyW (m : mj_M) (w : Int32) (lf r : Nat) : Prop := (∃ i, w = nI i ∧ i < 8 ∧ mj_I (m 93 (8 * 0 + i)) = nI lf ∧ mj_I (m 80 i) = nI r) ∨ (w = -1 ∧ lf = 0 ∧ r = 0)
theorem law_ask (ht : t = 3 ∨ t = 17) (hC : CV t m T S n us I E B F) (hR : RV m T S n us I E B F) (hW : WV T S n us I E B F) {l f a lf r : Nat} {p w : Int32} (hl : l < 3) (cf : fx_at m (t + 2) p = nI f) (ca : fx_at m (t + 3) p = nI a) (cl : fx_at m 45 w = nI lf) (cr : fx_at m (t + 8) w = nI r) (hp : lyP m p f a) (hw : lyW m w lf r) (bb : f < 2 ^ 31 ∧ a < 2 ^ 31 ∧ lf < 2 ^ 31 ∧ r < 2 ^ 31) : ∃ x m1, bp_law_j77 t (nI l) p w m = some (x, m1) ∧ frT m m1 ∧ ((T 12 l = T 13 l ∧ x = lawE) ∨ (T 12 l < T 13 l ∧ ∀ M, RV M T S n us I E B F → M 74 = m 74 → M 75 = m 75 → M 80 = m 80 → (∀ i, i < 8 → M 93 i = m 93 i) → ∃ m2, md_law_j96 (nI l) 0 (nI (sBeat T 0 S)) p w M = some (x, m2) ∧ frQ M m2)) := by
  have hbe := @sBeat_le T 0 S
  have hco := hW.S.coil
  have hho := hW.S.hour
  have bb2 : sBeat T 0 S < 2 ^ 31 ∧ f < 2 ^ 31 ∧ a < 2 ^ 31 ∧ lf < 2 ^ 31 ∧ r < 2 ^ 31 ∧ S.1 0 1 < 2 ^ 31 ∧ S.1 0 0 < 2 ^ 31 := by omega
  obtain ⟨m1, p1, p2, p3⟩ := ck_name_e (b := sBeat T 0 S) (v3 := p) (v4 := w) ht (Or.inl rfl) cf ca cl cr hC.S.coil hC.S.hour bb2
  obtain ⟨m2, q1, q2⟩ := rk_value_e (l := l) ht (hC.T.cong (fun i hi => p3 _ (by omega))) hW.T hW.L hl p2 (inM_nm bb2)
  unfold bp_law_j77
  rw [ck_plain_e (pc := 0) ht hC.T hW.T hC.S hW.S (by decide) hC.inst (by decide), Option.bind_some, p1, Option.bind_some, q1]
  refine ⟨_, m2, rfl, fun k h1 h2 h3 => by rw [q2 k (by omega) (by omega), p3 k (by omega)], ?_⟩
  have hab := (hW.T.law l hl).1
  by_cases hlt : T 12 l < T 13 l
  · refine Or.inr ⟨hlt, fun M hM k74 k75 k80 k93 => ?_⟩
    have e1 := lay_e (b := 0) (be := sBeat T 0 S) (f := f) (a := a) (l := lf) (r := r) (p := p) (w := w) (m := M) (by decide) (by rw [k74, k75]; exact hp) (by
      rcases hw with ⟨i, i1, i2, i3, i4⟩ | h
      · exact Or.inl ⟨i, i1, i2, by rw [show 8 * 0 + i = i by omega, k93 i i2]; rw [show 8 * 0 + i = i by omega] at i3; exact i3, by rw [k80]; exact i4⟩
      · exact Or.inr h) hM.S.coil hM.S.hour bb2
    have e1 : md_layNames 0 (nI (sBeat T 0 S)) p w M = _ := e1
    obtain ⟨m3, e2, f2, g1, g2⟩ := md_lawOf_e (m := lay7 M (sBeat T 0 S) f a lf r (S.1 0 1) (S.1 0 0)) hW.T hW.L (hM.L.cong (fun k _ _ => lay7_fr (by omega))) hl hlt lay7_nm (inM_nm bb2)
    unfold md_law_j96
    rw [e1, Option.bind_some, e2, Option.bind_some]
    dsimp only
    have fq : frQ M m3 := ⟨fun a j h => by rw [f2 a j (by unfold okq okl okc at h; omega) (by unfold okq okl okc at h; omega), lay7_fr (by unfold okq okl okc at h; omega)], by rw [f2 _ _ (by omega) (by decide), lay7_fr (by decide)]⟩
    cases hs : sLaw T l (sNm (sBeat T 0 S) f a lf r (S.1 0 1) (S.1 0 0)) with
    | none =>
      rw [g1 hs, if_neg not01]
      exact ⟨m3, rfl, fq⟩
    | some v =>
      rw [(g2 v hs).1, if_pos rfl]
      exact ⟨m3, rfl, fq⟩
  · have he : T 12 l = T 13 l := by omega
    refine Or.inl ⟨he, ?_⟩
    rw [sLaw_untold he]
    rfl
end ASK3
