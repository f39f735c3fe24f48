/-! FUNCTIONS OUT OF THE INSTRUCTIONS, AND THAT A RUN GIVES THEM (made by wip/whole/emit.py) -/
def md_back_l25   (s25 : (Int32 × mj_M)) : Option (Nat × (Int32 × mj_M)) :=
  (if 8 ≤ s25.1 then some (1, (s25.1, s25.2)) else
  (if s25.1 < 0 ∨ 23 ≤ (s25.1 : Int32).toNatClampNeg then none else
  (if s25.1 < 0 ∨ 16 ≤ (s25.1 : Int32).toNatClampNeg then none else
  (if ((8 : Int32) + s25.1) < 0 ∨ 23 ≤ (((8 : Int32) + s25.1) : Int32).toNatClampNeg then none else
  (if s25.1 < 0 ∨ 16 ≤ (s25.1 : Int32).toNatClampNeg then none else
  some (0, ((s25.1 + 1), (mj_up (mj_up s25.2 93 s25.1.toNatClampNeg (.int (mj_I (s25.2 108 s25.1.toNatClampNeg)))) 94 s25.1.toNatClampNeg (.int (mj_I (s25.2 108 ((8 : Int32) + s25.1).toNatClampNeg)))))))))))
def md_back_l66   (s66 : (Int32 × mj_M)) : Option (Nat × (Int32 × mj_M)) :=
  (if 6 ≤ s66.1 then some (1, (s66.1, s66.2)) else
  (if ((16 : Int32) + s66.1) < 0 ∨ 23 ≤ (((16 : Int32) + s66.1) : Int32).toNatClampNeg then none else
  (if s66.1 < 0 ∨ 12 ≤ (s66.1 : Int32).toNatClampNeg then none else
  some (0, ((s66.1 + 1), (mj_up s66.2 95 s66.1.toNatClampNeg (.int (mj_I (s66.2 108 ((16 : Int32) + s66.1).toNatClampNeg)))))))))
def md_back   (m : mj_M) : Option (Int32 × mj_M) :=
  (if (mj_I (m 68 77)) = 0 then some ((-1), (mj_up m 68 2 (.int 0))) else
  (md_take 107 0 (mj_up m 68 2 (.int 0))).bind fun q2 =>
  (mj_loop (md_back_l25) mj_F (0, q2)).bind fun q8 =>
  (mj_loop (md_back_l66) mj_F (0, q8.2.2)).bind fun q12 =>
  some ((mj_I (q12.2.2 108 (22 : Int32).toNatClampNeg)), (mj_up (mj_up (mj_up q12.2.2 100 (0 : Int32).toNatClampNeg (.int (mj_I (q12.2.2 108 (22 : Int32).toNatClampNeg)))) 68 60 (.long (mj_J (q12.2.2 68 80)))) 68 75 (.int 0))))
set_option maxRecDepth 20000 in
theorem md_back_l25_x {Ls tp ip x d : Nat} {Z : mj_X} {R : Option Value → mj_G → mj_M → Prop} {P : mj_K → Prop} (hC : mj_cls false (mj_sh Ls) (mj_rf tp ip) mj_dv mj_cd_275 (mj_Ex false (mj_sh Ls) (mj_rf tp ip) Z d) R P) (hd : 1 ≤ d)  (s25 : (Int32 × mj_M)) {t : Nat} {w : (Int32 × mj_M)} (h : md_back_l25 s25 = some (t, w)) (h0 : t = 0 → P (25, [some (.ref 68), some (.int w.1)], [], (110, x), w.2)) (h1 : t = 1 → P (64, [some (.ref 68), none], [], (110, x), w.2)) : P (25, [some (.ref 68), some (.int s25.1)], [], (110, x), s25.2) := by
  unfold md_back_l25 at h
  refine mj_gcp hC 3 ?_
  show P (mj_pick 64 31 (8 ≤ s25.1), [some (.ref 68), some (.int s25.1)], [], (110, x), s25.2)
  refine mj_pbr (fun c3 => ?_) (fun c3 => ?_)
  · rw [if_pos c3] at h
    cases h
    exact mj_less hC (L0 := [some (.ref 68), none]) (And.intro rfl trivial) (h1 rfl)
  · rw [if_neg c3] at h
    obtain ⟨k4, h⟩ := mj_ifn h
    obtain ⟨k5, h⟩ := mj_ifn h
    obtain ⟨k6, h⟩ := mj_ifn h
    obtain ⟨k7, h⟩ := mj_ifn h
    refine mj_gcp hC 20 ?_
    show _ ∧ (_ ∧ (_ ∧ (_ ∧ (P (25, [some (.ref 68), some (.int (s25.1 + 1))], [], (110, x), (mj_up (mj_up s25.2 93 s25.1.toNatClampNeg (.int (mj_I (s25.2 108 s25.1.toNatClampNeg)))) 94 s25.1.toNatClampNeg (.int (mj_I (s25.2 108 ((8 : Int32) + s25.1).toNatClampNeg)))))))))
    refine And.intro k4 (And.intro k5 (And.intro k6 (And.intro k7 (?_))))
    cases h
    exact mj_less hC (L0 := [some (.ref 68), some (.int (s25.1 + 1))]) (And.intro rfl (And.intro rfl trivial)) (h0 rfl)
set_option maxRecDepth 20000 in
theorem md_back_l66_x {Ls tp ip x d : Nat} {Z : mj_X} {R : Option Value → mj_G → mj_M → Prop} {P : mj_K → Prop} (hC : mj_cls false (mj_sh Ls) (mj_rf tp ip) mj_dv mj_cd_275 (mj_Ex false (mj_sh Ls) (mj_rf tp ip) Z d) R P) (hd : 1 ≤ d)  (s66 : (Int32 × mj_M)) {t : Nat} {w : (Int32 × mj_M)} (h : md_back_l66 s66 = some (t, w)) (h0 : t = 0 → P (66, [some (.ref 68), some (.int w.1)], [], (110, x), w.2)) (h1 : t = 1 → P (93, [some (.ref 68), none], [], (110, x), w.2)) : P (66, [some (.ref 68), some (.int s66.1)], [], (110, x), s66.2) := by
  unfold md_back_l66 at h
  refine mj_gcp hC 3 ?_
  show P (mj_pick 93 72 (6 ≤ s66.1), [some (.ref 68), some (.int s66.1)], [], (110, x), s66.2)
  refine mj_pbr (fun c9 => ?_) (fun c9 => ?_)
  · rw [if_pos c9] at h
    cases h
    exact mj_less hC (L0 := [some (.ref 68), none]) (And.intro rfl trivial) (h1 rfl)
  · rw [if_neg c9] at h
    obtain ⟨k10, h⟩ := mj_ifn h
    obtain ⟨k11, h⟩ := mj_ifn h
    refine mj_gcp hC 12 ?_
    show _ ∧ (_ ∧ (P (66, [some (.ref 68), some (.int (s66.1 + 1))], [], (110, x), (mj_up s66.2 95 s66.1.toNatClampNeg (.int (mj_I (s66.2 108 ((16 : Int32) + s66.1).toNatClampNeg)))))))
    refine And.intro k10 (And.intro k11 (?_))
    cases h
    exact mj_less hC (L0 := [some (.ref 68), some (.int (s66.1 + 1))]) (And.intro rfl (And.intro rfl trivial)) (h0 rfl)
set_option maxRecDepth 20000 in
theorem md_back_p {Ls tp ip x d : Nat} {Z : mj_X} {R : Option Value → mj_G → mj_M → Prop} {P : mj_K → Prop} (hC : mj_cls false (mj_sh Ls) (mj_rf tp ip) mj_dv mj_cd_275 (mj_Ex false (mj_sh Ls) (mj_rf tp ip) Z d) R P) (hd : 1 ≤ d)  {m : mj_M} {r : (Int32 × mj_M)} (h : md_back m = some r) (hR : R (some (.int r.1)) (110, x) r.2) : P (0, [some (.ref 68), none], [], (110, x), m) := by
  unfold md_back at h
  refine mj_gcp hC 6 ?_
  show P (mj_pick 12 14 ((mj_I (m 68 77)) = 0), [some (.ref 68), none], [], (110, x), (mj_up m 68 2 (.int 0)))
  refine mj_pbr (fun c1 => ?_) (fun c1 => ?_)
  · rw [if_pos c1] at h
    refine mj_gcp hC 1 ?_
    show P (13, [some (.ref 68), none], [.int (-1)], (110, x), (mj_up m 68 2 (.int 0)))
    cases h
    exact mj_pret hC rfl hR
  · rw [if_neg c1] at h
    refine mj_gcp hC 4 ?_
    show P (20, [some (.ref 68), none], [.int 0, .ref 107, .ref 68], (110, x), (mj_up m 68 2 (.int 0)))
    obtain ⟨q2, eq2, h⟩ := mj_bnd h
    refine mj_pcall hC rfl (md_take_x (Nat.le_trans (by decide) hd) (by decide) eq2) ?_
    show P (23, [some (.ref 68), none], [], (110, x), q2)
    refine mj_gcp hC 2 ?_
    show P (25, [some (.ref 68), some (.int 0)], [], (110, x), q2)
    obtain ⟨q8, eq8, h⟩ := mj_bnd h
    refine mj_less hC (L0 := [some (.ref 68), some (.int 0)]) (And.intro rfl (And.intro rfl trivial)) ?_
    refine mj_loop_P (A := fun z25 => P (25, [some (.ref 68), some (.int z25.1)], [], (110, x), z25.2)) (E := fun _ z25 => P (64, [some (.ref 68), none], [], (110, x), z25.2)) (fun zz t w hb h0 h1 => md_back_l25_x hC hd zz hb h0 (fun ht => h1 0 ht)) mj_F _ q8 eq8 ?_
    refine mj_gcp hC 2 ?_
    show P (66, [some (.ref 68), some (.int 0)], [], (110, x), q8.2.2)
    obtain ⟨q12, eq12, h⟩ := mj_bnd h
    refine mj_less hC (L0 := [some (.ref 68), some (.int 0)]) (And.intro rfl (And.intro rfl trivial)) ?_
    refine mj_loop_P (A := fun z66 => P (66, [some (.ref 68), some (.int z66.1)], [], (110, x), z66.2)) (E := fun _ z66 => P (93, [some (.ref 68), none], [], (110, x), z66.2)) (fun zz t w hb h0 h1 => md_back_l66_x hC hd zz hb h0 (fun ht => h1 0 ht)) mj_F _ q12 eq12 ?_
    refine mj_gcp hC 19 ?_
    show _ ∧ (_ ∧ (_ ∧ (P (125, [some (.ref 68), none], [.int (mj_I (q12.2.2 108 (22 : Int32).toNatClampNeg))], (110, x), (mj_up (mj_up (mj_up q12.2.2 100 (0 : Int32).toNatClampNeg (.int (mj_I (q12.2.2 108 (22 : Int32).toNatClampNeg)))) 68 60 (.long (mj_J (q12.2.2 68 80)))) 68 75 (.int 0))))))
    refine And.intro (show ¬ ((22 : Int32) < 0 ∨ 23 ≤ (22 : Int32).toNatClampNeg) by decide) (And.intro (show ¬ ((0 : Int32) < 0 ∨ 2 ≤ (0 : Int32).toNatClampNeg) by decide) (And.intro (show ¬ ((0 : Int32) < 0 ∨ 2 ≤ (0 : Int32).toNatClampNeg) by decide) (?_)))
    cases h
    exact mj_pret hC rfl hR
set_option maxRecDepth 20000 in
theorem md_back_x {Ls tp ip x d : Nat} {Z : mj_X} (hd : 2 ≤ d)  {m : mj_M} {r : (Int32 × mj_M)} (h : md_back m = some r) : mj_Ex false (mj_sh Ls) (mj_rf tp ip) Z d 275 [.ref 68] (110, x) m (some (.int r.1)) (110, x) r.2 := by
  exact mj_Ex_of (cd := mj_cd_275) (L := [some (.ref 68), none]) (by omega) (by decide) rfl (Nat.le_of_ble_eq_true rfl) rfl (fun P hC => md_back_p hC (by omega) h ⟨rfl, rfl, rfl⟩)
def md_count_j158l135   (v3 : Int32) (s0 : Int32) (s1 : Int32) (m : mj_M) : Option (Nat × (Int32 × Int32 × mj_M)) :=
  some (0, ((s0 + s1), (v3 + 1), m))
def md_count_l135   (s135 : (Int32 × Int32 × mj_M)) : Option (Nat × (Int32 × Int32 × mj_M)) :=
  (if (mj_I (s135.2.2 68 12)) ≤ s135.2.1 then some (1, (s135.1, s135.2.1, s135.2.2)) else
  (if s135.2.1 < 0 ∨ 12 ≤ (s135.2.1 : Int32).toNatClampNeg then none else
  (if (mj_I (s135.2.2 96 s135.2.1.toNatClampNeg)) ≤ 0 then md_count_j158l135 s135.2.1 s135.1 0 s135.2.2 else
  md_count_j158l135 s135.2.1 s135.1 1 s135.2.2)))
def md_count  (v1 : Int32) (m : mj_M) : Option (Int32 × mj_M) :=
  (if v1 = 0 then some ((mj_I (m 68 12)), (mj_up m 68 2 (.int 0))) else
  (if v1 = 1 then some ((mj_I (m 68 13)), (mj_up m 68 2 (.int 0))) else
  (if v1 = 2 then some ((mj_I (m 68 14)), (mj_up m 68 2 (.int 0))) else
  (if v1 = 3 then some ((mj_I (m 68 16)), (mj_up m 68 2 (.int 0))) else
  (if v1 = 4 then some ((mj_I (m 100 (0 : Int32).toNatClampNeg)), (mj_up m 68 2 (.int 0))) else
  (if v1 = 5 then some ((mj_I (m 98 (0 : Int32).toNatClampNeg)), (mj_up m 68 2 (.int 0))) else
  (if v1 = 6 then some ((mj_I (m 99 (0 : Int32).toNatClampNeg)), (mj_up m 68 2 (.int 0))) else
  (if v1 = 7 then (md_doneAll 0 (mj_up m 68 2 (.int 0))).bind fun q9 =>
  some (q9, (mj_up m 68 2 (.int 0))) else
  (if v1 = 8 then (md_slipsAll 0 (mj_up m 68 2 (.int 0))).bind fun q11 =>
  some (q11, (mj_up m 68 2 (.int 0))) else
  (if v1 = 9 then (mj_loop (md_count_l135) mj_F (0, 0, (mj_up m 68 2 (.int 0)))).bind fun q16 =>
  some (q16.2.1, q16.2.2.2) else
  (if v1 = 10 then (md_hereBits (mj_up m 68 2 (.int 0))).bind fun q18 =>
  (md_manyOf q18 (mj_up m 68 2 (.int 0))).bind fun q19 =>
  some (q19, (mj_up m 68 2 (.int 0))) else
  (if v1 = 11 then some ((mj_I (m 68 71)), (mj_up m 68 2 (.int 0))) else
  (if v1 = 12 then some ((md_knownBy (mj_up m 68 2 (.int 0))), (mj_up m 68 2 (.int 0))) else
  (if v1 = 13 then some ((mj_I (m 68 75)), (mj_up m 68 2 (.int 0))) else
  some ((-1), (mj_up m 68 2 (.int 0)))))))))))))))))
set_option maxRecDepth 20000 in
theorem md_count_j158l135_x {Ls tp ip x d : Nat} {Z : mj_X} {R : Option Value → mj_G → mj_M → Prop} {P : mj_K → Prop} (hC : mj_cls false (mj_sh Ls) (mj_rf tp ip) mj_dv mj_cd_276 (mj_Ex false (mj_sh Ls) (mj_rf tp ip) Z d) R P) (hd : 1 ≤ d)  {v3 : Int32} {s0 : Int32} {s1 : Int32} {m : mj_M} {t : Nat} {w : (Int32 × Int32 × mj_M)} (h : md_count_j158l135  v3 s0 s1 m = some (t, w)) (h0 : t = 0 → P (135, [some (.ref 68), none, some (.int w.1), some (.int w.2.1)], [], (110, x), w.2.2)) (h1 : t = 1 → P (166, [none, none, some (.int w.1), none], [], (110, x), w.2.2)) : P (158, [some (.ref 68), none, none, some (.int v3)], [.int s1, .int s0], (110, x), m) := by
  unfold md_count_j158l135 at h
  refine mj_gcp hC 4 ?_
  show P (135, [some (.ref 68), none, some (.int (s0 + s1)), some (.int (v3 + 1))], [], (110, x), m)
  cases h
  exact mj_less hC (L0 := [some (.ref 68), none, some (.int (s0 + s1)), some (.int (v3 + 1))]) (And.intro rfl (And.intro rfl (And.intro rfl trivial))) (h0 rfl)
set_option maxRecDepth 20000 in
theorem md_count_l135_x {Ls tp ip x d : Nat} {Z : mj_X} {R : Option Value → mj_G → mj_M → Prop} {P : mj_K → Prop} (hC : mj_cls false (mj_sh Ls) (mj_rf tp ip) mj_dv mj_cd_276 (mj_Ex false (mj_sh Ls) (mj_rf tp ip) Z d) R P) (hd : 1 ≤ d)  (s135 : (Int32 × Int32 × mj_M)) {t : Nat} {w : (Int32 × Int32 × mj_M)} (h : md_count_l135 s135 = some (t, w)) (h0 : t = 0 → P (135, [some (.ref 68), none, some (.int w.1), some (.int w.2.1)], [], (110, x), w.2.2)) (h1 : t = 1 → P (166, [none, none, some (.int w.1), none], [], (110, x), w.2.2)) : P (135, [some (.ref 68), none, some (.int s135.1), some (.int s135.2.1)], [], (110, x), s135.2.2) := by
  unfold md_count_l135 at h
  refine mj_gcp hC 4 ?_
  show P (mj_pick 166 143 ((mj_I (s135.2.2 68 12)) ≤ s135.2.1), [some (.ref 68), none, some (.int s135.1), some (.int s135.2.1)], [], (110, x), s135.2.2)
  refine mj_pbr (fun c13 => ?_) (fun c13 => ?_)
  · rw [if_pos c13] at h
    cases h
    exact mj_less hC (L0 := [none, none, some (.int s135.1), none]) (And.intro rfl trivial) (h1 rfl)
  · rw [if_neg c13] at h
    obtain ⟨k14, h⟩ := mj_ifn h
    refine mj_gcp hC 6 ?_
    show _ ∧ (P (mj_pick 157 153 ((mj_I (s135.2.2 96 s135.2.1.toNatClampNeg)) ≤ 0), [some (.ref 68), none, some (.int s135.1), some (.int s135.2.1)], [.int s135.1], (110, x), s135.2.2))
    refine And.intro k14 (?_)
    refine mj_pbr (fun c15 => ?_) (fun c15 => ?_)
    · rw [if_pos c15] at h
      refine mj_gcp hC 1 ?_
      show P (158, [some (.ref 68), none, some (.int s135.1), some (.int s135.2.1)], [.int 0, .int s135.1], (110, x), s135.2.2)
      exact mj_less hC (L0 := [some (.ref 68), none, none, some (.int s135.2.1)]) (And.intro rfl (And.intro rfl trivial)) (md_count_j158l135_x hC hd h h0 h1)
    · rw [if_neg c15] at h
      refine mj_gcp hC 2 ?_
      show P (158, [some (.ref 68), none, some (.int s135.1), some (.int s135.2.1)], [.int 1, .int s135.1], (110, x), s135.2.2)
      exact mj_less hC (L0 := [some (.ref 68), none, none, some (.int s135.2.1)]) (And.intro rfl (And.intro rfl trivial)) (md_count_j158l135_x hC hd h h0 h1)
set_option maxRecDepth 20000 in
theorem md_count_p {Ls tp ip x d : Nat} {Z : mj_X} {R : Option Value → mj_G → mj_M → Prop} {P : mj_K → Prop} (hC : mj_cls false (mj_sh Ls) (mj_rf tp ip) mj_dv mj_cd_276 (mj_Ex false (mj_sh Ls) (mj_rf tp ip) Z d) R P) (hd : 1 ≤ d) {v1 : Int32} {m : mj_M} {r : (Int32 × mj_M)} (h : md_count v1 m = some r) (hR : R (some (.int r.1)) (110, x) r.2) : P (0, [some (.ref 68), some (.int v1), none, none], [], (110, x), m) := by
  unfold md_count at h
  refine mj_gcp hC 7 ?_
  show P ((mj_sw v1 [(0, 80), (1, 85), (2, 90), (3, 95), (4, 100), (5, 107), (6, 114), (7, 121), (8, 127), (9, 133), (10, 168), (11, 176), (12, 181), (13, 186)] 191), [some (.ref 68), some (.int v1), some (.int 0), none], [], (110, x), (mj_up m 68 2 (.int 0)))
  refine mj_psw (fun c1 => ?_) (fun c1 => ?_)
  · rw [if_pos c1] at h
    refine mj_gcp hC 2 ?_
    show P (84, [some (.ref 68), some (.int v1), some (.int 0), none], [.int (mj_I (m 68 12))], (110, x), (mj_up m 68 2 (.int 0)))
    cases h
    exact mj_pret hC rfl hR
  · rw [if_neg c1] at h
    refine mj_psw (fun c2 => ?_) (fun c2 => ?_)
    · rw [if_pos c2] at h
      refine mj_gcp hC 2 ?_
      show P (89, [some (.ref 68), some (.int v1), some (.int 0), none], [.int (mj_I (m 68 13))], (110, x), (mj_up m 68 2 (.int 0)))
      cases h
      exact mj_pret hC rfl hR
    · rw [if_neg c2] at h
      refine mj_psw (fun c3 => ?_) (fun c3 => ?_)
      · rw [if_pos c3] at h
        refine mj_gcp hC 2 ?_
        show P (94, [some (.ref 68), some (.int v1), some (.int 0), none], [.int (mj_I (m 68 14))], (110, x), (mj_up m 68 2 (.int 0)))
        cases h
        exact mj_pret hC rfl hR
      · rw [if_neg c3] at h
        refine mj_psw (fun c4 => ?_) (fun c4 => ?_)
        · rw [if_pos c4] at h
          refine mj_gcp hC 2 ?_
          show P (99, [some (.ref 68), some (.int v1), some (.int 0), none], [.int (mj_I (m 68 16))], (110, x), (mj_up m 68 2 (.int 0)))
          cases h
          exact mj_pret hC rfl hR
        · rw [if_neg c4] at h
          refine mj_psw (fun c5 => ?_) (fun c5 => ?_)
          · rw [if_pos c5] at h
            refine mj_gcp hC 4 ?_
            show _ ∧ (P (106, [some (.ref 68), some (.int v1), some (.int 0), none], [.int (mj_I (m 100 (0 : Int32).toNatClampNeg))], (110, x), (mj_up m 68 2 (.int 0))))
            refine And.intro (show ¬ ((0 : Int32) < 0 ∨ 2 ≤ (0 : Int32).toNatClampNeg) by decide) (?_)
            cases h
            exact mj_pret hC rfl hR
          · rw [if_neg c5] at h
            refine mj_psw (fun c6 => ?_) (fun c6 => ?_)
            · rw [if_pos c6] at h
              refine mj_gcp hC 4 ?_
              show _ ∧ (P (113, [some (.ref 68), some (.int v1), some (.int 0), none], [.int (mj_I (m 98 (0 : Int32).toNatClampNeg))], (110, x), (mj_up m 68 2 (.int 0))))
              refine And.intro (show ¬ ((0 : Int32) < 0 ∨ 2 ≤ (0 : Int32).toNatClampNeg) by decide) (?_)
              cases h
              exact mj_pret hC rfl hR
            · rw [if_neg c6] at h
              refine mj_psw (fun c7 => ?_) (fun c7 => ?_)
              · rw [if_pos c7] at h
                refine mj_gcp hC 4 ?_
                show _ ∧ (P (120, [some (.ref 68), some (.int v1), some (.int 0), none], [.int (mj_I (m 99 (0 : Int32).toNatClampNeg))], (110, x), (mj_up m 68 2 (.int 0))))
                refine And.intro (show ¬ ((0 : Int32) < 0 ∨ 2 ≤ (0 : Int32).toNatClampNeg) by decide) (?_)
                cases h
                exact mj_pret hC rfl hR
              · rw [if_neg c7] at h
                refine mj_psw (fun c8 => ?_) (fun c8 => ?_)
                · rw [if_pos c8] at h
                  refine mj_gcp hC 2 ?_
                  show P (123, [some (.ref 68), some (.int v1), some (.int 0), none], [.int 0, .ref 68], (110, x), (mj_up m 68 2 (.int 0)))
                  obtain ⟨q9, eq9, h⟩ := mj_bnd h
                  refine mj_pcall hC rfl (md_doneAll_x (Nat.le_trans (by decide) hd) eq9) ?_
                  show P (126, [some (.ref 68), some (.int v1), some (.int 0), none], [.int q9], (110, x), (mj_up m 68 2 (.int 0)))
                  cases h
                  exact mj_pret hC rfl hR
                · rw [if_neg c8] at h
                  refine mj_psw (fun c10 => ?_) (fun c10 => ?_)
                  · rw [if_pos c10] at h
                    refine mj_gcp hC 2 ?_
                    show P (129, [some (.ref 68), some (.int v1), some (.int 0), none], [.int 0, .ref 68], (110, x), (mj_up m 68 2 (.int 0)))
                    obtain ⟨q11, eq11, h⟩ := mj_bnd h
                    refine mj_pcall hC rfl (md_slipsAll_x (Nat.le_trans (by decide) hd) eq11) ?_
                    show P (132, [some (.ref 68), some (.int v1), some (.int 0), none], [.int q11], (110, x), (mj_up m 68 2 (.int 0)))
                    cases h
                    exact mj_pret hC rfl hR
                  · rw [if_neg c10] at h
                    refine mj_psw (fun c12 => ?_) (fun c12 => ?_)
                    · rw [if_pos c12] at h
                      refine mj_gcp hC 2 ?_
                      show P (135, [some (.ref 68), some (.int v1), some (.int 0), some (.int 0)], [], (110, x), (mj_up m 68 2 (.int 0)))
                      obtain ⟨q16, eq16, h⟩ := mj_bnd h
                      refine mj_less hC (L0 := [some (.ref 68), none, some (.int 0), some (.int 0)]) (And.intro rfl (And.intro rfl (And.intro rfl trivial))) ?_
                      refine mj_loop_P (A := fun z135 => P (135, [some (.ref 68), none, some (.int z135.1), some (.int z135.2.1)], [], (110, x), z135.2.2)) (E := fun _ z135 => P (166, [none, none, some (.int z135.1), none], [], (110, x), z135.2.2)) (fun zz t w hb h0 h1 => md_count_l135_x hC hd zz hb h0 (fun ht => h1 0 ht)) mj_F _ q16 eq16 ?_
                      refine mj_gcp hC 1 ?_
                      show P (167, [none, none, some (.int q16.2.1), none], [.int q16.2.1], (110, x), q16.2.2.2)
                      cases h
                      exact mj_pret hC rfl hR
                    · rw [if_neg c12] at h
                      refine mj_psw (fun c17 => ?_) (fun c17 => ?_)
                      · rw [if_pos c17] at h
                        refine mj_gcp hC 1 ?_
                        show P (169, [some (.ref 68), some (.int v1), some (.int 0), none], [.ref 68], (110, x), (mj_up m 68 2 (.int 0)))
                        obtain ⟨q18, eq18, h⟩ := mj_bnd h
                        refine mj_pcall hC rfl (md_hereBits_x (Nat.le_trans (by decide) hd) eq18) ?_
                        show P (172, [some (.ref 68), some (.int v1), some (.int 0), none], [.int q18], (110, x), (mj_up m 68 2 (.int 0)))
                        obtain ⟨q19, eq19, h⟩ := mj_bnd h
                        refine mj_pcall hC rfl (md_manyOf_x (Nat.le_trans (by decide) hd) eq19) ?_
                        show P (175, [some (.ref 68), some (.int v1), some (.int 0), none], [.int q19], (110, x), (mj_up m 68 2 (.int 0)))
                        cases h
                        exact mj_pret hC rfl hR
                      · rw [if_neg c17] at h
                        refine mj_psw (fun c20 => ?_) (fun c20 => ?_)
                        · rw [if_pos c20] at h
                          refine mj_gcp hC 2 ?_
                          show P (180, [some (.ref 68), some (.int v1), some (.int 0), none], [.int (mj_I (m 68 71))], (110, x), (mj_up m 68 2 (.int 0)))
                          cases h
                          exact mj_pret hC rfl hR
                        · rw [if_neg c20] at h
                          refine mj_psw (fun c21 => ?_) (fun c21 => ?_)
                          · rw [if_pos c21] at h
                            refine mj_gcp hC 1 ?_
                            show P (182, [some (.ref 68), some (.int v1), some (.int 0), none], [.ref 68], (110, x), (mj_up m 68 2 (.int 0)))
                            refine mj_pcall hC rfl (md_knownBy_x (Nat.le_trans (by decide) hd)) ?_
                            show P (185, [some (.ref 68), some (.int v1), some (.int 0), none], [.int (md_knownBy (mj_up m 68 2 (.int 0)))], (110, x), (mj_up m 68 2 (.int 0)))
                            cases h
                            exact mj_pret hC rfl hR
                          · rw [if_neg c21] at h
                            refine mj_psw (fun c22 => ?_) (fun c22 => ?_)
                            · rw [if_pos c22] at h
                              refine mj_gcp hC 2 ?_
                              show P (190, [some (.ref 68), some (.int v1), some (.int 0), none], [.int (mj_I (m 68 75))], (110, x), (mj_up m 68 2 (.int 0)))
                              cases h
                              exact mj_pret hC rfl hR
                            · rw [if_neg c22] at h
                              show P (191, [some (.ref 68), some (.int v1), some (.int 0), none], [], (110, x), (mj_up m 68 2 (.int 0)))
                              refine mj_gcp hC 1 ?_
                              show P (192, [some (.ref 68), some (.int v1), some (.int 0), none], [.int (-1)], (110, x), (mj_up m 68 2 (.int 0)))
                              cases h
                              exact mj_pret hC rfl hR
set_option maxRecDepth 20000 in
theorem md_count_x {Ls tp ip x d : Nat} {Z : mj_X} (hd : 2 ≤ d) {v1 : Int32} {m : mj_M} {r : (Int32 × mj_M)} (h : md_count v1 m = some r) : mj_Ex false (mj_sh Ls) (mj_rf tp ip) Z d 276 [.ref 68, .int v1] (110, x) m (some (.int r.1)) (110, x) r.2 := by
  exact mj_Ex_of (cd := mj_cd_276) (L := [some (.ref 68), some (.int v1), none, none]) (by omega) (by decide) rfl (Nat.le_of_ble_eq_true rfl) rfl (fun P hC => md_count_p hC (by omega) h ⟨rfl, rfl, rfl⟩)
def ma_abs  (v0 : Int32) (m : mj_M) : Int32 :=
  (if 0 ≤ v0 then v0 else
  (0 - v0))
set_option maxRecDepth 20000 in
theorem ma_abs_p {Ls tp ip x d : Nat} {Z : mj_X} {R : Option Value → mj_G → mj_M → Prop} {P : mj_K → Prop} (hC : mj_cls false (mj_sh Ls) (mj_rf tp ip) mj_dv mj_cd_277 (mj_Ex false (mj_sh Ls) (mj_rf tp ip) Z d) R P) (hd : 0 ≤ d) {v0 : Int32} {m : mj_M} (hR : R (some (.int (ma_abs v0 m))) (110, x) m) : P (0, [some (.int v0)], [], (110, x), m) := by
  unfold ma_abs at hR
  refine mj_gcp hC 2 ?_
  show P (mj_pick 9 4 (0 ≤ v0), [some (.int v0)], [], (110, x), m)
  refine mj_pbr (fun c1 => ?_) (fun c1 => ?_)
  · rw [if_pos c1] at hR
    refine mj_gcp hC 1 ?_
    show P (10, [some (.int v0)], [.int v0], (110, x), m)
    exact mj_pret hC rfl hR
  · rw [if_neg c1] at hR
    refine mj_gcp hC 3 ?_
    show P (10, [some (.int v0)], [.int (0 - v0)], (110, x), m)
    exact mj_pret hC rfl hR
set_option maxRecDepth 20000 in
theorem ma_abs_x {Ls tp ip x d : Nat} {Z : mj_X} (hd : 1 ≤ d) {v0 : Int32} {m : mj_M}  : mj_Ex false (mj_sh Ls) (mj_rf tp ip) Z d 277 [.int v0] (110, x) m (some (.int (ma_abs v0 m))) (110, x) m := by
  exact mj_Ex_of (cd := mj_cd_277) (L := [some (.int v0)]) (by omega) (by decide) rfl (Nat.le_of_ble_eq_true rfl) rfl (fun P hC => ma_abs_p hC (by omega) ⟨rfl, rfl, rfl⟩)
def ma_absJ  (v0 : Int64) (m : mj_M) : Int64 :=
  (if 0 ≤ (lg_cmp v0 0) then v0 else
  (0 - v0))
set_option maxRecDepth 20000 in
theorem ma_absJ_p {Ls tp ip x d : Nat} {Z : mj_X} {R : Option Value → mj_G → mj_M → Prop} {P : mj_K → Prop} (hC : mj_cls false (mj_sh Ls) (mj_rf tp ip) mj_dv mj_cd_278 (mj_Ex false (mj_sh Ls) (mj_rf tp ip) Z d) R P) (hd : 0 ≤ d) {v0 : Int64} {m : mj_M} (hR : R (some (.long (ma_absJ v0 m))) (110, x) m) : P (0, [some (.long v0), none], [], (110, x), m) := by
  unfold ma_absJ at hR
  refine mj_gcp hC 4 ?_
  show P (mj_pick 11 6 (0 ≤ (lg_cmp v0 0)), [some (.long v0), none], [], (110, x), m)
  refine mj_pbr (fun c1 => ?_) (fun c1 => ?_)
  · rw [if_pos c1] at hR
    refine mj_gcp hC 1 ?_
    show P (12, [some (.long v0), none], [.long v0], (110, x), m)
    exact mj_pret hC rfl hR
  · rw [if_neg c1] at hR
    refine mj_gcp hC 3 ?_
    show P (12, [some (.long v0), none], [.long (0 - v0)], (110, x), m)
    exact mj_pret hC rfl hR
set_option maxRecDepth 20000 in
theorem ma_absJ_x {Ls tp ip x d : Nat} {Z : mj_X} (hd : 1 ≤ d) {v0 : Int64} {m : mj_M}  : mj_Ex false (mj_sh Ls) (mj_rf tp ip) Z d 278 [.long v0] (110, x) m (some (.long (ma_absJ v0 m))) (110, x) m := by
  exact mj_Ex_of (cd := mj_cd_278) (L := [some (.long v0), none]) (by omega) (by decide) rfl (Nat.le_of_ble_eq_true rfl) rfl (fun P hC => ma_absJ_p hC (by omega) ⟨rfl, rfl, rfl⟩)
def ma_max  (v0 : Int32) (v1 : Int32) (m : mj_M) : Int32 :=
  (if v0 < v1 then v1 else
  v0)
set_option maxRecDepth 20000 in
theorem ma_max_p {Ls tp ip x d : Nat} {Z : mj_X} {R : Option Value → mj_G → mj_M → Prop} {P : mj_K → Prop} (hC : mj_cls false (mj_sh Ls) (mj_rf tp ip) mj_dv mj_cd_279 (mj_Ex false (mj_sh Ls) (mj_rf tp ip) Z d) R P) (hd : 0 ≤ d) {v0 : Int32} {v1 : Int32} {m : mj_M} (hR : R (some (.int (ma_max v0 v1 m))) (110, x) m) : P (0, [some (.int v0), some (.int v1)], [], (110, x), m) := by
  unfold ma_max at hR
  refine mj_gcp hC 3 ?_
  show P (mj_pick 9 5 (v0 < v1), [some (.int v0), some (.int v1)], [], (110, x), m)
  refine mj_pbr (fun c1 => ?_) (fun c1 => ?_)
  · rw [if_pos c1] at hR
    refine mj_gcp hC 1 ?_
    show P (10, [some (.int v0), some (.int v1)], [.int v1], (110, x), m)
    exact mj_pret hC rfl hR
  · rw [if_neg c1] at hR
    refine mj_gcp hC 2 ?_
    show P (10, [some (.int v0), some (.int v1)], [.int v0], (110, x), m)
    exact mj_pret hC rfl hR
set_option maxRecDepth 20000 in
theorem ma_max_x {Ls tp ip x d : Nat} {Z : mj_X} (hd : 1 ≤ d) {v0 : Int32} {v1 : Int32} {m : mj_M}  : mj_Ex false (mj_sh Ls) (mj_rf tp ip) Z d 279 [.int v0, .int v1] (110, x) m (some (.int (ma_max v0 v1 m))) (110, x) m := by
  exact mj_Ex_of (cd := mj_cd_279) (L := [some (.int v0), some (.int v1)]) (by omega) (by decide) rfl (Nat.le_of_ble_eq_true rfl) rfl (fun P hC => ma_max_p hC (by omega) ⟨rfl, rfl, rfl⟩)
def ma_maxJ  (v0 : Int64) (v2 : Int64) (m : mj_M) : Int64 :=
  (if (lg_cmp v0 v2) < 0 then v2 else
  v0)
set_option maxRecDepth 20000 in
theorem ma_maxJ_p {Ls tp ip x d : Nat} {Z : mj_X} {R : Option Value → mj_G → mj_M → Prop} {P : mj_K → Prop} (hC : mj_cls false (mj_sh Ls) (mj_rf tp ip) mj_dv mj_cd_280 (mj_Ex false (mj_sh Ls) (mj_rf tp ip) Z d) R P) (hd : 0 ≤ d) {v0 : Int64} {v2 : Int64} {m : mj_M} (hR : R (some (.long (ma_maxJ v0 v2 m))) (110, x) m) : P (0, [some (.long v0), none, some (.long v2), none], [], (110, x), m) := by
  unfold ma_maxJ at hR
  refine mj_gcp hC 4 ?_
  show P (mj_pick 10 6 ((lg_cmp v0 v2) < 0), [some (.long v0), none, some (.long v2), none], [], (110, x), m)
  refine mj_pbr (fun c1 => ?_) (fun c1 => ?_)
  · rw [if_pos c1] at hR
    refine mj_gcp hC 1 ?_
    show P (11, [some (.long v0), none, some (.long v2), none], [.long v2], (110, x), m)
    exact mj_pret hC rfl hR
  · rw [if_neg c1] at hR
    refine mj_gcp hC 2 ?_
    show P (11, [some (.long v0), none, some (.long v2), none], [.long v0], (110, x), m)
    exact mj_pret hC rfl hR
set_option maxRecDepth 20000 in
theorem ma_maxJ_x {Ls tp ip x d : Nat} {Z : mj_X} (hd : 1 ≤ d) {v0 : Int64} {v2 : Int64} {m : mj_M}  : mj_Ex false (mj_sh Ls) (mj_rf tp ip) Z d 280 [.long v0, .long v2] (110, x) m (some (.long (ma_maxJ v0 v2 m))) (110, x) m := by
  exact mj_Ex_of (cd := mj_cd_280) (L := [some (.long v0), none, some (.long v2), none]) (by omega) (by decide) rfl (Nat.le_of_ble_eq_true rfl) rfl (fun P hC => ma_maxJ_p hC (by omega) ⟨rfl, rfl, rfl⟩)
def ma_min  (v0 : Int32) (v1 : Int32) (m : mj_M) : Int32 :=
  (if v1 < v0 then v1 else
  v0)
set_option maxRecDepth 20000 in
theorem ma_min_p {Ls tp ip x d : Nat} {Z : mj_X} {R : Option Value → mj_G → mj_M → Prop} {P : mj_K → Prop} (hC : mj_cls false (mj_sh Ls) (mj_rf tp ip) mj_dv mj_cd_281 (mj_Ex false (mj_sh Ls) (mj_rf tp ip) Z d) R P) (hd : 0 ≤ d) {v0 : Int32} {v1 : Int32} {m : mj_M} (hR : R (some (.int (ma_min v0 v1 m))) (110, x) m) : P (0, [some (.int v0), some (.int v1)], [], (110, x), m) := by
  unfold ma_min at hR
  refine mj_gcp hC 3 ?_
  show P (mj_pick 9 5 (v1 < v0), [some (.int v0), some (.int v1)], [], (110, x), m)
  refine mj_pbr (fun c1 => ?_) (fun c1 => ?_)
  · rw [if_pos c1] at hR
    refine mj_gcp hC 1 ?_
    show P (10, [some (.int v0), some (.int v1)], [.int v1], (110, x), m)
    exact mj_pret hC rfl hR
  · rw [if_neg c1] at hR
    refine mj_gcp hC 2 ?_
    show P (10, [some (.int v0), some (.int v1)], [.int v0], (110, x), m)
    exact mj_pret hC rfl hR
set_option maxRecDepth 20000 in
theorem ma_min_x {Ls tp ip x d : Nat} {Z : mj_X} (hd : 1 ≤ d) {v0 : Int32} {v1 : Int32} {m : mj_M}  : mj_Ex false (mj_sh Ls) (mj_rf tp ip) Z d 281 [.int v0, .int v1] (110, x) m (some (.int (ma_min v0 v1 m))) (110, x) m := by
  exact mj_Ex_of (cd := mj_cd_281) (L := [some (.int v0), some (.int v1)]) (by omega) (by decide) rfl (Nat.le_of_ble_eq_true rfl) rfl (fun P hC => ma_min_p hC (by omega) ⟨rfl, rfl, rfl⟩)
def ma_minJ  (v0 : Int64) (v2 : Int64) (m : mj_M) : Int64 :=
  (if 0 < (lg_cmp v0 v2) then v2 else
  v0)
set_option maxRecDepth 20000 in
theorem ma_minJ_p {Ls tp ip x d : Nat} {Z : mj_X} {R : Option Value → mj_G → mj_M → Prop} {P : mj_K → Prop} (hC : mj_cls false (mj_sh Ls) (mj_rf tp ip) mj_dv mj_cd_282 (mj_Ex false (mj_sh Ls) (mj_rf tp ip) Z d) R P) (hd : 0 ≤ d) {v0 : Int64} {v2 : Int64} {m : mj_M} (hR : R (some (.long (ma_minJ v0 v2 m))) (110, x) m) : P (0, [some (.long v0), none, some (.long v2), none], [], (110, x), m) := by
  unfold ma_minJ at hR
  refine mj_gcp hC 4 ?_
  show P (mj_pick 10 6 (0 < (lg_cmp v0 v2)), [some (.long v0), none, some (.long v2), none], [], (110, x), m)
  refine mj_pbr (fun c1 => ?_) (fun c1 => ?_)
  · rw [if_pos c1] at hR
    refine mj_gcp hC 1 ?_
    show P (11, [some (.long v0), none, some (.long v2), none], [.long v2], (110, x), m)
    exact mj_pret hC rfl hR
  · rw [if_neg c1] at hR
    refine mj_gcp hC 2 ?_
    show P (11, [some (.long v0), none, some (.long v2), none], [.long v0], (110, x), m)
    exact mj_pret hC rfl hR
set_option maxRecDepth 20000 in
theorem ma_minJ_x {Ls tp ip x d : Nat} {Z : mj_X} (hd : 1 ≤ d) {v0 : Int64} {v2 : Int64} {m : mj_M}  : mj_Ex false (mj_sh Ls) (mj_rf tp ip) Z d 282 [.long v0, .long v2] (110, x) m (some (.long (ma_minJ v0 v2 m))) (110, x) m := by
  exact mj_Ex_of (cd := mj_cd_282) (L := [some (.long v0), none, some (.long v2), none]) (by omega) (by decide) rfl (Nat.le_of_ble_eq_true rfl) rfl (fun P hC => ma_minJ_p hC (by omega) ⟨rfl, rfl, rfl⟩)
def ig_numberOfTrailingZeros_j74  (v0 : Int32) (v1 : Int32)  (m : mj_M) : Int32 :=
  (v1 + (((v0 : Int32).toUInt32 >>> ((1 : Int32).toUInt32 &&& Int32.toUInt32 31)).toInt32))
def ig_numberOfTrailingZeros_j62  (v0 : Int32) (v1 : Int32)  (m : mj_M) : Int32 :=
  (if v0 ≤ 4 then ig_numberOfTrailingZeros_j74 v0 v1 m else
  ig_numberOfTrailingZeros_j74 (((v0 : Int32).toUInt32 >>> ((2 : Int32).toUInt32 &&& Int32.toUInt32 31)).toInt32) (v1 + 2) m)
def ig_numberOfTrailingZeros_j49  (v0 : Int32) (v1 : Int32)  (m : mj_M) : Int32 :=
  (if v0 ≤ 16 then ig_numberOfTrailingZeros_j62 v0 v1 m else
  ig_numberOfTrailingZeros_j62 (((v0 : Int32).toUInt32 >>> ((4 : Int32).toUInt32 &&& Int32.toUInt32 31)).toInt32) (v1 + 4) m)
def ig_numberOfTrailingZeros_j34  (v0 : Int32) (v1 : Int32)  (m : mj_M) : Int32 :=
  (if v0 ≤ 256 then ig_numberOfTrailingZeros_j49 v0 v1 m else
  ig_numberOfTrailingZeros_j49 (((v0 : Int32).toUInt32 >>> ((8 : Int32).toUInt32 &&& Int32.toUInt32 31)).toInt32) (v1 + 8) m)
def ig_numberOfTrailingZeros  (v0 : Int32) (m : mj_M) : Int32 :=
  (if 0 < ((v0 ^^^ (-1)) &&& (v0 - 1)) then (if ((v0 ^^^ (-1)) &&& (v0 - 1)) ≤ 65536 then ig_numberOfTrailingZeros_j34 ((v0 ^^^ (-1)) &&& (v0 - 1)) 1 m else
  ig_numberOfTrailingZeros_j34 (((((v0 ^^^ (-1)) &&& (v0 - 1)) : Int32).toUInt32 >>> ((16 : Int32).toUInt32 &&& Int32.toUInt32 31)).toInt32) (1 + 16) m) else
  (((v0 ^^^ (-1)) &&& (v0 - 1)) &&& 32))
set_option maxRecDepth 20000 in
theorem ig_numberOfTrailingZeros_j74_x {Ls tp ip x d : Nat} {Z : mj_X} {R : Option Value → mj_G → mj_M → Prop} {P : mj_K → Prop} (hC : mj_cls false (mj_sh Ls) (mj_rf tp ip) mj_dv mj_cd_283 (mj_Ex false (mj_sh Ls) (mj_rf tp ip) Z d) R P) (hd : 0 ≤ d) {v0 : Int32} {v1 : Int32}  {m : mj_M} (hR : R (some (.int (ig_numberOfTrailingZeros_j74 v0 v1 m))) (110, x) m) : P (74, [some (.int v0), some (.int v1)], [], (110, x), m) := by
  unfold ig_numberOfTrailingZeros_j74 at hR
  refine mj_gcp hC 5 ?_
  show P (79, [some (.int v0), some (.int v1)], [.int (v1 + (((v0 : Int32).toUInt32 >>> ((1 : Int32).toUInt32 &&& Int32.toUInt32 31)).toInt32))], (110, x), m)
  exact mj_pret hC rfl hR
set_option maxRecDepth 20000 in
theorem ig_numberOfTrailingZeros_j62_x {Ls tp ip x d : Nat} {Z : mj_X} {R : Option Value → mj_G → mj_M → Prop} {P : mj_K → Prop} (hC : mj_cls false (mj_sh Ls) (mj_rf tp ip) mj_dv mj_cd_283 (mj_Ex false (mj_sh Ls) (mj_rf tp ip) Z d) R P) (hd : 0 ≤ d) {v0 : Int32} {v1 : Int32}  {m : mj_M} (hR : R (some (.int (ig_numberOfTrailingZeros_j62 v0 v1 m))) (110, x) m) : P (62, [some (.int v0), some (.int v1)], [], (110, x), m) := by
  unfold ig_numberOfTrailingZeros_j62 at hR
  refine mj_gcp hC 3 ?_
  show P (mj_pick 74 67 (v0 ≤ 4), [some (.int v0), some (.int v1)], [], (110, x), m)
  refine mj_pbr (fun c5 => ?_) (fun c5 => ?_)
  · rw [if_pos c5] at hR
    exact mj_less hC (L0 := [some (.int v0), some (.int v1)]) (And.intro rfl (And.intro rfl trivial)) (ig_numberOfTrailingZeros_j74_x hC hd hR)
  · rw [if_neg c5] at hR
    refine mj_gcp hC 5 ?_
    show P (74, [some (.int (((v0 : Int32).toUInt32 >>> ((2 : Int32).toUInt32 &&& Int32.toUInt32 31)).toInt32)), some (.int (v1 + 2))], [], (110, x), m)
    exact mj_less hC (L0 := [some (.int (((v0 : Int32).toUInt32 >>> ((2 : Int32).toUInt32 &&& Int32.toUInt32 31)).toInt32)), some (.int (v1 + 2))]) (And.intro rfl (And.intro rfl trivial)) (ig_numberOfTrailingZeros_j74_x hC hd hR)
set_option maxRecDepth 20000 in
theorem ig_numberOfTrailingZeros_j49_x {Ls tp ip x d : Nat} {Z : mj_X} {R : Option Value → mj_G → mj_M → Prop} {P : mj_K → Prop} (hC : mj_cls false (mj_sh Ls) (mj_rf tp ip) mj_dv mj_cd_283 (mj_Ex false (mj_sh Ls) (mj_rf tp ip) Z d) R P) (hd : 0 ≤ d) {v0 : Int32} {v1 : Int32}  {m : mj_M} (hR : R (some (.int (ig_numberOfTrailingZeros_j49 v0 v1 m))) (110, x) m) : P (49, [some (.int v0), some (.int v1)], [], (110, x), m) := by
  unfold ig_numberOfTrailingZeros_j49 at hR
  refine mj_gcp hC 3 ?_
  show P (mj_pick 62 55 (v0 ≤ 16), [some (.int v0), some (.int v1)], [], (110, x), m)
  refine mj_pbr (fun c4 => ?_) (fun c4 => ?_)
  · rw [if_pos c4] at hR
    exact mj_less hC (L0 := [some (.int v0), some (.int v1)]) (And.intro rfl (And.intro rfl trivial)) (ig_numberOfTrailingZeros_j62_x hC hd hR)
  · rw [if_neg c4] at hR
    refine mj_gcp hC 5 ?_
    show P (62, [some (.int (((v0 : Int32).toUInt32 >>> ((4 : Int32).toUInt32 &&& Int32.toUInt32 31)).toInt32)), some (.int (v1 + 4))], [], (110, x), m)
    exact mj_less hC (L0 := [some (.int (((v0 : Int32).toUInt32 >>> ((4 : Int32).toUInt32 &&& Int32.toUInt32 31)).toInt32)), some (.int (v1 + 4))]) (And.intro rfl (And.intro rfl trivial)) (ig_numberOfTrailingZeros_j62_x hC hd hR)
set_option maxRecDepth 20000 in
theorem ig_numberOfTrailingZeros_j34_x {Ls tp ip x d : Nat} {Z : mj_X} {R : Option Value → mj_G → mj_M → Prop} {P : mj_K → Prop} (hC : mj_cls false (mj_sh Ls) (mj_rf tp ip) mj_dv mj_cd_283 (mj_Ex false (mj_sh Ls) (mj_rf tp ip) Z d) R P) (hd : 0 ≤ d) {v0 : Int32} {v1 : Int32}  {m : mj_M} (hR : R (some (.int (ig_numberOfTrailingZeros_j34 v0 v1 m))) (110, x) m) : P (34, [some (.int v0), some (.int v1)], [], (110, x), m) := by
  unfold ig_numberOfTrailingZeros_j34 at hR
  refine mj_gcp hC 3 ?_
  show P (mj_pick 49 41 (v0 ≤ 256), [some (.int v0), some (.int v1)], [], (110, x), m)
  refine mj_pbr (fun c3 => ?_) (fun c3 => ?_)
  · rw [if_pos c3] at hR
    exact mj_less hC (L0 := [some (.int v0), some (.int v1)]) (And.intro rfl (And.intro rfl trivial)) (ig_numberOfTrailingZeros_j49_x hC hd hR)
  · rw [if_neg c3] at hR
    refine mj_gcp hC 5 ?_
    show P (49, [some (.int (((v0 : Int32).toUInt32 >>> ((8 : Int32).toUInt32 &&& Int32.toUInt32 31)).toInt32)), some (.int (v1 + 8))], [], (110, x), m)
    exact mj_less hC (L0 := [some (.int (((v0 : Int32).toUInt32 >>> ((8 : Int32).toUInt32 &&& Int32.toUInt32 31)).toInt32)), some (.int (v1 + 8))]) (And.intro rfl (And.intro rfl trivial)) (ig_numberOfTrailingZeros_j49_x hC hd hR)
set_option maxRecDepth 20000 in
theorem ig_numberOfTrailingZeros_p {Ls tp ip x d : Nat} {Z : mj_X} {R : Option Value → mj_G → mj_M → Prop} {P : mj_K → Prop} (hC : mj_cls false (mj_sh Ls) (mj_rf tp ip) mj_dv mj_cd_283 (mj_Ex false (mj_sh Ls) (mj_rf tp ip) Z d) R P) (hd : 0 ≤ d) {v0 : Int32} {m : mj_M} (hR : R (some (.int (ig_numberOfTrailingZeros v0 m))) (110, x) m) : P (0, [some (.int v0), none], [], (110, x), m) := by
  unfold ig_numberOfTrailingZeros at hR
  refine mj_gcp hC 10 ?_
  show P (mj_pick 17 12 (0 < ((v0 ^^^ (-1)) &&& (v0 - 1))), [some (.int ((v0 ^^^ (-1)) &&& (v0 - 1))), none], [], (110, x), m)
  refine mj_pbr (fun c1 => ?_) (fun c1 => ?_)
  · rw [if_pos c1] at hR
    refine mj_gcp hC 5 ?_
    show P (mj_pick 34 26 (((v0 ^^^ (-1)) &&& (v0 - 1)) ≤ 65536), [some (.int ((v0 ^^^ (-1)) &&& (v0 - 1))), some (.int 1)], [], (110, x), m)
    refine mj_pbr (fun c2 => ?_) (fun c2 => ?_)
    · rw [if_pos c2] at hR
      exact mj_less hC (L0 := [some (.int ((v0 ^^^ (-1)) &&& (v0 - 1))), some (.int 1)]) (And.intro rfl (And.intro rfl trivial)) (ig_numberOfTrailingZeros_j34_x hC hd hR)
    · rw [if_neg c2] at hR
      refine mj_gcp hC 5 ?_
      show P (34, [some (.int (((((v0 ^^^ (-1)) &&& (v0 - 1)) : Int32).toUInt32 >>> ((16 : Int32).toUInt32 &&& Int32.toUInt32 31)).toInt32)), some (.int (1 + 16))], [], (110, x), m)
      exact mj_less hC (L0 := [some (.int (((((v0 ^^^ (-1)) &&& (v0 - 1)) : Int32).toUInt32 >>> ((16 : Int32).toUInt32 &&& Int32.toUInt32 31)).toInt32)), some (.int (1 + 16))]) (And.intro rfl (And.intro rfl trivial)) (ig_numberOfTrailingZeros_j34_x hC hd hR)
  · rw [if_neg c1] at hR
    refine mj_gcp hC 3 ?_
    show P (16, [some (.int ((v0 ^^^ (-1)) &&& (v0 - 1))), none], [.int (((v0 ^^^ (-1)) &&& (v0 - 1)) &&& 32)], (110, x), m)
    exact mj_pret hC rfl hR
set_option maxRecDepth 20000 in
theorem ig_numberOfTrailingZeros_x {Ls tp ip x d : Nat} {Z : mj_X} (hd : 1 ≤ d) {v0 : Int32} {m : mj_M}  : mj_Ex false (mj_sh Ls) (mj_rf tp ip) Z d 283 [.int v0] (110, x) m (some (.int (ig_numberOfTrailingZeros v0 m))) (110, x) m := by
  exact mj_Ex_of (cd := mj_cd_283) (L := [some (.int v0), none]) (by omega) (by decide) rfl (Nat.le_of_ble_eq_true rfl) rfl (fun P hC => ig_numberOfTrailingZeros_p hC (by omega) ⟨rfl, rfl, rfl⟩)
def ig_bitCount  (v0 : Int32) (m : mj_M) : Int32 :=
  ((((((((v0 - ((((v0 : Int32).toUInt32 >>> ((1 : Int32).toUInt32 &&& Int32.toUInt32 31)).toInt32) &&& 1431655765)) &&& 858993459) + (((((v0 - ((((v0 : Int32).toUInt32 >>> ((1 : Int32).toUInt32 &&& Int32.toUInt32 31)).toInt32) &&& 1431655765)) : Int32).toUInt32 >>> ((2 : Int32).toUInt32 &&& Int32.toUInt32 31)).toInt32) &&& 858993459)) + ((((((v0 - ((((v0 : Int32).toUInt32 >>> ((1 : Int32).toUInt32 &&& Int32.toUInt32 31)).toInt32) &&& 1431655765)) &&& 858993459) + (((((v0 - ((((v0 : Int32).toUInt32 >>> ((1 : Int32).toUInt32 &&& Int32.toUInt32 31)).toInt32) &&& 1431655765)) : Int32).toUInt32 >>> ((2 : Int32).toUInt32 &&& Int32.toUInt32 31)).toInt32) &&& 858993459)) : Int32).toUInt32 >>> ((4 : Int32).toUInt32 &&& Int32.toUInt32 31)).toInt32)) &&& 252645135) + ((((((((v0 - ((((v0 : Int32).toUInt32 >>> ((1 : Int32).toUInt32 &&& Int32.toUInt32 31)).toInt32) &&& 1431655765)) &&& 858993459) + (((((v0 - ((((v0 : Int32).toUInt32 >>> ((1 : Int32).toUInt32 &&& Int32.toUInt32 31)).toInt32) &&& 1431655765)) : Int32).toUInt32 >>> ((2 : Int32).toUInt32 &&& Int32.toUInt32 31)).toInt32) &&& 858993459)) + ((((((v0 - ((((v0 : Int32).toUInt32 >>> ((1 : Int32).toUInt32 &&& Int32.toUInt32 31)).toInt32) &&& 1431655765)) &&& 858993459) + (((((v0 - ((((v0 : Int32).toUInt32 >>> ((1 : Int32).toUInt32 &&& Int32.toUInt32 31)).toInt32) &&& 1431655765)) : Int32).toUInt32 >>> ((2 : Int32).toUInt32 &&& Int32.toUInt32 31)).toInt32) &&& 858993459)) : Int32).toUInt32 >>> ((4 : Int32).toUInt32 &&& Int32.toUInt32 31)).toInt32)) &&& 252645135) : Int32).toUInt32 >>> ((8 : Int32).toUInt32 &&& Int32.toUInt32 31)).toInt32)) + (((((((((v0 - ((((v0 : Int32).toUInt32 >>> ((1 : Int32).toUInt32 &&& Int32.toUInt32 31)).toInt32) &&& 1431655765)) &&& 858993459) + (((((v0 - ((((v0 : Int32).toUInt32 >>> ((1 : Int32).toUInt32 &&& Int32.toUInt32 31)).toInt32) &&& 1431655765)) : Int32).toUInt32 >>> ((2 : Int32).toUInt32 &&& Int32.toUInt32 31)).toInt32) &&& 858993459)) + ((((((v0 - ((((v0 : Int32).toUInt32 >>> ((1 : Int32).toUInt32 &&& Int32.toUInt32 31)).toInt32) &&& 1431655765)) &&& 858993459) + (((((v0 - ((((v0 : Int32).toUInt32 >>> ((1 : Int32).toUInt32 &&& Int32.toUInt32 31)).toInt32) &&& 1431655765)) : Int32).toUInt32 >>> ((2 : Int32).toUInt32 &&& Int32.toUInt32 31)).toInt32) &&& 858993459)) : Int32).toUInt32 >>> ((4 : Int32).toUInt32 &&& Int32.toUInt32 31)).toInt32)) &&& 252645135) + ((((((((v0 - ((((v0 : Int32).toUInt32 >>> ((1 : Int32).toUInt32 &&& Int32.toUInt32 31)).toInt32) &&& 1431655765)) &&& 858993459) + (((((v0 - ((((v0 : Int32).toUInt32 >>> ((1 : Int32).toUInt32 &&& Int32.toUInt32 31)).toInt32) &&& 1431655765)) : Int32).toUInt32 >>> ((2 : Int32).toUInt32 &&& Int32.toUInt32 31)).toInt32) &&& 858993459)) + ((((((v0 - ((((v0 : Int32).toUInt32 >>> ((1 : Int32).toUInt32 &&& Int32.toUInt32 31)).toInt32) &&& 1431655765)) &&& 858993459) + (((((v0 - ((((v0 : Int32).toUInt32 >>> ((1 : Int32).toUInt32 &&& Int32.toUInt32 31)).toInt32) &&& 1431655765)) : Int32).toUInt32 >>> ((2 : Int32).toUInt32 &&& Int32.toUInt32 31)).toInt32) &&& 858993459)) : Int32).toUInt32 >>> ((4 : Int32).toUInt32 &&& Int32.toUInt32 31)).toInt32)) &&& 252645135) : Int32).toUInt32 >>> ((8 : Int32).toUInt32 &&& Int32.toUInt32 31)).toInt32)) : Int32).toUInt32 >>> ((16 : Int32).toUInt32 &&& Int32.toUInt32 31)).toInt32)) &&& 63)
set_option maxRecDepth 20000 in
theorem ig_bitCount_p {Ls tp ip x d : Nat} {Z : mj_X} {R : Option Value → mj_G → mj_M → Prop} {P : mj_K → Prop} (hC : mj_cls false (mj_sh Ls) (mj_rf tp ip) mj_dv mj_cd_284 (mj_Ex false (mj_sh Ls) (mj_rf tp ip) Z d) R P) (hd : 0 ≤ d) {v0 : Int32} {m : mj_M} (hR : R (some (.int (ig_bitCount v0 m))) (110, x) m) : P (0, [some (.int v0)], [], (110, x), m) := by
  unfold ig_bitCount at hR
  refine mj_gcp hC 41 ?_
  show P (52, [some (.int (((((((v0 - ((((v0 : Int32).toUInt32 >>> ((1 : Int32).toUInt32 &&& Int32.toUInt32 31)).toInt32) &&& 1431655765)) &&& 858993459) + (((((v0 - ((((v0 : Int32).toUInt32 >>> ((1 : Int32).toUInt32 &&& Int32.toUInt32 31)).toInt32) &&& 1431655765)) : Int32).toUInt32 >>> ((2 : Int32).toUInt32 &&& Int32.toUInt32 31)).toInt32) &&& 858993459)) + ((((((v0 - ((((v0 : Int32).toUInt32 >>> ((1 : Int32).toUInt32 &&& Int32.toUInt32 31)).toInt32) &&& 1431655765)) &&& 858993459) + (((((v0 - ((((v0 : Int32).toUInt32 >>> ((1 : Int32).toUInt32 &&& Int32.toUInt32 31)).toInt32) &&& 1431655765)) : Int32).toUInt32 >>> ((2 : Int32).toUInt32 &&& Int32.toUInt32 31)).toInt32) &&& 858993459)) : Int32).toUInt32 >>> ((4 : Int32).toUInt32 &&& Int32.toUInt32 31)).toInt32)) &&& 252645135) + ((((((((v0 - ((((v0 : Int32).toUInt32 >>> ((1 : Int32).toUInt32 &&& Int32.toUInt32 31)).toInt32) &&& 1431655765)) &&& 858993459) + (((((v0 - ((((v0 : Int32).toUInt32 >>> ((1 : Int32).toUInt32 &&& Int32.toUInt32 31)).toInt32) &&& 1431655765)) : Int32).toUInt32 >>> ((2 : Int32).toUInt32 &&& Int32.toUInt32 31)).toInt32) &&& 858993459)) + ((((((v0 - ((((v0 : Int32).toUInt32 >>> ((1 : Int32).toUInt32 &&& Int32.toUInt32 31)).toInt32) &&& 1431655765)) &&& 858993459) + (((((v0 - ((((v0 : Int32).toUInt32 >>> ((1 : Int32).toUInt32 &&& Int32.toUInt32 31)).toInt32) &&& 1431655765)) : Int32).toUInt32 >>> ((2 : Int32).toUInt32 &&& Int32.toUInt32 31)).toInt32) &&& 858993459)) : Int32).toUInt32 >>> ((4 : Int32).toUInt32 &&& Int32.toUInt32 31)).toInt32)) &&& 252645135) : Int32).toUInt32 >>> ((8 : Int32).toUInt32 &&& Int32.toUInt32 31)).toInt32)) + (((((((((v0 - ((((v0 : Int32).toUInt32 >>> ((1 : Int32).toUInt32 &&& Int32.toUInt32 31)).toInt32) &&& 1431655765)) &&& 858993459) + (((((v0 - ((((v0 : Int32).toUInt32 >>> ((1 : Int32).toUInt32 &&& Int32.toUInt32 31)).toInt32) &&& 1431655765)) : Int32).toUInt32 >>> ((2 : Int32).toUInt32 &&& Int32.toUInt32 31)).toInt32) &&& 858993459)) + ((((((v0 - ((((v0 : Int32).toUInt32 >>> ((1 : Int32).toUInt32 &&& Int32.toUInt32 31)).toInt32) &&& 1431655765)) &&& 858993459) + (((((v0 - ((((v0 : Int32).toUInt32 >>> ((1 : Int32).toUInt32 &&& Int32.toUInt32 31)).toInt32) &&& 1431655765)) : Int32).toUInt32 >>> ((2 : Int32).toUInt32 &&& Int32.toUInt32 31)).toInt32) &&& 858993459)) : Int32).toUInt32 >>> ((4 : Int32).toUInt32 &&& Int32.toUInt32 31)).toInt32)) &&& 252645135) + ((((((((v0 - ((((v0 : Int32).toUInt32 >>> ((1 : Int32).toUInt32 &&& Int32.toUInt32 31)).toInt32) &&& 1431655765)) &&& 858993459) + (((((v0 - ((((v0 : Int32).toUInt32 >>> ((1 : Int32).toUInt32 &&& Int32.toUInt32 31)).toInt32) &&& 1431655765)) : Int32).toUInt32 >>> ((2 : Int32).toUInt32 &&& Int32.toUInt32 31)).toInt32) &&& 858993459)) + ((((((v0 - ((((v0 : Int32).toUInt32 >>> ((1 : Int32).toUInt32 &&& Int32.toUInt32 31)).toInt32) &&& 1431655765)) &&& 858993459) + (((((v0 - ((((v0 : Int32).toUInt32 >>> ((1 : Int32).toUInt32 &&& Int32.toUInt32 31)).toInt32) &&& 1431655765)) : Int32).toUInt32 >>> ((2 : Int32).toUInt32 &&& Int32.toUInt32 31)).toInt32) &&& 858993459)) : Int32).toUInt32 >>> ((4 : Int32).toUInt32 &&& Int32.toUInt32 31)).toInt32)) &&& 252645135) : Int32).toUInt32 >>> ((8 : Int32).toUInt32 &&& Int32.toUInt32 31)).toInt32)) : Int32).toUInt32 >>> ((16 : Int32).toUInt32 &&& Int32.toUInt32 31)).toInt32)))], [.int ((((((((v0 - ((((v0 : Int32).toUInt32 >>> ((1 : Int32).toUInt32 &&& Int32.toUInt32 31)).toInt32) &&& 1431655765)) &&& 858993459) + (((((v0 - ((((v0 : Int32).toUInt32 >>> ((1 : Int32).toUInt32 &&& Int32.toUInt32 31)).toInt32) &&& 1431655765)) : Int32).toUInt32 >>> ((2 : Int32).toUInt32 &&& Int32.toUInt32 31)).toInt32) &&& 858993459)) + ((((((v0 - ((((v0 : Int32).toUInt32 >>> ((1 : Int32).toUInt32 &&& Int32.toUInt32 31)).toInt32) &&& 1431655765)) &&& 858993459) + (((((v0 - ((((v0 : Int32).toUInt32 >>> ((1 : Int32).toUInt32 &&& Int32.toUInt32 31)).toInt32) &&& 1431655765)) : Int32).toUInt32 >>> ((2 : Int32).toUInt32 &&& Int32.toUInt32 31)).toInt32) &&& 858993459)) : Int32).toUInt32 >>> ((4 : Int32).toUInt32 &&& Int32.toUInt32 31)).toInt32)) &&& 252645135) + ((((((((v0 - ((((v0 : Int32).toUInt32 >>> ((1 : Int32).toUInt32 &&& Int32.toUInt32 31)).toInt32) &&& 1431655765)) &&& 858993459) + (((((v0 - ((((v0 : Int32).toUInt32 >>> ((1 : Int32).toUInt32 &&& Int32.toUInt32 31)).toInt32) &&& 1431655765)) : Int32).toUInt32 >>> ((2 : Int32).toUInt32 &&& Int32.toUInt32 31)).toInt32) &&& 858993459)) + ((((((v0 - ((((v0 : Int32).toUInt32 >>> ((1 : Int32).toUInt32 &&& Int32.toUInt32 31)).toInt32) &&& 1431655765)) &&& 858993459) + (((((v0 - ((((v0 : Int32).toUInt32 >>> ((1 : Int32).toUInt32 &&& Int32.toUInt32 31)).toInt32) &&& 1431655765)) : Int32).toUInt32 >>> ((2 : Int32).toUInt32 &&& Int32.toUInt32 31)).toInt32) &&& 858993459)) : Int32).toUInt32 >>> ((4 : Int32).toUInt32 &&& Int32.toUInt32 31)).toInt32)) &&& 252645135) : Int32).toUInt32 >>> ((8 : Int32).toUInt32 &&& Int32.toUInt32 31)).toInt32)) + (((((((((v0 - ((((v0 : Int32).toUInt32 >>> ((1 : Int32).toUInt32 &&& Int32.toUInt32 31)).toInt32) &&& 1431655765)) &&& 858993459) + (((((v0 - ((((v0 : Int32).toUInt32 >>> ((1 : Int32).toUInt32 &&& Int32.toUInt32 31)).toInt32) &&& 1431655765)) : Int32).toUInt32 >>> ((2 : Int32).toUInt32 &&& Int32.toUInt32 31)).toInt32) &&& 858993459)) + ((((((v0 - ((((v0 : Int32).toUInt32 >>> ((1 : Int32).toUInt32 &&& Int32.toUInt32 31)).toInt32) &&& 1431655765)) &&& 858993459) + (((((v0 - ((((v0 : Int32).toUInt32 >>> ((1 : Int32).toUInt32 &&& Int32.toUInt32 31)).toInt32) &&& 1431655765)) : Int32).toUInt32 >>> ((2 : Int32).toUInt32 &&& Int32.toUInt32 31)).toInt32) &&& 858993459)) : Int32).toUInt32 >>> ((4 : Int32).toUInt32 &&& Int32.toUInt32 31)).toInt32)) &&& 252645135) + ((((((((v0 - ((((v0 : Int32).toUInt32 >>> ((1 : Int32).toUInt32 &&& Int32.toUInt32 31)).toInt32) &&& 1431655765)) &&& 858993459) + (((((v0 - ((((v0 : Int32).toUInt32 >>> ((1 : Int32).toUInt32 &&& Int32.toUInt32 31)).toInt32) &&& 1431655765)) : Int32).toUInt32 >>> ((2 : Int32).toUInt32 &&& Int32.toUInt32 31)).toInt32) &&& 858993459)) + ((((((v0 - ((((v0 : Int32).toUInt32 >>> ((1 : Int32).toUInt32 &&& Int32.toUInt32 31)).toInt32) &&& 1431655765)) &&& 858993459) + (((((v0 - ((((v0 : Int32).toUInt32 >>> ((1 : Int32).toUInt32 &&& Int32.toUInt32 31)).toInt32) &&& 1431655765)) : Int32).toUInt32 >>> ((2 : Int32).toUInt32 &&& Int32.toUInt32 31)).toInt32) &&& 858993459)) : Int32).toUInt32 >>> ((4 : Int32).toUInt32 &&& Int32.toUInt32 31)).toInt32)) &&& 252645135) : Int32).toUInt32 >>> ((8 : Int32).toUInt32 &&& Int32.toUInt32 31)).toInt32)) : Int32).toUInt32 >>> ((16 : Int32).toUInt32 &&& Int32.toUInt32 31)).toInt32)) &&& 63)], (110, x), m)
  exact mj_pret hC rfl hR
set_option maxRecDepth 20000 in
theorem ig_bitCount_x {Ls tp ip x d : Nat} {Z : mj_X} (hd : 1 ≤ d) {v0 : Int32} {m : mj_M}  : mj_Ex false (mj_sh Ls) (mj_rf tp ip) Z d 284 [.int v0] (110, x) m (some (.int (ig_bitCount v0 m))) (110, x) m := by
  exact mj_Ex_of (cd := mj_cd_284) (L := [some (.int v0)]) (by omega) (by decide) rfl (Nat.le_of_ble_eq_true rfl) rfl (fun P hC => ig_bitCount_p hC (by omega) ⟨rfl, rfl, rfl⟩)
def bp_feed  (v1 : Int32) (v2 : Int32) (v3 : Int32) (v4 : Int32) (v5 : Int32) (m : mj_M) : Option (Int32 × mj_M) :=
  (if ((mj_I (m 1 1)) + 20) ≤ 700 then (bp_feedFour v1 m).bind fun q2 =>
  (bp_feedFour v2 q2).bind fun q3 =>
  (bp_feedFour v3 q3).bind fun q4 =>
  (bp_feedFour v4 q4).bind fun q5 =>
  (bp_feedFour v5 q5).bind fun q6 =>
  some ((mj_I (q6 1 1)), q6) else
  some ((-1), m))
set_option maxRecDepth 20000 in
theorem bp_feed_p {Ls tp ip x d : Nat} {Z : mj_X} {R : Option Value → mj_G → mj_M → Prop} {P : mj_K → Prop} (hC : mj_cls false (mj_sh Ls) (mj_rf tp ip) mj_dv mj_cd_1 (mj_Ex false (mj_sh Ls) (mj_rf tp ip) Z d) R P) (hd : 2 ≤ d) {v1 : Int32} {v2 : Int32} {v3 : Int32} {v4 : Int32} {v5 : Int32} {m : mj_M} {r : (Int32 × mj_M)} (h : bp_feed v1 v2 v3 v4 v5 m = some r) (hR : R (some (.int r.1)) (110, x) r.2) : P (0, [some (.ref 1), some (.int v1), some (.int v2), some (.int v3), some (.int v4), some (.int v5)], [], (110, x), m) := by
  unfold bp_feed at h
  refine mj_gcp hC 6 ?_
  show P (mj_pick 15 13 (((mj_I (m 1 1)) + 20) ≤ 700), [some (.ref 1), some (.int v1), some (.int v2), some (.int v3), some (.int v4), some (.int v5)], [], (110, x), m)
  refine mj_pbr (fun c1 => ?_) (fun c1 => ?_)
  · rw [if_pos c1] at h
    refine mj_gcp hC 2 ?_
    show P (17, [some (.ref 1), some (.int v1), some (.int v2), some (.int v3), some (.int v4), some (.int v5)], [.int v1, .ref 1], (110, x), m)
    obtain ⟨q2, eq2, h⟩ := mj_bnd h
    refine mj_pcall hC rfl (bp_feedFour_x (Nat.le_trans (by decide) hd) eq2) ?_
    show P (20, [some (.ref 1), some (.int v1), some (.int v2), some (.int v3), some (.int v4), some (.int v5)], [], (110, x), q2)
    refine mj_gcp hC 2 ?_
    show P (22, [some (.ref 1), some (.int v1), some (.int v2), some (.int v3), some (.int v4), some (.int v5)], [.int v2, .ref 1], (110, x), q2)
    obtain ⟨q3, eq3, h⟩ := mj_bnd h
    refine mj_pcall hC rfl (bp_feedFour_x (Nat.le_trans (by decide) hd) eq3) ?_
    show P (25, [some (.ref 1), some (.int v1), some (.int v2), some (.int v3), some (.int v4), some (.int v5)], [], (110, x), q3)
    refine mj_gcp hC 2 ?_
    show P (27, [some (.ref 1), some (.int v1), some (.int v2), some (.int v3), some (.int v4), some (.int v5)], [.int v3, .ref 1], (110, x), q3)
    obtain ⟨q4, eq4, h⟩ := mj_bnd h
    refine mj_pcall hC rfl (bp_feedFour_x (Nat.le_trans (by decide) hd) eq4) ?_
    show P (30, [some (.ref 1), some (.int v1), some (.int v2), some (.int v3), some (.int v4), some (.int v5)], [], (110, x), q4)
    refine mj_gcp hC 2 ?_
    show P (33, [some (.ref 1), some (.int v1), some (.int v2), some (.int v3), some (.int v4), some (.int v5)], [.int v4, .ref 1], (110, x), q4)
    obtain ⟨q5, eq5, h⟩ := mj_bnd h
    refine mj_pcall hC rfl (bp_feedFour_x (Nat.le_trans (by decide) hd) eq5) ?_
    show P (36, [some (.ref 1), some (.int v1), some (.int v2), some (.int v3), some (.int v4), some (.int v5)], [], (110, x), q5)
    refine mj_gcp hC 2 ?_
    show P (39, [some (.ref 1), some (.int v1), some (.int v2), some (.int v3), some (.int v4), some (.int v5)], [.int v5, .ref 1], (110, x), q5)
    obtain ⟨q6, eq6, h⟩ := mj_bnd h
    refine mj_pcall hC rfl (bp_feedFour_x (Nat.le_trans (by decide) hd) eq6) ?_
    show P (42, [some (.ref 1), some (.int v1), some (.int v2), some (.int v3), some (.int v4), some (.int v5)], [], (110, x), q6)
    refine mj_gcp hC 2 ?_
    show P (46, [some (.ref 1), some (.int v1), some (.int v2), some (.int v3), some (.int v4), some (.int v5)], [.int (mj_I (q6 1 1))], (110, x), q6)
    cases h
    exact mj_pret hC rfl hR
  · rw [if_neg c1] at h
    refine mj_gcp hC 1 ?_
    show P (14, [some (.ref 1), some (.int v1), some (.int v2), some (.int v3), some (.int v4), some (.int v5)], [.int (-1)], (110, x), m)
    cases h
    exact mj_pret hC rfl hR
set_option maxRecDepth 20000 in
theorem bp_feed_x {Ls tp ip x d : Nat} {Z : mj_X} (hd : 3 ≤ d) {v1 : Int32} {v2 : Int32} {v3 : Int32} {v4 : Int32} {v5 : Int32} {m : mj_M} {r : (Int32 × mj_M)} (h : bp_feed v1 v2 v3 v4 v5 m = some r) : mj_Ex false (mj_sh Ls) (mj_rf tp ip) Z d 1 [.ref 1, .int v1, .int v2, .int v3, .int v4, .int v5] (110, x) m (some (.int r.1)) (110, x) r.2 := by
  exact mj_Ex_of (cd := mj_cd_1) (L := [some (.ref 1), some (.int v1), some (.int v2), some (.int v3), some (.int v4), some (.int v5)]) (by omega) (by decide) rfl (Nat.le_of_ble_eq_true rfl) rfl (fun P hC => bp_feed_p hC (by omega) h ⟨rfl, rfl, rfl⟩)
def bp_doneOf_j44l4 (tp : Nat)  (v1 : Int32) (v2 : Int32) (v3 : Int32)  (m : mj_M) : Option (Nat × (Int32 × Int32)) :=
  some (0, (v2, (v3 + 1)))
def bp_doneOf_l4 (tp : Nat) (v1 : Int32) (m : mj_M) (s4 : (Int32 × Int32)) : Option (Nat × (Int32 × Int32)) :=
  (if (mj_I (m tp 5)) ≤ s4.2 then some (1, (s4.1, s4.2)) else
  (if (fx_at m (tp + 6) s4.2) = v1 then (if (sa_isDone 42 s4.2 m) = 0 then bp_doneOf_j44l4 tp v1 s4.1 s4.2 m else
  bp_doneOf_j44l4 tp v1 (s4.1 + 1) s4.2 m) else
  bp_doneOf_j44l4 tp v1 s4.1 s4.2 m))
def bp_doneOf (tp : Nat) (v1 : Int32) (m : mj_M) : Option Int32 :=
  (mj_loop (bp_doneOf_l4 tp v1 m) mj_F (0, 0)).bind fun q4 =>
  some q4.2.1
set_option maxRecDepth 20000 in
theorem bp_doneOf_j44l4_x {Ls tp ip x d : Nat} {Z : mj_X} {R : Option Value → mj_G → mj_M → Prop} {P : mj_K → Prop} (hC : mj_cls false (mj_sh Ls) (mj_rf tp ip) mj_dv mj_cd_7 (mj_Ex false (mj_sh Ls) (mj_rf tp ip) Z d) R P) (hd : 2 ≤ d) (htp : tp = 3 ∨ tp = 17)  {v1 : Int32} {v2 : Int32} {v3 : Int32}  {m : mj_M} {t : Nat} {w : (Int32 × Int32)} (h : bp_doneOf_j44l4 tp  v1 v2 v3 m = some (t, w)) (h0 : t = 0 → P (4, [some (.ref 1), some (.int v1), some (.int w.1), some (.int w.2)], [], (110, x), m)) (h1 : t = 1 → P (50, [none, none, some (.int w.1), none], [], (110, x), m)) : P (44, [some (.ref 1), some (.int v1), some (.int v2), some (.int v3)], [], (110, x), m) := by
  unfold bp_doneOf_j44l4 at h
  rcases htp with rfl | rfl
  all_goals
    refine mj_gcp hC 2 ?_
    show P (4, [some (.ref 1), some (.int v1), some (.int v2), some (.int (v3 + 1))], [], (110, x), m)
    cases h
    exact mj_less hC (L0 := [some (.ref 1), some (.int v1), some (.int v2), some (.int (v3 + 1))]) (And.intro rfl (And.intro rfl (And.intro rfl (And.intro rfl trivial)))) (h0 rfl)
set_option maxRecDepth 20000 in
theorem bp_doneOf_l4_x {Ls tp ip x d : Nat} {Z : mj_X} {R : Option Value → mj_G → mj_M → Prop} {P : mj_K → Prop} (hC : mj_cls false (mj_sh Ls) (mj_rf tp ip) mj_dv mj_cd_7 (mj_Ex false (mj_sh Ls) (mj_rf tp ip) Z d) R P) (hd : 2 ≤ d) (htp : tp = 3 ∨ tp = 17) {v1 : Int32} {m : mj_M} (s4 : (Int32 × Int32)) {t : Nat} {w : (Int32 × Int32)} (h : bp_doneOf_l4 tp v1 m s4 = some (t, w)) (h0 : t = 0 → P (4, [some (.ref 1), some (.int v1), some (.int w.1), some (.int w.2)], [], (110, x), m)) (h1 : t = 1 → P (50, [none, none, some (.int w.1), none], [], (110, x), m)) : P (4, [some (.ref 1), some (.int v1), some (.int s4.1), some (.int s4.2)], [], (110, x), m) := by
  unfold bp_doneOf_l4 at h
  rcases htp with rfl | rfl
  all_goals
    refine mj_gcp hC 5 ?_
    show P (mj_pick 50 15 ((mj_I (m _ 5)) ≤ s4.2), [some (.ref 1), some (.int v1), some (.int s4.1), some (.int s4.2)], [], (110, x), m)
    refine mj_pbr (fun c1 => ?_) (fun c1 => ?_)
    · rw [if_pos c1] at h
      cases h
      exact mj_less hC (L0 := [none, none, some (.int s4.1), none]) (And.intro rfl trivial) (h1 rfl)
    · rw [if_neg c1] at h
      refine mj_gcp hC 4 ?_
      show P (23, [some (.ref 1), some (.int v1), some (.int s4.1), some (.int s4.2)], [.int s4.2, .ref _], (110, x), m)
      refine mj_pcall hC rfl (bp_at_x (Nat.le_trans (by decide) hd) (by decide)) ?_
      show P (26, [some (.ref 1), some (.int v1), some (.int s4.1), some (.int s4.2)], [.int (fx_at m _ s4.2)], (110, x), m)
      refine mj_gcp hC 2 ?_
      show P (mj_pick 30 44 ((fx_at m _ s4.2) = v1), [some (.ref 1), some (.int v1), some (.int s4.1), some (.int s4.2)], [], (110, x), m)
      refine mj_pbr (fun c2 => ?_) (fun c2 => ?_)
      · rw [if_pos c2] at h
        refine mj_gcp hC 3 ?_
        show P (35, [some (.ref 1), some (.int v1), some (.int s4.1), some (.int s4.2)], [.int s4.2, .ref 42], (110, x), m)
        refine mj_pcall hC rfl (sa_isDone_x (Nat.le_trans (by decide) hd) (by decide)) ?_
        show P (38, [some (.ref 1), some (.int v1), some (.int s4.1), some (.int s4.2)], [.int (sa_isDone 42 s4.2 m)], (110, x), m)
        refine mj_gcp hC 1 ?_
        show P (mj_pick 44 41 ((sa_isDone 42 s4.2 m) = 0), [some (.ref 1), some (.int v1), some (.int s4.1), some (.int s4.2)], [], (110, x), m)
        refine mj_pbr (fun c3 => ?_) (fun c3 => ?_)
        · rw [if_pos c3] at h
          exact mj_less hC (L0 := [some (.ref 1), some (.int v1), some (.int s4.1), some (.int s4.2)]) (And.intro rfl (And.intro rfl (And.intro rfl (And.intro rfl trivial)))) (bp_doneOf_j44l4_x hC hd (by decide) h h0 h1)
        · rw [if_neg c3] at h
          refine mj_gcp hC 1 ?_
          show P (44, [some (.ref 1), some (.int v1), some (.int (s4.1 + 1)), some (.int s4.2)], [], (110, x), m)
          exact mj_less hC (L0 := [some (.ref 1), some (.int v1), some (.int (s4.1 + 1)), some (.int s4.2)]) (And.intro rfl (And.intro rfl (And.intro rfl (And.intro rfl trivial)))) (bp_doneOf_j44l4_x hC hd (by decide) h h0 h1)
      · rw [if_neg c2] at h
        exact mj_less hC (L0 := [some (.ref 1), some (.int v1), some (.int s4.1), some (.int s4.2)]) (And.intro rfl (And.intro rfl (And.intro rfl (And.intro rfl trivial)))) (bp_doneOf_j44l4_x hC hd (by decide) h h0 h1)
set_option maxRecDepth 20000 in
theorem bp_doneOf_p {Ls tp ip x d : Nat} {Z : mj_X} {R : Option Value → mj_G → mj_M → Prop} {P : mj_K → Prop} (hC : mj_cls false (mj_sh Ls) (mj_rf tp ip) mj_dv mj_cd_7 (mj_Ex false (mj_sh Ls) (mj_rf tp ip) Z d) R P) (hd : 2 ≤ d) (htp : tp = 3 ∨ tp = 17) {v1 : Int32} {m : mj_M} {r : Int32} (h : bp_doneOf tp v1 m = some r) (hR : R (some (.int r)) (110, x) m) : P (0, [some (.ref 1), some (.int v1), none, none], [], (110, x), m) := by
  unfold bp_doneOf at h
  rcases htp with rfl | rfl
  all_goals
    refine mj_gcp hC 4 ?_
    show P (4, [some (.ref 1), some (.int v1), some (.int 0), some (.int 0)], [], (110, x), m)
    obtain ⟨q4, eq4, h⟩ := mj_bnd h
    refine mj_less hC (L0 := [some (.ref 1), some (.int v1), some (.int 0), some (.int 0)]) (And.intro rfl (And.intro rfl (And.intro rfl (And.intro rfl trivial)))) ?_
    refine mj_loop_P (A := fun z4 => P (4, [some (.ref 1), some (.int v1), some (.int z4.1), some (.int z4.2)], [], (110, x), m)) (E := fun _ z4 => P (50, [none, none, some (.int z4.1), none], [], (110, x), m)) (fun zz t w hb h0 h1 => bp_doneOf_l4_x hC hd (by decide) zz hb h0 (fun ht => h1 0 ht)) mj_F _ q4 eq4 ?_
    refine mj_gcp hC 1 ?_
    show P (51, [none, none, some (.int q4.2.1), none], [.int q4.2.1], (110, x), m)
    cases h
    exact mj_pret hC rfl hR
set_option maxRecDepth 20000 in
theorem bp_doneOf_x {Ls tp ip x d : Nat} {Z : mj_X} (hd : 3 ≤ d) (htp : tp = 3 ∨ tp = 17) {v1 : Int32} {m : mj_M} {r : Int32} (h : bp_doneOf tp v1 m = some r) : mj_Ex false (mj_sh Ls) (mj_rf tp ip) Z d 7 [.ref 1, .int v1] (110, x) m (some (.int r)) (110, x) m := by
  exact mj_Ex_of (cd := mj_cd_7) (L := [some (.ref 1), some (.int v1), none, none]) (by omega) (by decide) rfl (Nat.le_of_ble_eq_true rfl) rfl (fun P hC => bp_doneOf_p hC (by omega) htp h ⟨rfl, rfl, rfl⟩)
def bp_work (tp : Nat) (v1 : Int32) (v2 : Int32) (m : mj_M) : Int32 :=
  (if (to_isWork tp v1 m) = 0 then (-1) else
  (if v2 = 0 then (fx_at m (tp + 6) v1) else
  (if v2 = 1 then (fx_at m (tp + 7) v1) else
  (if v2 = 2 then (fx_at m (tp + 8) v1) else
  (if v2 = 3 then (fx_at m (tp + 9) v1) else
  (if v2 = 4 then (fx_at m 45 v1) else
  (if v2 = 5 then (fx_at m 46 v1) else
  (-1))))))))
set_option maxRecDepth 20000 in
theorem bp_work_p {Ls tp ip x d : Nat} {Z : mj_X} {R : Option Value → mj_G → mj_M → Prop} {P : mj_K → Prop} (hC : mj_cls false (mj_sh Ls) (mj_rf tp ip) mj_dv mj_cd_8 (mj_Ex false (mj_sh Ls) (mj_rf tp ip) Z d) R P) (hd : 1 ≤ d) (htp : tp = 3 ∨ tp = 17) {v1 : Int32} {v2 : Int32} {m : mj_M} (hR : R (some (.int (bp_work tp v1 v2 m))) (110, x) m) : P (0, [some (.ref 1), some (.int v1), some (.int v2)], [], (110, x), m) := by
  unfold bp_work at hR
  rcases htp with rfl | rfl
  all_goals
    refine mj_gcp hC 3 ?_
    show P (5, [some (.ref 1), some (.int v1), some (.int v2)], [.int v1, .ref _], (110, x), m)
    refine mj_pcall hC rfl (to_isWork_x (Nat.le_trans (by decide) hd) (by decide)) ?_
    show P (8, [some (.ref 1), some (.int v1), some (.int v2)], [.int (to_isWork _ v1 m)], (110, x), m)
    refine mj_gcp hC 1 ?_
    show P (mj_pick 11 13 ((to_isWork _ v1 m) = 0), [some (.ref 1), some (.int v1), some (.int v2)], [], (110, x), m)
    refine mj_pbr (fun c1 => ?_) (fun c1 => ?_)
    · rw [if_pos c1] at hR
      refine mj_gcp hC 1 ?_
      show P (12, [some (.ref 1), some (.int v1), some (.int v2)], [.int (-1)], (110, x), m)
      exact mj_pret hC rfl hR
    · rw [if_neg c1] at hR
      refine mj_gcp hC 2 ?_
      show P ((mj_sw v2 [(0, 52), (1, 64), (2, 76), (3, 88), (4, 100), (5, 112)] 124), [some (.ref 1), some (.int v1), some (.int v2)], [], (110, x), m)
      refine mj_psw (fun c2 => ?_) (fun c2 => ?_)
      · rw [if_pos c2] at hR
        refine mj_gcp hC 4 ?_
        show P (60, [some (.ref 1), some (.int v1), some (.int v2)], [.int v1, .ref _], (110, x), m)
        refine mj_pcall hC rfl (bp_at_x (Nat.le_trans (by decide) hd) (by decide)) ?_
        show P (63, [some (.ref 1), some (.int v1), some (.int v2)], [.int (fx_at m _ v1)], (110, x), m)
        exact mj_pret hC rfl hR
      · rw [if_neg c2] at hR
        refine mj_psw (fun c3 => ?_) (fun c3 => ?_)
        · rw [if_pos c3] at hR
          refine mj_gcp hC 4 ?_
          show P (72, [some (.ref 1), some (.int v1), some (.int v2)], [.int v1, .ref _], (110, x), m)
          refine mj_pcall hC rfl (bp_at_x (Nat.le_trans (by decide) hd) (by decide)) ?_
          show P (75, [some (.ref 1), some (.int v1), some (.int v2)], [.int (fx_at m _ v1)], (110, x), m)
          exact mj_pret hC rfl hR
        · rw [if_neg c3] at hR
          refine mj_psw (fun c4 => ?_) (fun c4 => ?_)
          · rw [if_pos c4] at hR
            refine mj_gcp hC 4 ?_
            show P (84, [some (.ref 1), some (.int v1), some (.int v2)], [.int v1, .ref _], (110, x), m)
            refine mj_pcall hC rfl (bp_at_x (Nat.le_trans (by decide) hd) (by decide)) ?_
            show P (87, [some (.ref 1), some (.int v1), some (.int v2)], [.int (fx_at m _ v1)], (110, x), m)
            exact mj_pret hC rfl hR
          · rw [if_neg c4] at hR
            refine mj_psw (fun c5 => ?_) (fun c5 => ?_)
            · rw [if_pos c5] at hR
              refine mj_gcp hC 4 ?_
              show P (96, [some (.ref 1), some (.int v1), some (.int v2)], [.int v1, .ref _], (110, x), m)
              refine mj_pcall hC rfl (bp_at_x (Nat.le_trans (by decide) hd) (by decide)) ?_
              show P (99, [some (.ref 1), some (.int v1), some (.int v2)], [.int (fx_at m _ v1)], (110, x), m)
              exact mj_pret hC rfl hR
            · rw [if_neg c5] at hR
              refine mj_psw (fun c6 => ?_) (fun c6 => ?_)
              · rw [if_pos c6] at hR
                refine mj_gcp hC 4 ?_
                show P (108, [some (.ref 1), some (.int v1), some (.int v2)], [.int v1, .ref 45], (110, x), m)
                refine mj_pcall hC rfl (bp_at_x (Nat.le_trans (by decide) hd) (by decide)) ?_
                show P (111, [some (.ref 1), some (.int v1), some (.int v2)], [.int (fx_at m 45 v1)], (110, x), m)
                exact mj_pret hC rfl hR
              · rw [if_neg c6] at hR
                refine mj_psw (fun c7 => ?_) (fun c7 => ?_)
                · rw [if_pos c7] at hR
                  refine mj_gcp hC 4 ?_
                  show P (120, [some (.ref 1), some (.int v1), some (.int v2)], [.int v1, .ref 46], (110, x), m)
                  refine mj_pcall hC rfl (bp_at_x (Nat.le_trans (by decide) hd) (by decide)) ?_
                  show P (123, [some (.ref 1), some (.int v1), some (.int v2)], [.int (fx_at m 46 v1)], (110, x), m)
                  exact mj_pret hC rfl hR
                · rw [if_neg c7] at hR
                  show P (124, [some (.ref 1), some (.int v1), some (.int v2)], [], (110, x), m)
                  refine mj_gcp hC 1 ?_
                  show P (125, [some (.ref 1), some (.int v1), some (.int v2)], [.int (-1)], (110, x), m)
                  exact mj_pret hC rfl hR
set_option maxRecDepth 20000 in
theorem bp_work_x {Ls tp ip x d : Nat} {Z : mj_X} (hd : 2 ≤ d) (htp : tp = 3 ∨ tp = 17) {v1 : Int32} {v2 : Int32} {m : mj_M}  : mj_Ex false (mj_sh Ls) (mj_rf tp ip) Z d 8 [.ref 1, .int v1, .int v2] (110, x) m (some (.int (bp_work tp v1 v2 m))) (110, x) m := by
  exact mj_Ex_of (cd := mj_cd_8) (L := [some (.ref 1), some (.int v1), some (.int v2)]) (by omega) (by decide) rfl (Nat.le_of_ble_eq_true rfl) rfl (fun P hC => bp_work_p hC (by omega) htp ⟨rfl, rfl, rfl⟩)
def bp_tie (tp : Nat) (v1 : Int32) (v2 : Int32) (m : mj_M) : Option Int32 :=
  (if (to_isMan tp v1 m) = 0 then some (-1) else
  (if (to_isMan tp v2 m) = 0 then some (-1) else
  (to_areTied tp v1 v2 m).bind fun q3 =>
  (if q3 = 0 then some 0 else
  some 1)))
set_option maxRecDepth 20000 in
theorem bp_tie_p {Ls tp ip x d : Nat} {Z : mj_X} {R : Option Value → mj_G → mj_M → Prop} {P : mj_K → Prop} (hC : mj_cls false (mj_sh Ls) (mj_rf tp ip) mj_dv mj_cd_9 (mj_Ex false (mj_sh Ls) (mj_rf tp ip) Z d) R P) (hd : 2 ≤ d) (htp : tp = 3 ∨ tp = 17) {v1 : Int32} {v2 : Int32} {m : mj_M} {r : Int32} (h : bp_tie tp v1 v2 m = some r) (hR : R (some (.int r)) (110, x) m) : P (0, [some (.ref 1), some (.int v1), some (.int v2)], [], (110, x), m) := by
  unfold bp_tie at h
  rcases htp with rfl | rfl
  all_goals
    refine mj_gcp hC 3 ?_
    show P (5, [some (.ref 1), some (.int v1), some (.int v2)], [.int v1, .ref _], (110, x), m)
    refine mj_pcall hC rfl (to_isMan_x (Nat.le_trans (by decide) hd) (by decide)) ?_
    show P (8, [some (.ref 1), some (.int v1), some (.int v2)], [.int (to_isMan _ v1 m)], (110, x), m)
    refine mj_gcp hC 1 ?_
    show P (mj_pick 22 11 ((to_isMan _ v1 m) = 0), [some (.ref 1), some (.int v1), some (.int v2)], [], (110, x), m)
    refine mj_pbr (fun c1 => ?_) (fun c1 => ?_)
    · rw [if_pos c1] at h
      refine mj_gcp hC 1 ?_
      show P (23, [some (.ref 1), some (.int v1), some (.int v2)], [.int (-1)], (110, x), m)
      cases h
      exact mj_pret hC rfl hR
    · rw [if_neg c1] at h
      refine mj_gcp hC 3 ?_
      show P (16, [some (.ref 1), some (.int v1), some (.int v2)], [.int v2, .ref _], (110, x), m)
      refine mj_pcall hC rfl (to_isMan_x (Nat.le_trans (by decide) hd) (by decide)) ?_
      show P (19, [some (.ref 1), some (.int v1), some (.int v2)], [.int (to_isMan _ v2 m)], (110, x), m)
      refine mj_gcp hC 1 ?_
      show P (mj_pick 22 24 ((to_isMan _ v2 m) = 0), [some (.ref 1), some (.int v1), some (.int v2)], [], (110, x), m)
      refine mj_pbr (fun c2 => ?_) (fun c2 => ?_)
      · rw [if_pos c2] at h
        refine mj_gcp hC 1 ?_
        show P (23, [some (.ref 1), some (.int v1), some (.int v2)], [.int (-1)], (110, x), m)
        cases h
        exact mj_pret hC rfl hR
      · rw [if_neg c2] at h
        refine mj_gcp hC 4 ?_
        show P (30, [some (.ref 1), some (.int v1), some (.int v2)], [.int v2, .int v1, .ref _], (110, x), m)
        obtain ⟨q3, eq3, h⟩ := mj_bnd h
        refine mj_pcall hC rfl (to_areTied_x (Nat.le_trans (by decide) hd) (by decide) eq3) ?_
        show P (33, [some (.ref 1), some (.int v1), some (.int v2)], [.int q3], (110, x), m)
        refine mj_gcp hC 1 ?_
        show P (mj_pick 40 36 (q3 = 0), [some (.ref 1), some (.int v1), some (.int v2)], [], (110, x), m)
        refine mj_pbr (fun c4 => ?_) (fun c4 => ?_)
        · rw [if_pos c4] at h
          refine mj_gcp hC 1 ?_
          show P (41, [some (.ref 1), some (.int v1), some (.int v2)], [.int 0], (110, x), m)
          cases h
          exact mj_pret hC rfl hR
        · rw [if_neg c4] at h
          refine mj_gcp hC 2 ?_
          show P (41, [some (.ref 1), some (.int v1), some (.int v2)], [.int 1], (110, x), m)
          cases h
          exact mj_pret hC rfl hR
set_option maxRecDepth 20000 in
theorem bp_tie_x {Ls tp ip x d : Nat} {Z : mj_X} (hd : 3 ≤ d) (htp : tp = 3 ∨ tp = 17) {v1 : Int32} {v2 : Int32} {m : mj_M} {r : Int32} (h : bp_tie tp v1 v2 m = some r) : mj_Ex false (mj_sh Ls) (mj_rf tp ip) Z d 9 [.ref 1, .int v1, .int v2] (110, x) m (some (.int r)) (110, x) m := by
  exact mj_Ex_of (cd := mj_cd_9) (L := [some (.ref 1), some (.int v1), some (.int v2)]) (by omega) (by decide) rfl (Nat.le_of_ble_eq_true rfl) rfl (fun P hC => bp_tie_p hC (by omega) htp h ⟨rfl, rfl, rfl⟩)
def bp_bars_j87l29 (tp : Nat)  (v1 : Int32) (v2 : Int32) (v3 : Int32)  (m : mj_M) : Option (Nat × (Int32 × Int32)) :=
  some (0, (v2, (v3 + 1)))
def bp_bars_j86l29 (tp : Nat)  (v1 : Int32) (v3 : Int32) (s0 : Int32) (m : mj_M) : Option (Nat × (Int32 × Int32)) :=
  bp_bars_j87l29 tp v1 s0 v3 m
def bp_bars_l29 (tp : Nat) (v1 : Int32) (m : mj_M) (s29 : (Int32 × Int32)) : Option (Nat × (Int32 × Int32)) :=
  (if (mj_I (m tp 5)) ≤ s29.2 then some (1, (s29.1, s29.2)) else
  (if (bp_has v1 s29.2 m) = 0 then bp_bars_j87l29 tp v1 s29.1 s29.2 m else
  (bp_gcd s29.1 (fx_at m (tp + 8) s29.2) m).bind fun q6 =>
  (if 1 ≤ q6 then (if (q6 : Int32) = 0 then none else
  bp_bars_j86l29 tp v1 s29.2 ((s29.1 / q6) * (fx_at m (tp + 8) s29.2)) m) else
  bp_bars_j86l29 tp v1 s29.2 s29.1 m)))
def bp_bars (tp : Nat) (v1 : Int32) (m : mj_M) : Option Int32 :=
  (if v1 < 0 then some (-1) else
  (if v1 < ((1 : Int32) <<< ((mj_I (m tp 5)) &&& 31)) then (if v1 = 0 then some 0 else
  (mj_loop (bp_bars_l29 tp v1 m) mj_F (1, 0)).bind fun q9 =>
  some q9.2.1) else
  some (-1)))
set_option maxRecDepth 20000 in
theorem bp_bars_j87l29_x {Ls tp ip x d : Nat} {Z : mj_X} {R : Option Value → mj_G → mj_M → Prop} {P : mj_K → Prop} (hC : mj_cls false (mj_sh Ls) (mj_rf tp ip) mj_dv mj_cd_23 (mj_Ex false (mj_sh Ls) (mj_rf tp ip) Z d) R P) (hd : 1 ≤ d) (htp : tp = 3 ∨ tp = 17)  {v1 : Int32} {v2 : Int32} {v3 : Int32}  {m : mj_M} {t : Nat} {w : (Int32 × Int32)} (h : bp_bars_j87l29 tp  v1 v2 v3 m = some (t, w)) (h0 : t = 0 → P (29, [some (.ref 1), some (.int v1), some (.int w.1), some (.int w.2), none, none], [], (110, x), m)) (h1 : t = 1 → P (93, [none, none, some (.int w.1), none, none, none], [], (110, x), m)) : P (87, [some (.ref 1), some (.int v1), some (.int v2), some (.int v3), none, none], [], (110, x), m) := by
  unfold bp_bars_j87l29 at h
  rcases htp with rfl | rfl
  all_goals
    refine mj_gcp hC 2 ?_
    show P (29, [some (.ref 1), some (.int v1), some (.int v2), some (.int (v3 + 1)), none, none], [], (110, x), m)
    cases h
    exact mj_less hC (L0 := [some (.ref 1), some (.int v1), some (.int v2), some (.int (v3 + 1)), none, none]) (And.intro rfl (And.intro rfl (And.intro rfl (And.intro rfl trivial)))) (h0 rfl)
set_option maxRecDepth 20000 in
theorem bp_bars_j86l29_x {Ls tp ip x d : Nat} {Z : mj_X} {R : Option Value → mj_G → mj_M → Prop} {P : mj_K → Prop} (hC : mj_cls false (mj_sh Ls) (mj_rf tp ip) mj_dv mj_cd_23 (mj_Ex false (mj_sh Ls) (mj_rf tp ip) Z d) R P) (hd : 1 ≤ d) (htp : tp = 3 ∨ tp = 17)  {v1 : Int32} {v3 : Int32} {s0 : Int32} {m : mj_M} {t : Nat} {w : (Int32 × Int32)} (h : bp_bars_j86l29 tp  v1 v3 s0 m = some (t, w)) (h0 : t = 0 → P (29, [some (.ref 1), some (.int v1), some (.int w.1), some (.int w.2), none, none], [], (110, x), m)) (h1 : t = 1 → P (93, [none, none, some (.int w.1), none, none, none], [], (110, x), m)) : P (86, [some (.ref 1), some (.int v1), none, some (.int v3), none, none], [.int s0], (110, x), m) := by
  unfold bp_bars_j86l29 at h
  rcases htp with rfl | rfl
  all_goals
    refine mj_gcp hC 1 ?_
    show P (87, [some (.ref 1), some (.int v1), some (.int s0), some (.int v3), none, none], [], (110, x), m)
    exact mj_less hC (L0 := [some (.ref 1), some (.int v1), some (.int s0), some (.int v3), none, none]) (And.intro rfl (And.intro rfl (And.intro rfl (And.intro rfl trivial)))) (bp_bars_j87l29_x hC hd (by decide) h h0 h1)
set_option maxRecDepth 20000 in
theorem bp_bars_l29_x {Ls tp ip x d : Nat} {Z : mj_X} {R : Option Value → mj_G → mj_M → Prop} {P : mj_K → Prop} (hC : mj_cls false (mj_sh Ls) (mj_rf tp ip) mj_dv mj_cd_23 (mj_Ex false (mj_sh Ls) (mj_rf tp ip) Z d) R P) (hd : 1 ≤ d) (htp : tp = 3 ∨ tp = 17) {v1 : Int32} {m : mj_M} (s29 : (Int32 × Int32)) {t : Nat} {w : (Int32 × Int32)} (h : bp_bars_l29 tp v1 m s29 = some (t, w)) (h0 : t = 0 → P (29, [some (.ref 1), some (.int v1), some (.int w.1), some (.int w.2), none, none], [], (110, x), m)) (h1 : t = 1 → P (93, [none, none, some (.int w.1), none, none, none], [], (110, x), m)) : P (29, [some (.ref 1), some (.int v1), some (.int s29.1), some (.int s29.2), none, none], [], (110, x), m) := by
  unfold bp_bars_l29 at h
  rcases htp with rfl | rfl
  all_goals
    refine mj_gcp hC 5 ?_
    show P (mj_pick 93 40 ((mj_I (m _ 5)) ≤ s29.2), [some (.ref 1), some (.int v1), some (.int s29.1), some (.int s29.2), none, none], [], (110, x), m)
    refine mj_pbr (fun c4 => ?_) (fun c4 => ?_)
    · rw [if_pos c4] at h
      cases h
      exact mj_less hC (L0 := [none, none, some (.int s29.1), none, none, none]) (And.intro rfl trivial) (h1 rfl)
    · rw [if_neg c4] at h
      refine mj_gcp hC 2 ?_
      show P (42, [some (.ref 1), some (.int v1), some (.int s29.1), some (.int s29.2), none, none], [.int s29.2, .int v1], (110, x), m)
      refine mj_pcall hC rfl (bp_has_x (Nat.le_trans (by decide) hd)) ?_
      show P (45, [some (.ref 1), some (.int v1), some (.int s29.1), some (.int s29.2), none, none], [.int (bp_has v1 s29.2 m)], (110, x), m)
      refine mj_gcp hC 1 ?_
      show P (mj_pick 87 48 ((bp_has v1 s29.2 m) = 0), [some (.ref 1), some (.int v1), some (.int s29.1), some (.int s29.2), none, none], [], (110, x), m)
      refine mj_pbr (fun c5 => ?_) (fun c5 => ?_)
      · rw [if_pos c5] at h
        exact mj_less hC (L0 := [some (.ref 1), some (.int v1), some (.int s29.1), some (.int s29.2), none, none]) (And.intro rfl (And.intro rfl (And.intro rfl (And.intro rfl trivial)))) (bp_bars_j87l29_x hC hd (by decide) h h0 h1)
      · rw [if_neg c5] at h
        refine mj_gcp hC 4 ?_
        show P (56, [some (.ref 1), some (.int v1), some (.int s29.1), some (.int s29.2), none, none], [.int s29.2, .ref _], (110, x), m)
        refine mj_pcall hC rfl (bp_at_x (Nat.le_trans (by decide) hd) (by decide)) ?_
        show P (59, [some (.ref 1), some (.int v1), some (.int s29.1), some (.int s29.2), none, none], [.int (fx_at m _ s29.2)], (110, x), m)
        refine mj_gcp hC 3 ?_
        show P (64, [some (.ref 1), some (.int v1), some (.int s29.1), some (.int s29.2), some (.int (fx_at m _ s29.2)), none], [.int (fx_at m _ s29.2), .int s29.1], (110, x), m)
        obtain ⟨q6, eq6, h⟩ := mj_bnd h
        refine mj_pcall hC rfl (bp_gcd_x (Nat.le_trans (by decide) hd) eq6) ?_
        show P (67, [some (.ref 1), some (.int v1), some (.int s29.1), some (.int s29.2), some (.int (fx_at m _ s29.2)), none], [.int q6], (110, x), m)
        refine mj_gcp hC 4 ?_
        show P (mj_pick 79 75 (1 ≤ q6), [some (.ref 1), some (.int v1), some (.int s29.1), some (.int s29.2), some (.int (fx_at m _ s29.2)), some (.int q6)], [], (110, x), m)
        refine mj_pbr (fun c7 => ?_) (fun c7 => ?_)
        · rw [if_pos c7] at h
          obtain ⟨k8, h⟩ := mj_ifn h
          refine mj_gcp hC 5 ?_
          show _ ∧ (P (86, [some (.ref 1), some (.int v1), some (.int s29.1), some (.int s29.2), some (.int (fx_at m _ s29.2)), some (.int q6)], [.int ((s29.1 / q6) * (fx_at m _ s29.2))], (110, x), m))
          refine And.intro k8 (?_)
          exact mj_less hC (L0 := [some (.ref 1), some (.int v1), none, some (.int s29.2), none, none]) (And.intro rfl (And.intro rfl (And.intro rfl trivial))) (bp_bars_j86l29_x hC hd (by decide) h h0 h1)
        · rw [if_neg c7] at h
          refine mj_gcp hC 2 ?_
          show P (86, [some (.ref 1), some (.int v1), some (.int s29.1), some (.int s29.2), some (.int (fx_at m _ s29.2)), some (.int q6)], [.int s29.1], (110, x), m)
          exact mj_less hC (L0 := [some (.ref 1), some (.int v1), none, some (.int s29.2), none, none]) (And.intro rfl (And.intro rfl (And.intro rfl trivial))) (bp_bars_j86l29_x hC hd (by decide) h h0 h1)
set_option maxRecDepth 20000 in
theorem bp_bars_p {Ls tp ip x d : Nat} {Z : mj_X} {R : Option Value → mj_G → mj_M → Prop} {P : mj_K → Prop} (hC : mj_cls false (mj_sh Ls) (mj_rf tp ip) mj_dv mj_cd_23 (mj_Ex false (mj_sh Ls) (mj_rf tp ip) Z d) R P) (hd : 1 ≤ d) (htp : tp = 3 ∨ tp = 17) {v1 : Int32} {m : mj_M} {r : Int32} (h : bp_bars tp v1 m = some r) (hR : R (some (.int r)) (110, x) m) : P (0, [some (.ref 1), some (.int v1), none, none, none, none], [], (110, x), m) := by
  unfold bp_bars at h
  rcases htp with rfl | rfl
  all_goals
    refine mj_gcp hC 2 ?_
    show P (mj_pick 17 4 (v1 < 0), [some (.ref 1), some (.int v1), none, none, none, none], [], (110, x), m)
    refine mj_pbr (fun c1 => ?_) (fun c1 => ?_)
    · rw [if_pos c1] at h
      refine mj_gcp hC 1 ?_
      show P (18, [some (.ref 1), some (.int v1), none, none, none, none], [.int (-1)], (110, x), m)
      cases h
      exact mj_pret hC rfl hR
    · rw [if_neg c1] at h
      refine mj_gcp hC 7 ?_
      show P (mj_pick 19 17 (v1 < ((1 : Int32) <<< ((mj_I (m _ 5)) &&& 31))), [some (.ref 1), some (.int v1), none, none, none, none], [], (110, x), m)
      refine mj_pbr (fun c2 => ?_) (fun c2 => ?_)
      · rw [if_pos c2] at h
        refine mj_gcp hC 2 ?_
        show P (mj_pick 23 25 (v1 = 0), [some (.ref 1), some (.int v1), none, none, none, none], [], (110, x), m)
        refine mj_pbr (fun c3 => ?_) (fun c3 => ?_)
        · rw [if_pos c3] at h
          refine mj_gcp hC 1 ?_
          show P (24, [some (.ref 1), some (.int v1), none, none, none, none], [.int 0], (110, x), m)
          cases h
          exact mj_pret hC rfl hR
        · rw [if_neg c3] at h
          refine mj_gcp hC 4 ?_
          show P (29, [some (.ref 1), some (.int v1), some (.int 1), some (.int 0), none, none], [], (110, x), m)
          obtain ⟨q9, eq9, h⟩ := mj_bnd h
          refine mj_less hC (L0 := [some (.ref 1), some (.int v1), some (.int 1), some (.int 0), none, none]) (And.intro rfl (And.intro rfl (And.intro rfl (And.intro rfl trivial)))) ?_
          refine mj_loop_P (A := fun z29 => P (29, [some (.ref 1), some (.int v1), some (.int z29.1), some (.int z29.2), none, none], [], (110, x), m)) (E := fun _ z29 => P (93, [none, none, some (.int z29.1), none, none, none], [], (110, x), m)) (fun zz t w hb h0 h1 => bp_bars_l29_x hC hd (by decide) zz hb h0 (fun ht => h1 0 ht)) mj_F _ q9 eq9 ?_
          refine mj_gcp hC 1 ?_
          show P (94, [none, none, some (.int q9.2.1), none, none, none], [.int q9.2.1], (110, x), m)
          cases h
          exact mj_pret hC rfl hR
      · rw [if_neg c2] at h
        refine mj_gcp hC 1 ?_
        show P (18, [some (.ref 1), some (.int v1), none, none, none, none], [.int (-1)], (110, x), m)
        cases h
        exact mj_pret hC rfl hR
set_option maxRecDepth 20000 in
theorem bp_bars_x {Ls tp ip x d : Nat} {Z : mj_X} (hd : 2 ≤ d) (htp : tp = 3 ∨ tp = 17) {v1 : Int32} {m : mj_M} {r : Int32} (h : bp_bars tp v1 m = some r) : mj_Ex false (mj_sh Ls) (mj_rf tp ip) Z d 23 [.ref 1, .int v1] (110, x) m (some (.int r)) (110, x) m := by
  exact mj_Ex_of (cd := mj_cd_23) (L := [some (.ref 1), some (.int v1), none, none, none, none]) (by omega) (by decide) rfl (Nat.le_of_ble_eq_true rfl) rfl (fun P hC => bp_bars_p hC (by omega) htp h ⟨rfl, rfl, rfl⟩)
def bp_loss_j59  (v1 : Int32) (v4 : Int32) (v5 : Int32) (s0 : Int32) (m : mj_M) : Int32 :=
  (if v1 = s0 then ((v4 + v5) + 0) else
  ((v4 + v5) + 1))
def bp_loss  (v0 : Int32) (v1 : Int32) (v2 : Int32) (m : mj_M) : Int32 :=
  (if (ma_abs (v0 - 40) m) ≤ (ma_abs (v0 - 80) m) then bp_loss_j59 v1 ((ma_max 0 (((40 : Int32) + ((20 : Int32) * (v1 + v2))) - v0) m) / 10) ((ma_max 0 ((v0 - 20) - ((40 : Int32) + ((20 : Int32) * (v1 + v2)))) m) / 10) 0 m else
  bp_loss_j59 v1 ((ma_max 0 (((40 : Int32) + ((20 : Int32) * (v1 + v2))) - v0) m) / 10) ((ma_max 0 ((v0 - 20) - ((40 : Int32) + ((20 : Int32) * (v1 + v2)))) m) / 10) 1 m)
set_option maxRecDepth 20000 in
theorem bp_loss_j59_x {Ls tp ip x d : Nat} {Z : mj_X} {R : Option Value → mj_G → mj_M → Prop} {P : mj_K → Prop} (hC : mj_cls false (mj_sh Ls) (mj_rf tp ip) mj_dv mj_cd_31 (mj_Ex false (mj_sh Ls) (mj_rf tp ip) Z d) R P) (hd : 1 ≤ d) {v1 : Int32} {v4 : Int32} {v5 : Int32} {s0 : Int32} {m : mj_M} (hR : R (some (.int (bp_loss_j59 v1 v4 v5 s0 m))) (110, x) m) : P (59, [none, some (.int v1), none, none, some (.int v4), some (.int v5), none], [.int s0], (110, x), m) := by
  unfold bp_loss_j59 at hR
  refine mj_gcp hC 7 ?_
  show P (mj_pick 72 76 (v1 = s0), [none, some (.int v1), none, none, some (.int v4), some (.int v5), some (.int s0)], [.int (v4 + v5)], (110, x), m)
  refine mj_pbr (fun c2 => ?_) (fun c2 => ?_)
  · rw [if_pos c2] at hR
    refine mj_gcp hC 2 ?_
    show P (77, [none, some (.int v1), none, none, some (.int v4), some (.int v5), some (.int s0)], [.int 0, .int (v4 + v5)], (110, x), m)
    refine mj_gcp hC 1 ?_
    show P (78, [none, some (.int v1), none, none, some (.int v4), some (.int v5), some (.int s0)], [.int ((v4 + v5) + 0)], (110, x), m)
    exact mj_pret hC rfl hR
  · rw [if_neg c2] at hR
    refine mj_gcp hC 1 ?_
    show P (77, [none, some (.int v1), none, none, some (.int v4), some (.int v5), some (.int s0)], [.int 1, .int (v4 + v5)], (110, x), m)
    refine mj_gcp hC 1 ?_
    show P (78, [none, some (.int v1), none, none, some (.int v4), some (.int v5), some (.int s0)], [.int ((v4 + v5) + 1)], (110, x), m)
    exact mj_pret hC rfl hR
set_option maxRecDepth 20000 in
theorem bp_loss_p {Ls tp ip x d : Nat} {Z : mj_X} {R : Option Value → mj_G → mj_M → Prop} {P : mj_K → Prop} (hC : mj_cls false (mj_sh Ls) (mj_rf tp ip) mj_dv mj_cd_31 (mj_Ex false (mj_sh Ls) (mj_rf tp ip) Z d) R P) (hd : 1 ≤ d) {v0 : Int32} {v1 : Int32} {v2 : Int32} {m : mj_M} (hR : R (some (.int (bp_loss v0 v1 v2 m))) (110, x) m) : P (0, [some (.int v0), some (.int v1), some (.int v2), none, none, none, none], [], (110, x), m) := by
  unfold bp_loss at hR
  refine mj_gcp hC 12 ?_
  show P (14, [some (.int v0), some (.int v1), some (.int v2), some (.int ((40 : Int32) + ((20 : Int32) * (v1 + v2)))), none, none, none], [.int (((40 : Int32) + ((20 : Int32) * (v1 + v2))) - v0), .int 0], (110, x), m)
  refine mj_pcall hC rfl (ma_max_x (Nat.le_trans (by decide) hd)) ?_
  show P (17, [some (.int v0), some (.int v1), some (.int v2), some (.int ((40 : Int32) + ((20 : Int32) * (v1 + v2)))), none, none, none], [.int (ma_max 0 (((40 : Int32) + ((20 : Int32) * (v1 + v2))) - v0) m)], (110, x), m)
  refine mj_gcp hC 9 ?_
  show _ ∧ (P (29, [some (.int v0), some (.int v1), some (.int v2), some (.int ((40 : Int32) + ((20 : Int32) * (v1 + v2)))), some (.int ((ma_max 0 (((40 : Int32) + ((20 : Int32) * (v1 + v2))) - v0) m) / 10)), none, none], [.int ((v0 - 20) - ((40 : Int32) + ((20 : Int32) * (v1 + v2)))), .int 0], (110, x), m))
  refine And.intro (show ¬ ((10 : Int32) = 0) by decide) (?_)
  refine mj_pcall hC rfl (ma_max_x (Nat.le_trans (by decide) hd)) ?_
  show P (32, [some (.int v0), some (.int v1), some (.int v2), some (.int ((40 : Int32) + ((20 : Int32) * (v1 + v2)))), some (.int ((ma_max 0 (((40 : Int32) + ((20 : Int32) * (v1 + v2))) - v0) m) / 10)), none, none], [.int (ma_max 0 ((v0 - 20) - ((40 : Int32) + ((20 : Int32) * (v1 + v2)))) m)], (110, x), m)
  refine mj_gcp hC 6 ?_
  show _ ∧ (P (41, [some (.int v0), some (.int v1), some (.int v2), some (.int ((40 : Int32) + ((20 : Int32) * (v1 + v2)))), some (.int ((ma_max 0 (((40 : Int32) + ((20 : Int32) * (v1 + v2))) - v0) m) / 10)), some (.int ((ma_max 0 ((v0 - 20) - ((40 : Int32) + ((20 : Int32) * (v1 + v2)))) m) / 10)), none], [.int (v0 - 80)], (110, x), m))
  refine And.intro (show ¬ ((10 : Int32) = 0) by decide) (?_)
  refine mj_pcall hC rfl (ma_abs_x (Nat.le_trans (by decide) hd)) ?_
  show P (44, [some (.int v0), some (.int v1), some (.int v2), some (.int ((40 : Int32) + ((20 : Int32) * (v1 + v2)))), some (.int ((ma_max 0 (((40 : Int32) + ((20 : Int32) * (v1 + v2))) - v0) m) / 10)), some (.int ((ma_max 0 ((v0 - 20) - ((40 : Int32) + ((20 : Int32) * (v1 + v2)))) m) / 10)), none], [.int (ma_abs (v0 - 80) m)], (110, x), m)
  refine mj_gcp hC 3 ?_
  show P (48, [some (.int v0), some (.int v1), some (.int v2), some (.int ((40 : Int32) + ((20 : Int32) * (v1 + v2)))), some (.int ((ma_max 0 (((40 : Int32) + ((20 : Int32) * (v1 + v2))) - v0) m) / 10)), some (.int ((ma_max 0 ((v0 - 20) - ((40 : Int32) + ((20 : Int32) * (v1 + v2)))) m) / 10)), none], [.int (v0 - 40), .int (ma_abs (v0 - 80) m)], (110, x), m)
  refine mj_pcall hC rfl (ma_abs_x (Nat.le_trans (by decide) hd)) ?_
  show P (51, [some (.int v0), some (.int v1), some (.int v2), some (.int ((40 : Int32) + ((20 : Int32) * (v1 + v2)))), some (.int ((ma_max 0 (((40 : Int32) + ((20 : Int32) * (v1 + v2))) - v0) m) / 10)), some (.int ((ma_max 0 ((v0 - 20) - ((40 : Int32) + ((20 : Int32) * (v1 + v2)))) m) / 10)), none], [.int (ma_abs (v0 - 40) m), .int (ma_abs (v0 - 80) m)], (110, x), m)
  refine mj_gcp hC 1 ?_
  show P (mj_pick 58 54 ((ma_abs (v0 - 40) m) ≤ (ma_abs (v0 - 80) m)), [some (.int v0), some (.int v1), some (.int v2), some (.int ((40 : Int32) + ((20 : Int32) * (v1 + v2)))), some (.int ((ma_max 0 (((40 : Int32) + ((20 : Int32) * (v1 + v2))) - v0) m) / 10)), some (.int ((ma_max 0 ((v0 - 20) - ((40 : Int32) + ((20 : Int32) * (v1 + v2)))) m) / 10)), none], [], (110, x), m)
  refine mj_pbr (fun c1 => ?_) (fun c1 => ?_)
  · rw [if_pos c1] at hR
    refine mj_gcp hC 1 ?_
    show P (59, [some (.int v0), some (.int v1), some (.int v2), some (.int ((40 : Int32) + ((20 : Int32) * (v1 + v2)))), some (.int ((ma_max 0 (((40 : Int32) + ((20 : Int32) * (v1 + v2))) - v0) m) / 10)), some (.int ((ma_max 0 ((v0 - 20) - ((40 : Int32) + ((20 : Int32) * (v1 + v2)))) m) / 10)), none], [.int 0], (110, x), m)
    exact mj_less hC (L0 := [none, some (.int v1), none, none, some (.int ((ma_max 0 (((40 : Int32) + ((20 : Int32) * (v1 + v2))) - v0) m) / 10)), some (.int ((ma_max 0 ((v0 - 20) - ((40 : Int32) + ((20 : Int32) * (v1 + v2)))) m) / 10)), none]) (And.intro rfl (And.intro rfl (And.intro rfl trivial))) (bp_loss_j59_x hC hd hR)
  · rw [if_neg c1] at hR
    refine mj_gcp hC 2 ?_
    show P (59, [some (.int v0), some (.int v1), some (.int v2), some (.int ((40 : Int32) + ((20 : Int32) * (v1 + v2)))), some (.int ((ma_max 0 (((40 : Int32) + ((20 : Int32) * (v1 + v2))) - v0) m) / 10)), some (.int ((ma_max 0 ((v0 - 20) - ((40 : Int32) + ((20 : Int32) * (v1 + v2)))) m) / 10)), none], [.int 1], (110, x), m)
    exact mj_less hC (L0 := [none, some (.int v1), none, none, some (.int ((ma_max 0 (((40 : Int32) + ((20 : Int32) * (v1 + v2))) - v0) m) / 10)), some (.int ((ma_max 0 ((v0 - 20) - ((40 : Int32) + ((20 : Int32) * (v1 + v2)))) m) / 10)), none]) (And.intro rfl (And.intro rfl (And.intro rfl trivial))) (bp_loss_j59_x hC hd hR)
set_option maxRecDepth 20000 in
theorem bp_loss_x {Ls tp ip x d : Nat} {Z : mj_X} (hd : 2 ≤ d) {v0 : Int32} {v1 : Int32} {v2 : Int32} {m : mj_M}  : mj_Ex false (mj_sh Ls) (mj_rf tp ip) Z d 31 [.int v0, .int v1, .int v2] (110, x) m (some (.int (bp_loss v0 v1 v2 m))) (110, x) m := by
  exact mj_Ex_of (cd := mj_cd_31) (L := [some (.int v0), some (.int v1), some (.int v2), none, none, none, none]) (by omega) (by decide) rfl (Nat.le_of_ble_eq_true rfl) rfl (fun P hC => bp_loss_p hC (by omega) ⟨rfl, rfl, rfl⟩)
def bp_slowest_j61l5 (tp : Nat)  (v1 : Int32) (v2 : Int32)  (m : mj_M) : Option (Nat × (Int32 × Int32)) :=
  some (0, (v1, (v2 + 1)))
def bp_slowest_j59l5 (tp : Nat)  (v2 : Int32)  (m : mj_M) : Option (Nat × (Int32 × Int32)) :=
  bp_slowest_j61l5 tp v2 v2 m
def bp_slowest_l5 (tp : Nat)  (m : mj_M) (s5 : (Int32 × Int32)) : Option (Nat × (Int32 × Int32)) :=
  (if (mj_I (m tp 0)) ≤ s5.2 then some (1, (s5.1, s5.2)) else
  (if (bp_has (mj_I (m 42 4)) s5.2 m) = 0 then bp_slowest_j61l5 tp s5.1 s5.2 m else
  (if s5.1 < 0 then bp_slowest_j59l5 tp s5.2 m else
  (if (fx_at m (tp + 2) s5.1) ≤ (fx_at m (tp + 2) s5.2) then bp_slowest_j61l5 tp s5.1 s5.2 m else
  bp_slowest_j59l5 tp s5.2 m))))
def bp_slowest (tp : Nat)  (m : mj_M) : Option Int32 :=
  (mj_loop (bp_slowest_l5 tp m) mj_F ((-2), 0)).bind fun q5 =>
  some q5.2.1
set_option maxRecDepth 20000 in
theorem bp_slowest_j61l5_x {Ls tp ip x d : Nat} {Z : mj_X} {R : Option Value → mj_G → mj_M → Prop} {P : mj_K → Prop} (hC : mj_cls false (mj_sh Ls) (mj_rf tp ip) mj_dv mj_cd_33 (mj_Ex false (mj_sh Ls) (mj_rf tp ip) Z d) R P) (hd : 1 ≤ d) (htp : tp = 3 ∨ tp = 17)  {v1 : Int32} {v2 : Int32}  {m : mj_M} {t : Nat} {w : (Int32 × Int32)} (h : bp_slowest_j61l5 tp  v1 v2 m = some (t, w)) (h0 : t = 0 → P (5, [some (.ref 1), some (.int w.1), some (.int w.2)], [], (110, x), m)) (h1 : t = 1 → P (67, [none, some (.int w.1), none], [], (110, x), m)) : P (61, [some (.ref 1), some (.int v1), some (.int v2)], [], (110, x), m) := by
  unfold bp_slowest_j61l5 at h
  rcases htp with rfl | rfl
  all_goals
    refine mj_gcp hC 2 ?_
    show P (5, [some (.ref 1), some (.int v1), some (.int (v2 + 1))], [], (110, x), m)
    cases h
    exact mj_less hC (L0 := [some (.ref 1), some (.int v1), some (.int (v2 + 1))]) (And.intro rfl (And.intro rfl (And.intro rfl trivial))) (h0 rfl)
set_option maxRecDepth 20000 in
theorem bp_slowest_j59l5_x {Ls tp ip x d : Nat} {Z : mj_X} {R : Option Value → mj_G → mj_M → Prop} {P : mj_K → Prop} (hC : mj_cls false (mj_sh Ls) (mj_rf tp ip) mj_dv mj_cd_33 (mj_Ex false (mj_sh Ls) (mj_rf tp ip) Z d) R P) (hd : 1 ≤ d) (htp : tp = 3 ∨ tp = 17)  {v2 : Int32}  {m : mj_M} {t : Nat} {w : (Int32 × Int32)} (h : bp_slowest_j59l5 tp  v2 m = some (t, w)) (h0 : t = 0 → P (5, [some (.ref 1), some (.int w.1), some (.int w.2)], [], (110, x), m)) (h1 : t = 1 → P (67, [none, some (.int w.1), none], [], (110, x), m)) : P (59, [some (.ref 1), none, some (.int v2)], [], (110, x), m) := by
  unfold bp_slowest_j59l5 at h
  rcases htp with rfl | rfl
  all_goals
    refine mj_gcp hC 2 ?_
    show P (61, [some (.ref 1), some (.int v2), some (.int v2)], [], (110, x), m)
    exact mj_less hC (L0 := [some (.ref 1), some (.int v2), some (.int v2)]) (And.intro rfl (And.intro rfl (And.intro rfl trivial))) (bp_slowest_j61l5_x hC hd (by decide) h h0 h1)
set_option maxRecDepth 20000 in
theorem bp_slowest_l5_x {Ls tp ip x d : Nat} {Z : mj_X} {R : Option Value → mj_G → mj_M → Prop} {P : mj_K → Prop} (hC : mj_cls false (mj_sh Ls) (mj_rf tp ip) mj_dv mj_cd_33 (mj_Ex false (mj_sh Ls) (mj_rf tp ip) Z d) R P) (hd : 1 ≤ d) (htp : tp = 3 ∨ tp = 17)  {m : mj_M} (s5 : (Int32 × Int32)) {t : Nat} {w : (Int32 × Int32)} (h : bp_slowest_l5 tp m s5 = some (t, w)) (h0 : t = 0 → P (5, [some (.ref 1), some (.int w.1), some (.int w.2)], [], (110, x), m)) (h1 : t = 1 → P (67, [none, some (.int w.1), none], [], (110, x), m)) : P (5, [some (.ref 1), some (.int s5.1), some (.int s5.2)], [], (110, x), m) := by
  unfold bp_slowest_l5 at h
  rcases htp with rfl | rfl
  all_goals
    refine mj_gcp hC 5 ?_
    show P (mj_pick 67 16 ((mj_I (m _ 0)) ≤ s5.2), [some (.ref 1), some (.int s5.1), some (.int s5.2)], [], (110, x), m)
    refine mj_pbr (fun c1 => ?_) (fun c1 => ?_)
    · rw [if_pos c1] at h
      cases h
      exact mj_less hC (L0 := [none, some (.int s5.1), none]) (And.intro rfl trivial) (h1 rfl)
    · rw [if_neg c1] at h
      refine mj_gcp hC 4 ?_
      show P (24, [some (.ref 1), some (.int s5.1), some (.int s5.2)], [.int s5.2, .int (mj_I (m 42 4))], (110, x), m)
      refine mj_pcall hC rfl (bp_has_x (Nat.le_trans (by decide) hd)) ?_
      show P (27, [some (.ref 1), some (.int s5.1), some (.int s5.2)], [.int (bp_has (mj_I (m 42 4)) s5.2 m)], (110, x), m)
      refine mj_gcp hC 1 ?_
      show P (mj_pick 61 30 ((bp_has (mj_I (m 42 4)) s5.2 m) = 0), [some (.ref 1), some (.int s5.1), some (.int s5.2)], [], (110, x), m)
      refine mj_pbr (fun c2 => ?_) (fun c2 => ?_)
      · rw [if_pos c2] at h
        exact mj_less hC (L0 := [some (.ref 1), some (.int s5.1), some (.int s5.2)]) (And.intro rfl (And.intro rfl (And.intro rfl trivial))) (bp_slowest_j61l5_x hC hd (by decide) h h0 h1)
      · rw [if_neg c2] at h
        refine mj_gcp hC 2 ?_
        show P (mj_pick 59 34 (s5.1 < 0), [some (.ref 1), some (.int s5.1), some (.int s5.2)], [], (110, x), m)
        refine mj_pbr (fun c3 => ?_) (fun c3 => ?_)
        · rw [if_pos c3] at h
          exact mj_less hC (L0 := [some (.ref 1), none, some (.int s5.2)]) (And.intro rfl (And.intro rfl trivial)) (bp_slowest_j59l5_x hC hd (by decide) h h0 h1)
        · rw [if_neg c3] at h
          refine mj_gcp hC 4 ?_
          show P (42, [some (.ref 1), some (.int s5.1), some (.int s5.2)], [.int s5.2, .ref _], (110, x), m)
          refine mj_pcall hC rfl (bp_at_x (Nat.le_trans (by decide) hd) (by decide)) ?_
          show P (45, [some (.ref 1), some (.int s5.1), some (.int s5.2)], [.int (fx_at m _ s5.2)], (110, x), m)
          refine mj_gcp hC 4 ?_
          show P (53, [some (.ref 1), some (.int s5.1), some (.int s5.2)], [.int s5.1, .ref _, .int (fx_at m _ s5.2)], (110, x), m)
          refine mj_pcall hC rfl (bp_at_x (Nat.le_trans (by decide) hd) (by decide)) ?_
          show P (56, [some (.ref 1), some (.int s5.1), some (.int s5.2)], [.int (fx_at m _ s5.1), .int (fx_at m _ s5.2)], (110, x), m)
          refine mj_gcp hC 1 ?_
          show P (mj_pick 61 59 ((fx_at m _ s5.1) ≤ (fx_at m _ s5.2)), [some (.ref 1), some (.int s5.1), some (.int s5.2)], [], (110, x), m)
          refine mj_pbr (fun c4 => ?_) (fun c4 => ?_)
          · rw [if_pos c4] at h
            exact mj_less hC (L0 := [some (.ref 1), some (.int s5.1), some (.int s5.2)]) (And.intro rfl (And.intro rfl (And.intro rfl trivial))) (bp_slowest_j61l5_x hC hd (by decide) h h0 h1)
          · rw [if_neg c4] at h
            exact mj_less hC (L0 := [some (.ref 1), none, some (.int s5.2)]) (And.intro rfl (And.intro rfl trivial)) (bp_slowest_j59l5_x hC hd (by decide) h h0 h1)
set_option maxRecDepth 20000 in
theorem bp_slowest_p {Ls tp ip x d : Nat} {Z : mj_X} {R : Option Value → mj_G → mj_M → Prop} {P : mj_K → Prop} (hC : mj_cls false (mj_sh Ls) (mj_rf tp ip) mj_dv mj_cd_33 (mj_Ex false (mj_sh Ls) (mj_rf tp ip) Z d) R P) (hd : 1 ≤ d) (htp : tp = 3 ∨ tp = 17)  {m : mj_M} {r : Int32} (h : bp_slowest tp m = some r) (hR : R (some (.int r)) (110, x) m) : P (0, [some (.ref 1), none, none], [], (110, x), m) := by
  unfold bp_slowest at h
  rcases htp with rfl | rfl
  all_goals
    refine mj_gcp hC 4 ?_
    show P (5, [some (.ref 1), some (.int (-2)), some (.int 0)], [], (110, x), m)
    obtain ⟨q5, eq5, h⟩ := mj_bnd h
    refine mj_less hC (L0 := [some (.ref 1), some (.int (-2)), some (.int 0)]) (And.intro rfl (And.intro rfl (And.intro rfl trivial))) ?_
    refine mj_loop_P (A := fun z5 => P (5, [some (.ref 1), some (.int z5.1), some (.int z5.2)], [], (110, x), m)) (E := fun _ z5 => P (67, [none, some (.int z5.1), none], [], (110, x), m)) (fun zz t w hb h0 h1 => bp_slowest_l5_x hC hd (by decide) zz hb h0 (fun ht => h1 0 ht)) mj_F _ q5 eq5 ?_
    refine mj_gcp hC 1 ?_
    show P (68, [none, some (.int q5.2.1), none], [.int q5.2.1], (110, x), m)
    cases h
    exact mj_pret hC rfl hR
set_option maxRecDepth 20000 in
theorem bp_slowest_x {Ls tp ip x d : Nat} {Z : mj_X} (hd : 2 ≤ d) (htp : tp = 3 ∨ tp = 17)  {m : mj_M} {r : Int32} (h : bp_slowest tp m = some r) : mj_Ex false (mj_sh Ls) (mj_rf tp ip) Z d 33 [.ref 1] (110, x) m (some (.int r)) (110, x) m := by
  exact mj_Ex_of (cd := mj_cd_33) (L := [some (.ref 1), none, none]) (by omega) (by decide) rfl (Nat.le_of_ble_eq_true rfl) rfl (fun P hC => bp_slowest_p hC (by omega) htp h ⟨rfl, rfl, rfl⟩)
def bp_fewestDays_j117l7 (tp : Nat)  (v1 : Int32) (v2 : Int32) (v3 : Int32) (v4 : Int32)  (m : mj_M) : Option (Nat × (Int32 × Int32)) :=
  some (0, (v3, (v4 + 1)))
def bp_fewestDays_j113l7 (tp : Nat)  (v1 : Int32) (v2 : Int32) (v4 : Int32) (s0 : Int32) (s1 : Int32) (m : mj_M) : Option (Nat × (Int32 × Int32)) :=
  bp_fewestDays_j117l7 tp v1 v2 (ma_min s0 s1 m) v4 m
def bp_fewestDays_j82l7 (tp : Nat)  (v1 : Int32) (v2 : Int32) (v3 : Int32) (v4 : Int32) (v5 : Int32) (v6 : Int32) (s0 : Int32) (m : mj_M) : Option (Nat × (Int32 × Int32)) :=
  (if s0 = 0 then bp_fewestDays_j113l7 tp v1 v2 v4 v3 ((((v5 / 10000) + 1) * 10000) + v6) m else
  bp_fewestDays_j113l7 tp v1 v2 v4 v3 (v5 + v6) m)
def bp_fewestDays_j81l7 (tp : Nat)  (v1 : Int32) (v2 : Int32) (v3 : Int32) (v4 : Int32) (v5 : Int32) (v6 : Int32)  (m : mj_M) : Option (Nat × (Int32 × Int32)) :=
  bp_fewestDays_j82l7 tp v1 v2 v3 v4 v5 v6 0 m
def bp_fewestDays_l7 (tp : Nat) (v1 : Int32) (v2 : Int32) (m : mj_M) (s7 : (Int32 × Int32)) : Option (Nat × (Int32 × Int32)) :=
  (if (mj_I (m tp 5)) ≤ s7.2 then some (1, (s7.1, s7.2)) else
  (if (bp_has v1 s7.2 m) = 0 then bp_fewestDays_j117l7 tp v1 v2 s7.1 s7.2 m else
  (if (fx_at m 66 (v1 &&& (((1 : Int32) <<< (s7.2 &&& 31)) ^^^ (-1)))) ≤ 0 then bp_fewestDays_j81l7 tp v1 v2 s7.1 s7.2 (fx_at m 66 (v1 &&& (((1 : Int32) <<< (s7.2 &&& 31)) ^^^ (-1)))) (fx_at m 45 s7.2) m else
  (if v2 < (((fx_at m 66 (v1 &&& (((1 : Int32) <<< (s7.2 &&& 31)) ^^^ (-1)))) - (fx_at m 66 (v1 &&& (((1 : Int32) <<< (s7.2 &&& 31)) ^^^ (-1)))) / 10000 * 10000) + (fx_at m 45 s7.2)) then bp_fewestDays_j81l7 tp v1 v2 s7.1 s7.2 (fx_at m 66 (v1 &&& (((1 : Int32) <<< (s7.2 &&& 31)) ^^^ (-1)))) (fx_at m 45 s7.2) m else
  bp_fewestDays_j82l7 tp v1 v2 s7.1 s7.2 (fx_at m 66 (v1 &&& (((1 : Int32) <<< (s7.2 &&& 31)) ^^^ (-1)))) (fx_at m 45 s7.2) 1 m))))
def bp_fewestDays (tp : Nat) (v1 : Int32) (v2 : Int32) (m : mj_M) : Option Int32 :=
  (mj_loop (bp_fewestDays_l7 tp v1 v2 m) mj_F (2147483647, 0)).bind fun q6 =>
  some q6.2.1
set_option maxRecDepth 20000 in
theorem bp_fewestDays_j117l7_x {Ls tp ip x d : Nat} {Z : mj_X} {R : Option Value → mj_G → mj_M → Prop} {P : mj_K → Prop} (hC : mj_cls false (mj_sh Ls) (mj_rf tp ip) mj_dv mj_cd_35 (mj_Ex false (mj_sh Ls) (mj_rf tp ip) Z d) R P) (hd : 1 ≤ d) (htp : tp = 3 ∨ tp = 17)  {v1 : Int32} {v2 : Int32} {v3 : Int32} {v4 : Int32}  {m : mj_M} {t : Nat} {w : (Int32 × Int32)} (h : bp_fewestDays_j117l7 tp  v1 v2 v3 v4 m = some (t, w)) (h0 : t = 0 → P (7, [some (.ref 1), some (.int v1), some (.int v2), some (.int w.1), some (.int w.2), none, none, none], [], (110, x), m)) (h1 : t = 1 → P (123, [none, none, none, some (.int w.1), none, none, none, none], [], (110, x), m)) : P (117, [some (.ref 1), some (.int v1), some (.int v2), some (.int v3), some (.int v4), none, none, none], [], (110, x), m) := by
  unfold bp_fewestDays_j117l7 at h
  rcases htp with rfl | rfl
  all_goals
    refine mj_gcp hC 2 ?_
    show P (7, [some (.ref 1), some (.int v1), some (.int v2), some (.int v3), some (.int (v4 + 1)), none, none, none], [], (110, x), m)
    cases h
    exact mj_less hC (L0 := [some (.ref 1), some (.int v1), some (.int v2), some (.int v3), some (.int (v4 + 1)), none, none, none]) (And.intro rfl (And.intro rfl (And.intro rfl (And.intro rfl (And.intro rfl trivial))))) (h0 rfl)
set_option maxRecDepth 20000 in
theorem bp_fewestDays_j113l7_x {Ls tp ip x d : Nat} {Z : mj_X} {R : Option Value → mj_G → mj_M → Prop} {P : mj_K → Prop} (hC : mj_cls false (mj_sh Ls) (mj_rf tp ip) mj_dv mj_cd_35 (mj_Ex false (mj_sh Ls) (mj_rf tp ip) Z d) R P) (hd : 1 ≤ d) (htp : tp = 3 ∨ tp = 17)  {v1 : Int32} {v2 : Int32} {v4 : Int32} {s0 : Int32} {s1 : Int32} {m : mj_M} {t : Nat} {w : (Int32 × Int32)} (h : bp_fewestDays_j113l7 tp  v1 v2 v4 s0 s1 m = some (t, w)) (h0 : t = 0 → P (7, [some (.ref 1), some (.int v1), some (.int v2), some (.int w.1), some (.int w.2), none, none, none], [], (110, x), m)) (h1 : t = 1 → P (123, [none, none, none, some (.int w.1), none, none, none, none], [], (110, x), m)) : P (113, [some (.ref 1), some (.int v1), some (.int v2), none, some (.int v4), none, none, none], [.int s1, .int s0], (110, x), m) := by
  unfold bp_fewestDays_j113l7 at h
  rcases htp with rfl | rfl
  all_goals
    refine mj_pcall hC rfl (ma_min_x (Nat.le_trans (by decide) hd)) ?_
    show P (116, [some (.ref 1), some (.int v1), some (.int v2), none, some (.int v4), none, none, none], [.int (ma_min s0 s1 m)], (110, x), m)
    refine mj_gcp hC 1 ?_
    show P (117, [some (.ref 1), some (.int v1), some (.int v2), some (.int (ma_min s0 s1 m)), some (.int v4), none, none, none], [], (110, x), m)
    exact mj_less hC (L0 := [some (.ref 1), some (.int v1), some (.int v2), some (.int (ma_min s0 s1 m)), some (.int v4), none, none, none]) (And.intro rfl (And.intro rfl (And.intro rfl (And.intro rfl (And.intro rfl trivial))))) (bp_fewestDays_j117l7_x hC hd (by decide) h h0 h1)
set_option maxRecDepth 20000 in
theorem bp_fewestDays_j82l7_x {Ls tp ip x d : Nat} {Z : mj_X} {R : Option Value → mj_G → mj_M → Prop} {P : mj_K → Prop} (hC : mj_cls false (mj_sh Ls) (mj_rf tp ip) mj_dv mj_cd_35 (mj_Ex false (mj_sh Ls) (mj_rf tp ip) Z d) R P) (hd : 1 ≤ d) (htp : tp = 3 ∨ tp = 17)  {v1 : Int32} {v2 : Int32} {v3 : Int32} {v4 : Int32} {v5 : Int32} {v6 : Int32} {s0 : Int32} {m : mj_M} {t : Nat} {w : (Int32 × Int32)} (h : bp_fewestDays_j82l7 tp  v1 v2 v3 v4 v5 v6 s0 m = some (t, w)) (h0 : t = 0 → P (7, [some (.ref 1), some (.int v1), some (.int v2), some (.int w.1), some (.int w.2), none, none, none], [], (110, x), m)) (h1 : t = 1 → P (123, [none, none, none, some (.int w.1), none, none, none, none], [], (110, x), m)) : P (82, [some (.ref 1), some (.int v1), some (.int v2), some (.int v3), some (.int v4), some (.int v5), some (.int v6), none], [.int s0], (110, x), m) := by
  unfold bp_fewestDays_j82l7 at h
  rcases htp with rfl | rfl
  all_goals
    refine mj_gcp hC 4 ?_
    show P (mj_pick 98 90 (s0 = 0), [some (.ref 1), some (.int v1), some (.int v2), some (.int v3), some (.int v4), some (.int v5), some (.int v6), some (.int s0)], [.int v3], (110, x), m)
    refine mj_pbr (fun c4 => ?_) (fun c4 => ?_)
    · rw [if_pos c4] at h
      refine mj_gcp hC 9 ?_
      show _ ∧ (P (113, [some (.ref 1), some (.int v1), some (.int v2), some (.int v3), some (.int v4), some (.int v5), some (.int v6), some (.int s0)], [.int ((((v5 / 10000) + 1) * 10000) + v6), .int v3], (110, x), m))
      refine And.intro (show ¬ ((10000 : Int32) = 0) by decide) (?_)
      exact mj_less hC (L0 := [some (.ref 1), some (.int v1), some (.int v2), none, some (.int v4), none, none, none]) (And.intro rfl (And.intro rfl (And.intro rfl (And.intro rfl trivial)))) (bp_fewestDays_j113l7_x hC hd (by decide) h h0 h1)
    · rw [if_neg c4] at h
      refine mj_gcp hC 4 ?_
      show P (113, [some (.ref 1), some (.int v1), some (.int v2), some (.int v3), some (.int v4), some (.int v5), some (.int v6), some (.int s0)], [.int (v5 + v6), .int v3], (110, x), m)
      exact mj_less hC (L0 := [some (.ref 1), some (.int v1), some (.int v2), none, some (.int v4), none, none, none]) (And.intro rfl (And.intro rfl (And.intro rfl (And.intro rfl trivial)))) (bp_fewestDays_j113l7_x hC hd (by decide) h h0 h1)
set_option maxRecDepth 20000 in
theorem bp_fewestDays_j81l7_x {Ls tp ip x d : Nat} {Z : mj_X} {R : Option Value → mj_G → mj_M → Prop} {P : mj_K → Prop} (hC : mj_cls false (mj_sh Ls) (mj_rf tp ip) mj_dv mj_cd_35 (mj_Ex false (mj_sh Ls) (mj_rf tp ip) Z d) R P) (hd : 1 ≤ d) (htp : tp = 3 ∨ tp = 17)  {v1 : Int32} {v2 : Int32} {v3 : Int32} {v4 : Int32} {v5 : Int32} {v6 : Int32}  {m : mj_M} {t : Nat} {w : (Int32 × Int32)} (h : bp_fewestDays_j81l7 tp  v1 v2 v3 v4 v5 v6 m = some (t, w)) (h0 : t = 0 → P (7, [some (.ref 1), some (.int v1), some (.int v2), some (.int w.1), some (.int w.2), none, none, none], [], (110, x), m)) (h1 : t = 1 → P (123, [none, none, none, some (.int w.1), none, none, none, none], [], (110, x), m)) : P (81, [some (.ref 1), some (.int v1), some (.int v2), some (.int v3), some (.int v4), some (.int v5), some (.int v6), none], [], (110, x), m) := by
  unfold bp_fewestDays_j81l7 at h
  rcases htp with rfl | rfl
  all_goals
    refine mj_gcp hC 1 ?_
    show P (82, [some (.ref 1), some (.int v1), some (.int v2), some (.int v3), some (.int v4), some (.int v5), some (.int v6), none], [.int 0], (110, x), m)
    exact mj_less hC (L0 := [some (.ref 1), some (.int v1), some (.int v2), some (.int v3), some (.int v4), some (.int v5), some (.int v6), none]) (And.intro rfl (And.intro rfl (And.intro rfl (And.intro rfl (And.intro rfl (And.intro rfl (And.intro rfl trivial))))))) (bp_fewestDays_j82l7_x hC hd (by decide) h h0 h1)
set_option maxRecDepth 20000 in
theorem bp_fewestDays_l7_x {Ls tp ip x d : Nat} {Z : mj_X} {R : Option Value → mj_G → mj_M → Prop} {P : mj_K → Prop} (hC : mj_cls false (mj_sh Ls) (mj_rf tp ip) mj_dv mj_cd_35 (mj_Ex false (mj_sh Ls) (mj_rf tp ip) Z d) R P) (hd : 1 ≤ d) (htp : tp = 3 ∨ tp = 17) {v1 : Int32} {v2 : Int32} {m : mj_M} (s7 : (Int32 × Int32)) {t : Nat} {w : (Int32 × Int32)} (h : bp_fewestDays_l7 tp v1 v2 m s7 = some (t, w)) (h0 : t = 0 → P (7, [some (.ref 1), some (.int v1), some (.int v2), some (.int w.1), some (.int w.2), none, none, none], [], (110, x), m)) (h1 : t = 1 → P (123, [none, none, none, some (.int w.1), none, none, none, none], [], (110, x), m)) : P (7, [some (.ref 1), some (.int v1), some (.int v2), some (.int s7.1), some (.int s7.2), none, none, none], [], (110, x), m) := by
  unfold bp_fewestDays_l7 at h
  rcases htp with rfl | rfl
  all_goals
    refine mj_gcp hC 5 ?_
    show P (mj_pick 123 19 ((mj_I (m _ 5)) ≤ s7.2), [some (.ref 1), some (.int v1), some (.int v2), some (.int s7.1), some (.int s7.2), none, none, none], [], (110, x), m)
    refine mj_pbr (fun c1 => ?_) (fun c1 => ?_)
    · rw [if_pos c1] at h
      cases h
      exact mj_less hC (L0 := [none, none, none, some (.int s7.1), none, none, none, none]) (And.intro rfl trivial) (h1 rfl)
    · rw [if_neg c1] at h
      refine mj_gcp hC 2 ?_
      show P (22, [some (.ref 1), some (.int v1), some (.int v2), some (.int s7.1), some (.int s7.2), none, none, none], [.int s7.2, .int v1], (110, x), m)
      refine mj_pcall hC rfl (bp_has_x (Nat.le_trans (by decide) hd)) ?_
      show P (25, [some (.ref 1), some (.int v1), some (.int v2), some (.int s7.1), some (.int s7.2), none, none, none], [.int (bp_has v1 s7.2 m)], (110, x), m)
      refine mj_gcp hC 1 ?_
      show P (mj_pick 117 28 ((bp_has v1 s7.2 m) = 0), [some (.ref 1), some (.int v1), some (.int v2), some (.int s7.1), some (.int s7.2), none, none, none], [], (110, x), m)
      refine mj_pbr (fun c2 => ?_) (fun c2 => ?_)
      · rw [if_pos c2] at h
        exact mj_less hC (L0 := [some (.ref 1), some (.int v1), some (.int v2), some (.int s7.1), some (.int s7.2), none, none, none]) (And.intro rfl (And.intro rfl (And.intro rfl (And.intro rfl (And.intro rfl trivial))))) (bp_fewestDays_j117l7_x hC hd (by decide) h h0 h1)
      · rw [if_neg c2] at h
        refine mj_gcp hC 9 ?_
        show P (40, [some (.ref 1), some (.int v1), some (.int v2), some (.int s7.1), some (.int s7.2), none, none, none], [.int (v1 &&& (((1 : Int32) <<< (s7.2 &&& 31)) ^^^ (-1))), .ref 66], (110, x), m)
        refine mj_pcall hC rfl (bp_at_x (Nat.le_trans (by decide) hd) (by decide)) ?_
        show P (43, [some (.ref 1), some (.int v1), some (.int v2), some (.int s7.1), some (.int s7.2), none, none, none], [.int (fx_at m 66 (v1 &&& (((1 : Int32) <<< (s7.2 &&& 31)) ^^^ (-1))))], (110, x), m)
        refine mj_gcp hC 5 ?_
        show P (54, [some (.ref 1), some (.int v1), some (.int v2), some (.int s7.1), some (.int s7.2), some (.int (fx_at m 66 (v1 &&& (((1 : Int32) <<< (s7.2 &&& 31)) ^^^ (-1))))), none, none], [.int s7.2, .ref 45], (110, x), m)
        refine mj_pcall hC rfl (bp_at_x (Nat.le_trans (by decide) hd) (by decide)) ?_
        show P (57, [some (.ref 1), some (.int v1), some (.int v2), some (.int s7.1), some (.int s7.2), some (.int (fx_at m 66 (v1 &&& (((1 : Int32) <<< (s7.2 &&& 31)) ^^^ (-1))))), none, none], [.int (fx_at m 45 s7.2)], (110, x), m)
        refine mj_gcp hC 3 ?_
        show P (mj_pick 81 64 ((fx_at m 66 (v1 &&& (((1 : Int32) <<< (s7.2 &&& 31)) ^^^ (-1)))) ≤ 0), [some (.ref 1), some (.int v1), some (.int v2), some (.int s7.1), some (.int s7.2), some (.int (fx_at m 66 (v1 &&& (((1 : Int32) <<< (s7.2 &&& 31)) ^^^ (-1))))), some (.int (fx_at m 45 s7.2)), none], [], (110, x), m)
        refine mj_pbr (fun c3 => ?_) (fun c3 => ?_)
        · rw [if_pos c3] at h
          exact mj_less hC (L0 := [some (.ref 1), some (.int v1), some (.int v2), some (.int s7.1), some (.int s7.2), some (.int (fx_at m 66 (v1 &&& (((1 : Int32) <<< (s7.2 &&& 31)) ^^^ (-1))))), some (.int (fx_at m 45 s7.2)), none]) (And.intro rfl (And.intro rfl (And.intro rfl (And.intro rfl (And.intro rfl (And.intro rfl (And.intro rfl trivial))))))) (bp_fewestDays_j81l7_x hC hd (by decide) h h0 h1)
        · rw [if_neg c3] at h
          refine mj_gcp hC 7 ?_
          show _ ∧ (P (mj_pick 81 77 (v2 < (((fx_at m 66 (v1 &&& (((1 : Int32) <<< (s7.2 &&& 31)) ^^^ (-1)))) - (fx_at m 66 (v1 &&& (((1 : Int32) <<< (s7.2 &&& 31)) ^^^ (-1)))) / 10000 * 10000) + (fx_at m 45 s7.2))), [some (.ref 1), some (.int v1), some (.int v2), some (.int s7.1), some (.int s7.2), some (.int (fx_at m 66 (v1 &&& (((1 : Int32) <<< (s7.2 &&& 31)) ^^^ (-1))))), some (.int (fx_at m 45 s7.2)), none], [], (110, x), m))
          refine And.intro (show ¬ ((10000 : Int32) = 0) by decide) (?_)
          refine mj_pbr (fun c5 => ?_) (fun c5 => ?_)
          · rw [if_pos c5] at h
            exact mj_less hC (L0 := [some (.ref 1), some (.int v1), some (.int v2), some (.int s7.1), some (.int s7.2), some (.int (fx_at m 66 (v1 &&& (((1 : Int32) <<< (s7.2 &&& 31)) ^^^ (-1))))), some (.int (fx_at m 45 s7.2)), none]) (And.intro rfl (And.intro rfl (And.intro rfl (And.intro rfl (And.intro rfl (And.intro rfl (And.intro rfl trivial))))))) (bp_fewestDays_j81l7_x hC hd (by decide) h h0 h1)
          · rw [if_neg c5] at h
            refine mj_gcp hC 2 ?_
            show P (82, [some (.ref 1), some (.int v1), some (.int v2), some (.int s7.1), some (.int s7.2), some (.int (fx_at m 66 (v1 &&& (((1 : Int32) <<< (s7.2 &&& 31)) ^^^ (-1))))), some (.int (fx_at m 45 s7.2)), none], [.int 1], (110, x), m)
            exact mj_less hC (L0 := [some (.ref 1), some (.int v1), some (.int v2), some (.int s7.1), some (.int s7.2), some (.int (fx_at m 66 (v1 &&& (((1 : Int32) <<< (s7.2 &&& 31)) ^^^ (-1))))), some (.int (fx_at m 45 s7.2)), none]) (And.intro rfl (And.intro rfl (And.intro rfl (And.intro rfl (And.intro rfl (And.intro rfl (And.intro rfl trivial))))))) (bp_fewestDays_j82l7_x hC hd (by decide) h h0 h1)
set_option maxRecDepth 20000 in
theorem bp_fewestDays_p {Ls tp ip x d : Nat} {Z : mj_X} {R : Option Value → mj_G → mj_M → Prop} {P : mj_K → Prop} (hC : mj_cls false (mj_sh Ls) (mj_rf tp ip) mj_dv mj_cd_35 (mj_Ex false (mj_sh Ls) (mj_rf tp ip) Z d) R P) (hd : 1 ≤ d) (htp : tp = 3 ∨ tp = 17) {v1 : Int32} {v2 : Int32} {m : mj_M} {r : Int32} (h : bp_fewestDays tp v1 v2 m = some r) (hR : R (some (.int r)) (110, x) m) : P (0, [some (.ref 1), some (.int v1), some (.int v2), none, none, none, none, none], [], (110, x), m) := by
  unfold bp_fewestDays at h
  rcases htp with rfl | rfl
  all_goals
    refine mj_gcp hC 4 ?_
    show P (7, [some (.ref 1), some (.int v1), some (.int v2), some (.int 2147483647), some (.int 0), none, none, none], [], (110, x), m)
    obtain ⟨q6, eq6, h⟩ := mj_bnd h
    refine mj_less hC (L0 := [some (.ref 1), some (.int v1), some (.int v2), some (.int 2147483647), some (.int 0), none, none, none]) (And.intro rfl (And.intro rfl (And.intro rfl (And.intro rfl (And.intro rfl trivial))))) ?_
    refine mj_loop_P (A := fun z7 => P (7, [some (.ref 1), some (.int v1), some (.int v2), some (.int z7.1), some (.int z7.2), none, none, none], [], (110, x), m)) (E := fun _ z7 => P (123, [none, none, none, some (.int z7.1), none, none, none, none], [], (110, x), m)) (fun zz t w hb h0 h1 => bp_fewestDays_l7_x hC hd (by decide) zz hb h0 (fun ht => h1 0 ht)) mj_F _ q6 eq6 ?_
    refine mj_gcp hC 1 ?_
    show P (124, [none, none, none, some (.int q6.2.1), none, none, none, none], [.int q6.2.1], (110, x), m)
    cases h
    exact mj_pret hC rfl hR
set_option maxRecDepth 20000 in
theorem bp_fewestDays_x {Ls tp ip x d : Nat} {Z : mj_X} (hd : 2 ≤ d) (htp : tp = 3 ∨ tp = 17) {v1 : Int32} {v2 : Int32} {m : mj_M} {r : Int32} (h : bp_fewestDays tp v1 v2 m = some r) : mj_Ex false (mj_sh Ls) (mj_rf tp ip) Z d 35 [.ref 1, .int v1, .int v2] (110, x) m (some (.int r)) (110, x) m := by
  exact mj_Ex_of (cd := mj_cd_35) (L := [some (.ref 1), some (.int v1), some (.int v2), none, none, none, none, none]) (by omega) (by decide) rfl (Nat.le_of_ble_eq_true rfl) rfl (fun P hC => bp_fewestDays_p hC (by omega) htp h ⟨rfl, rfl, rfl⟩)
def bp_canon (tp : Nat) (v1 : Int32) (v2 : Int32) (m : mj_M) : Option Int32 :=
  (if (to_isWork tp v1 m) = 0 then some (-1) else
  (if (to_isWork tp v2 m) = 0 then some (-1) else
  (if v1 = v2 then some (-1) else
  (if 1 ≤ (fx_at m (tp + 8) v1) then (if ((fx_at m (tp + 8) v1) : Int32) = 0 then none else
  some (((((ma_max 0 ((fx_at m (tp + 7) v1) - (fx_at m (tp + 7) v2)) m) + (fx_at m (tp + 8) v1)) - 1) / (fx_at m (tp + 8) v1)) * (fx_at m (tp + 8) v1))) else
  some (-1)))))
set_option maxRecDepth 20000 in
theorem bp_canon_p {Ls tp ip x d : Nat} {Z : mj_X} {R : Option Value → mj_G → mj_M → Prop} {P : mj_K → Prop} (hC : mj_cls false (mj_sh Ls) (mj_rf tp ip) mj_dv mj_cd_36 (mj_Ex false (mj_sh Ls) (mj_rf tp ip) Z d) R P) (hd : 1 ≤ d) (htp : tp = 3 ∨ tp = 17) {v1 : Int32} {v2 : Int32} {m : mj_M} {r : Int32} (h : bp_canon tp v1 v2 m = some r) (hR : R (some (.int r)) (110, x) m) : P (0, [some (.ref 1), some (.int v1), some (.int v2), none, none], [], (110, x), m) := by
  unfold bp_canon at h
  rcases htp with rfl | rfl
  all_goals
    refine mj_gcp hC 3 ?_
    show P (5, [some (.ref 1), some (.int v1), some (.int v2), none, none], [.int v1, .ref _], (110, x), m)
    refine mj_pcall hC rfl (to_isWork_x (Nat.le_trans (by decide) hd) (by decide)) ?_
    show P (8, [some (.ref 1), some (.int v1), some (.int v2), none, none], [.int (to_isWork _ v1 m)], (110, x), m)
    refine mj_gcp hC 1 ?_
    show P (mj_pick 27 11 ((to_isWork _ v1 m) = 0), [some (.ref 1), some (.int v1), some (.int v2), none, none], [], (110, x), m)
    refine mj_pbr (fun c1 => ?_) (fun c1 => ?_)
    · rw [if_pos c1] at h
      refine mj_gcp hC 1 ?_
      show P (28, [some (.ref 1), some (.int v1), some (.int v2), none, none], [.int (-1)], (110, x), m)
      cases h
      exact mj_pret hC rfl hR
    · rw [if_neg c1] at h
      refine mj_gcp hC 3 ?_
      show P (16, [some (.ref 1), some (.int v1), some (.int v2), none, none], [.int v2, .ref _], (110, x), m)
      refine mj_pcall hC rfl (to_isWork_x (Nat.le_trans (by decide) hd) (by decide)) ?_
      show P (19, [some (.ref 1), some (.int v1), some (.int v2), none, none], [.int (to_isWork _ v2 m)], (110, x), m)
      refine mj_gcp hC 1 ?_
      show P (mj_pick 27 22 ((to_isWork _ v2 m) = 0), [some (.ref 1), some (.int v1), some (.int v2), none, none], [], (110, x), m)
      refine mj_pbr (fun c2 => ?_) (fun c2 => ?_)
      · rw [if_pos c2] at h
        refine mj_gcp hC 1 ?_
        show P (28, [some (.ref 1), some (.int v1), some (.int v2), none, none], [.int (-1)], (110, x), m)
        cases h
        exact mj_pret hC rfl hR
      · rw [if_neg c2] at h
        refine mj_gcp hC 3 ?_
        show P (mj_pick 27 29 (v1 = v2), [some (.ref 1), some (.int v1), some (.int v2), none, none], [], (110, x), m)
        refine mj_pbr (fun c3 => ?_) (fun c3 => ?_)
        · rw [if_pos c3] at h
          refine mj_gcp hC 1 ?_
          show P (28, [some (.ref 1), some (.int v1), some (.int v2), none, none], [.int (-1)], (110, x), m)
          cases h
          exact mj_pret hC rfl hR
        · rw [if_neg c3] at h
          refine mj_gcp hC 4 ?_
          show P (37, [some (.ref 1), some (.int v1), some (.int v2), none, none], [.int v1, .ref _], (110, x), m)
          refine mj_pcall hC rfl (bp_at_x (Nat.le_trans (by decide) hd) (by decide)) ?_
          show P (40, [some (.ref 1), some (.int v1), some (.int v2), none, none], [.int (fx_at m _ v1)], (110, x), m)
          refine mj_gcp hC 6 ?_
          show P (50, [some (.ref 1), some (.int v1), some (.int v2), some (.int (fx_at m _ v1)), none], [.int v1, .ref _, .int 0], (110, x), m)
          refine mj_pcall hC rfl (bp_at_x (Nat.le_trans (by decide) hd) (by decide)) ?_
          show P (53, [some (.ref 1), some (.int v1), some (.int v2), some (.int (fx_at m _ v1)), none], [.int (fx_at m _ v1), .int 0], (110, x), m)
          refine mj_gcp hC 4 ?_
          show P (61, [some (.ref 1), some (.int v1), some (.int v2), some (.int (fx_at m _ v1)), none], [.int v2, .ref _, .int (fx_at m _ v1), .int 0], (110, x), m)
          refine mj_pcall hC rfl (bp_at_x (Nat.le_trans (by decide) hd) (by decide)) ?_
          show P (64, [some (.ref 1), some (.int v1), some (.int v2), some (.int (fx_at m _ v1)), none], [.int (fx_at m _ v2), .int (fx_at m _ v1), .int 0], (110, x), m)
          refine mj_gcp hC 1 ?_
          show P (65, [some (.ref 1), some (.int v1), some (.int v2), some (.int (fx_at m _ v1)), none], [.int ((fx_at m _ v1) - (fx_at m _ v2)), .int 0], (110, x), m)
          refine mj_pcall hC rfl (ma_max_x (Nat.le_trans (by decide) hd)) ?_
          show P (68, [some (.ref 1), some (.int v1), some (.int v2), some (.int (fx_at m _ v1)), none], [.int (ma_max 0 ((fx_at m _ v1) - (fx_at m _ v2)) m)], (110, x), m)
          refine mj_gcp hC 4 ?_
          show P (mj_pick 79 75 (1 ≤ (fx_at m _ v1)), [some (.ref 1), some (.int v1), some (.int v2), some (.int (fx_at m _ v1)), some (.int (ma_max 0 ((fx_at m _ v1) - (fx_at m _ v2)) m))], [], (110, x), m)
          refine mj_pbr (fun c4 => ?_) (fun c4 => ?_)
          · rw [if_pos c4] at h
            obtain ⟨k5, h⟩ := mj_ifn h
            refine mj_gcp hC 9 ?_
            show _ ∧ (P (89, [some (.ref 1), some (.int v1), some (.int v2), some (.int (fx_at m _ v1)), some (.int (ma_max 0 ((fx_at m _ v1) - (fx_at m _ v2)) m))], [.int (((((ma_max 0 ((fx_at m _ v1) - (fx_at m _ v2)) m) + (fx_at m _ v1)) - 1) / (fx_at m _ v1)) * (fx_at m _ v1))], (110, x), m))
            refine And.intro k5 (?_)
            cases h
            exact mj_pret hC rfl hR
          · rw [if_neg c4] at h
            refine mj_gcp hC 2 ?_
            show P (89, [some (.ref 1), some (.int v1), some (.int v2), some (.int (fx_at m _ v1)), some (.int (ma_max 0 ((fx_at m _ v1) - (fx_at m _ v2)) m))], [.int (-1)], (110, x), m)
            cases h
            exact mj_pret hC rfl hR
set_option maxRecDepth 20000 in
theorem bp_canon_x {Ls tp ip x d : Nat} {Z : mj_X} (hd : 2 ≤ d) (htp : tp = 3 ∨ tp = 17) {v1 : Int32} {v2 : Int32} {m : mj_M} {r : Int32} (h : bp_canon tp v1 v2 m = some r) : mj_Ex false (mj_sh Ls) (mj_rf tp ip) Z d 36 [.ref 1, .int v1, .int v2] (110, x) m (some (.int r)) (110, x) m := by
  exact mj_Ex_of (cd := mj_cd_36) (L := [some (.ref 1), some (.int v1), some (.int v2), none, none]) (by omega) (by decide) rfl (Nat.le_of_ble_eq_true rfl) rfl (fun P hC => bp_canon_p hC (by omega) htp h ⟨rfl, rfl, rfl⟩)
def bp_idle_j50l10 (tp : Nat)  (v1 : Int32) (v2 : Int32)  (m : mj_M) : Option (Nat × (Int32 × Int32)) :=
  some (0, (v1, (v2 + 1)))
def bp_idle_l10 (tp : Nat)  (m : mj_M) (s10 : (Int32 × Int32)) : Option (Nat × (Int32 × Int32)) :=
  (if (mj_I (m tp 5)) ≤ s10.2 then some (1, (s10.1, s10.2)) else
  (if (sa_isDone 42 s10.2 m) = 0 then bp_idle_j50l10 tp (s10.1 &&& (((1 : Int32) <<< ((fx_at m (tp + 6) s10.2) &&& 31)) ^^^ (-1))) s10.2 m else
  bp_idle_j50l10 tp s10.1 s10.2 m))
def bp_idle (tp : Nat)  (m : mj_M) : Option Int32 :=
  (mj_loop (bp_idle_l10 tp m) mj_F ((mj_I (m 42 4)), 0)).bind fun q3 =>
  some q3.2.1
set_option maxRecDepth 20000 in
theorem bp_idle_j50l10_x {Ls tp ip x d : Nat} {Z : mj_X} {R : Option Value → mj_G → mj_M → Prop} {P : mj_K → Prop} (hC : mj_cls false (mj_sh Ls) (mj_rf tp ip) mj_dv mj_cd_41 (mj_Ex false (mj_sh Ls) (mj_rf tp ip) Z d) R P) (hd : 2 ≤ d) (htp : tp = 3 ∨ tp = 17)  {v1 : Int32} {v2 : Int32}  {m : mj_M} {t : Nat} {w : (Int32 × Int32)} (h : bp_idle_j50l10 tp  v1 v2 m = some (t, w)) (h0 : t = 0 → P (10, [some (.ref 1), some (.int w.1), some (.int w.2)], [], (110, x), m)) (h1 : t = 1 → P (56, [none, some (.int w.1), none], [], (110, x), m)) : P (50, [some (.ref 1), some (.int v1), some (.int v2)], [], (110, x), m) := by
  unfold bp_idle_j50l10 at h
  rcases htp with rfl | rfl
  all_goals
    refine mj_gcp hC 2 ?_
    show P (10, [some (.ref 1), some (.int v1), some (.int (v2 + 1))], [], (110, x), m)
    cases h
    exact mj_less hC (L0 := [some (.ref 1), some (.int v1), some (.int (v2 + 1))]) (And.intro rfl (And.intro rfl (And.intro rfl trivial))) (h0 rfl)
set_option maxRecDepth 20000 in
theorem bp_idle_l10_x {Ls tp ip x d : Nat} {Z : mj_X} {R : Option Value → mj_G → mj_M → Prop} {P : mj_K → Prop} (hC : mj_cls false (mj_sh Ls) (mj_rf tp ip) mj_dv mj_cd_41 (mj_Ex false (mj_sh Ls) (mj_rf tp ip) Z d) R P) (hd : 2 ≤ d) (htp : tp = 3 ∨ tp = 17)  {m : mj_M} (s10 : (Int32 × Int32)) {t : Nat} {w : (Int32 × Int32)} (h : bp_idle_l10 tp m s10 = some (t, w)) (h0 : t = 0 → P (10, [some (.ref 1), some (.int w.1), some (.int w.2)], [], (110, x), m)) (h1 : t = 1 → P (56, [none, some (.int w.1), none], [], (110, x), m)) : P (10, [some (.ref 1), some (.int s10.1), some (.int s10.2)], [], (110, x), m) := by
  unfold bp_idle_l10 at h
  rcases htp with rfl | rfl
  all_goals
    refine mj_gcp hC 5 ?_
    show P (mj_pick 56 21 ((mj_I (m _ 5)) ≤ s10.2), [some (.ref 1), some (.int s10.1), some (.int s10.2)], [], (110, x), m)
    refine mj_pbr (fun c1 => ?_) (fun c1 => ?_)
    · rw [if_pos c1] at h
      cases h
      exact mj_less hC (L0 := [none, some (.int s10.1), none]) (And.intro rfl trivial) (h1 rfl)
    · rw [if_neg c1] at h
      refine mj_gcp hC 3 ?_
      show P (26, [some (.ref 1), some (.int s10.1), some (.int s10.2)], [.int s10.2, .ref 42], (110, x), m)
      refine mj_pcall hC rfl (sa_isDone_x (Nat.le_trans (by decide) hd) (by decide)) ?_
      show P (29, [some (.ref 1), some (.int s10.1), some (.int s10.2)], [.int (sa_isDone 42 s10.2 m)], (110, x), m)
      refine mj_gcp hC 1 ?_
      show P (mj_pick 32 50 ((sa_isDone 42 s10.2 m) = 0), [some (.ref 1), some (.int s10.1), some (.int s10.2)], [], (110, x), m)
      refine mj_pbr (fun c2 => ?_) (fun c2 => ?_)
      · rw [if_pos c2] at h
        refine mj_gcp hC 6 ?_
        show P (42, [some (.ref 1), some (.int s10.1), some (.int s10.2)], [.int s10.2, .ref _, .int 1, .int s10.1], (110, x), m)
        refine mj_pcall hC rfl (bp_at_x (Nat.le_trans (by decide) hd) (by decide)) ?_
        show P (45, [some (.ref 1), some (.int s10.1), some (.int s10.2)], [.int (fx_at m _ s10.2), .int 1, .int s10.1], (110, x), m)
        refine mj_gcp hC 5 ?_
        show P (50, [some (.ref 1), some (.int (s10.1 &&& (((1 : Int32) <<< ((fx_at m _ s10.2) &&& 31)) ^^^ (-1)))), some (.int s10.2)], [], (110, x), m)
        exact mj_less hC (L0 := [some (.ref 1), some (.int (s10.1 &&& (((1 : Int32) <<< ((fx_at m _ s10.2) &&& 31)) ^^^ (-1)))), some (.int s10.2)]) (And.intro rfl (And.intro rfl (And.intro rfl trivial))) (bp_idle_j50l10_x hC hd (by decide) h h0 h1)
      · rw [if_neg c2] at h
        exact mj_less hC (L0 := [some (.ref 1), some (.int s10.1), some (.int s10.2)]) (And.intro rfl (And.intro rfl (And.intro rfl trivial))) (bp_idle_j50l10_x hC hd (by decide) h h0 h1)
set_option maxRecDepth 20000 in
theorem bp_idle_p {Ls tp ip x d : Nat} {Z : mj_X} {R : Option Value → mj_G → mj_M → Prop} {P : mj_K → Prop} (hC : mj_cls false (mj_sh Ls) (mj_rf tp ip) mj_dv mj_cd_41 (mj_Ex false (mj_sh Ls) (mj_rf tp ip) Z d) R P) (hd : 2 ≤ d) (htp : tp = 3 ∨ tp = 17)  {m : mj_M} {r : Int32} (h : bp_idle tp m = some r) (hR : R (some (.int r)) (110, x) m) : P (0, [some (.ref 1), none, none], [], (110, x), m) := by
  unfold bp_idle at h
  rcases htp with rfl | rfl
  all_goals
    refine mj_gcp hC 6 ?_
    show P (10, [some (.ref 1), some (.int (mj_I (m 42 4))), some (.int 0)], [], (110, x), m)
    obtain ⟨q3, eq3, h⟩ := mj_bnd h
    refine mj_less hC (L0 := [some (.ref 1), some (.int (mj_I (m 42 4))), some (.int 0)]) (And.intro rfl (And.intro rfl (And.intro rfl trivial))) ?_
    refine mj_loop_P (A := fun z10 => P (10, [some (.ref 1), some (.int z10.1), some (.int z10.2)], [], (110, x), m)) (E := fun _ z10 => P (56, [none, some (.int z10.1), none], [], (110, x), m)) (fun zz t w hb h0 h1 => bp_idle_l10_x hC hd (by decide) zz hb h0 (fun ht => h1 0 ht)) mj_F _ q3 eq3 ?_
    refine mj_gcp hC 1 ?_
    show P (57, [none, some (.int q3.2.1), none], [.int q3.2.1], (110, x), m)
    cases h
    exact mj_pret hC rfl hR
set_option maxRecDepth 20000 in
theorem bp_idle_x {Ls tp ip x d : Nat} {Z : mj_X} (hd : 3 ≤ d) (htp : tp = 3 ∨ tp = 17)  {m : mj_M} {r : Int32} (h : bp_idle tp m = some r) : mj_Ex false (mj_sh Ls) (mj_rf tp ip) Z d 41 [.ref 1] (110, x) m (some (.int r)) (110, x) m := by
  exact mj_Ex_of (cd := mj_cd_41) (L := [some (.ref 1), none, none]) (by omega) (by decide) rfl (Nat.le_of_ble_eq_true rfl) rfl (fun P hC => bp_idle_p hC (by omega) htp h ⟨rfl, rfl, rfl⟩)
def bp_see (tp : Nat) (v1 : Int32) (v2 : Int32) (v3 : Int32) (v4 : Int32) (m : mj_M) : Option (Int32 × mj_M) :=
  (if (bp_isWithin v1 1 40 m) = 0 then some ((-1), m) else
  (if (to_isWork tp v2 m) = 0 then some ((-1), m) else
  (if (bp_isWithin v3 0 999 m) = 0 then some ((-1), m) else
  (si_add v1 v2 v3 v4 m).bind fun q4 =>
  some (q4.1, q4.2))))
set_option maxRecDepth 20000 in
theorem bp_see_p {Ls tp ip x d : Nat} {Z : mj_X} {R : Option Value → mj_G → mj_M → Prop} {P : mj_K → Prop} (hC : mj_cls false (mj_sh Ls) (mj_rf tp ip) mj_dv mj_cd_42 (mj_Ex false (mj_sh Ls) (mj_rf tp ip) Z d) R P) (hd : 2 ≤ d) (htp : tp = 3 ∨ tp = 17) {v1 : Int32} {v2 : Int32} {v3 : Int32} {v4 : Int32} {m : mj_M} {r : (Int32 × mj_M)} (h : bp_see tp v1 v2 v3 v4 m = some r) (hR : R (some (.int r.1)) (110, x) r.2) : P (0, [some (.ref 1), some (.int v1), some (.int v2), some (.int v3), some (.int v4)], [], (110, x), m) := by
  unfold bp_see at h
  rcases htp with rfl | rfl
  all_goals
    refine mj_gcp hC 3 ?_
    show P (4, [some (.ref 1), some (.int v1), some (.int v2), some (.int v3), some (.int v4)], [.int 40, .int 1, .int v1], (110, x), m)
    refine mj_pcall hC rfl (bp_isWithin_x (Nat.le_trans (by decide) hd)) ?_
    show P (7, [some (.ref 1), some (.int v1), some (.int v2), some (.int v3), some (.int v4)], [.int (bp_isWithin v1 1 40 m)], (110, x), m)
    refine mj_gcp hC 1 ?_
    show P (mj_pick 32 10 ((bp_isWithin v1 1 40 m) = 0), [some (.ref 1), some (.int v1), some (.int v2), some (.int v3), some (.int v4)], [], (110, x), m)
    refine mj_pbr (fun c1 => ?_) (fun c1 => ?_)
    · rw [if_pos c1] at h
      refine mj_gcp hC 1 ?_
      show P (33, [some (.ref 1), some (.int v1), some (.int v2), some (.int v3), some (.int v4)], [.int (-1)], (110, x), m)
      cases h
      exact mj_pret hC rfl hR
    · rw [if_neg c1] at h
      refine mj_gcp hC 3 ?_
      show P (15, [some (.ref 1), some (.int v1), some (.int v2), some (.int v3), some (.int v4)], [.int v2, .ref _], (110, x), m)
      refine mj_pcall hC rfl (to_isWork_x (Nat.le_trans (by decide) hd) (by decide)) ?_
      show P (18, [some (.ref 1), some (.int v1), some (.int v2), some (.int v3), some (.int v4)], [.int (to_isWork _ v2 m)], (110, x), m)
      refine mj_gcp hC 1 ?_
      show P (mj_pick 32 21 ((to_isWork _ v2 m) = 0), [some (.ref 1), some (.int v1), some (.int v2), some (.int v3), some (.int v4)], [], (110, x), m)
      refine mj_pbr (fun c2 => ?_) (fun c2 => ?_)
      · rw [if_pos c2] at h
        refine mj_gcp hC 1 ?_
        show P (33, [some (.ref 1), some (.int v1), some (.int v2), some (.int v3), some (.int v4)], [.int (-1)], (110, x), m)
        cases h
        exact mj_pret hC rfl hR
      · rw [if_neg c2] at h
        refine mj_gcp hC 3 ?_
        show P (26, [some (.ref 1), some (.int v1), some (.int v2), some (.int v3), some (.int v4)], [.int 999, .int 0, .int v3], (110, x), m)
        refine mj_pcall hC rfl (bp_isWithin_x (Nat.le_trans (by decide) hd)) ?_
        show P (29, [some (.ref 1), some (.int v1), some (.int v2), some (.int v3), some (.int v4)], [.int (bp_isWithin v3 0 999 m)], (110, x), m)
        refine mj_gcp hC 1 ?_
        show P (mj_pick 32 34 ((bp_isWithin v3 0 999 m) = 0), [some (.ref 1), some (.int v1), some (.int v2), some (.int v3), some (.int v4)], [], (110, x), m)
        refine mj_pbr (fun c3 => ?_) (fun c3 => ?_)
        · rw [if_pos c3] at h
          refine mj_gcp hC 1 ?_
          show P (33, [some (.ref 1), some (.int v1), some (.int v2), some (.int v3), some (.int v4)], [.int (-1)], (110, x), m)
          cases h
          exact mj_pret hC rfl hR
        · rw [if_neg c3] at h
          refine mj_gcp hC 6 ?_
          show P (43, [some (.ref 1), some (.int v1), some (.int v2), some (.int v3), some (.int v4)], [.int v4, .int v3, .int v2, .int v1, .ref 61], (110, x), m)
          obtain ⟨q4, eq4, h⟩ := mj_bnd h
          refine mj_pcall hC rfl (si_add_x (Nat.le_trans (by decide) hd) eq4) ?_
          show P (46, [some (.ref 1), some (.int v1), some (.int v2), some (.int v3), some (.int v4)], [.int q4.1], (110, x), q4.2)
          cases h
          exact mj_pret hC rfl hR
set_option maxRecDepth 20000 in
theorem bp_see_x {Ls tp ip x d : Nat} {Z : mj_X} (hd : 3 ≤ d) (htp : tp = 3 ∨ tp = 17) {v1 : Int32} {v2 : Int32} {v3 : Int32} {v4 : Int32} {m : mj_M} {r : (Int32 × mj_M)} (h : bp_see tp v1 v2 v3 v4 m = some r) : mj_Ex false (mj_sh Ls) (mj_rf tp ip) Z d 42 [.ref 1, .int v1, .int v2, .int v3, .int v4] (110, x) m (some (.int r.1)) (110, x) r.2 := by
  exact mj_Ex_of (cd := mj_cd_42) (L := [some (.ref 1), some (.int v1), some (.int v2), some (.int v3), some (.int v4)]) (by omega) (by decide) rfl (Nat.le_of_ble_eq_true rfl) rfl (fun P hC => bp_see_p hC (by omega) htp h ⟨rfl, rfl, rfl⟩)
def bp_strike  (v1 : Int32) (m : mj_M) : Option (Int32 × mj_M) :=
  (si_addStrike v1 m).bind fun q1 =>
  some (q1.1, q1.2)
set_option maxRecDepth 20000 in
theorem bp_strike_p {Ls tp ip x d : Nat} {Z : mj_X} {R : Option Value → mj_G → mj_M → Prop} {P : mj_K → Prop} (hC : mj_cls false (mj_sh Ls) (mj_rf tp ip) mj_dv mj_cd_43 (mj_Ex false (mj_sh Ls) (mj_rf tp ip) Z d) R P) (hd : 2 ≤ d) {v1 : Int32} {m : mj_M} {r : (Int32 × mj_M)} (h : bp_strike v1 m = some r) (hR : R (some (.int r.1)) (110, x) r.2) : P (0, [some (.ref 1), some (.int v1)], [], (110, x), m) := by
  unfold bp_strike at h
  refine mj_gcp hC 3 ?_
  show P (5, [some (.ref 1), some (.int v1)], [.int v1, .ref 61], (110, x), m)
  obtain ⟨q1, eq1, h⟩ := mj_bnd h
  refine mj_pcall hC rfl (si_addStrike_x (Nat.le_trans (by decide) hd) eq1) ?_
  show P (8, [some (.ref 1), some (.int v1)], [.int q1.1], (110, x), q1.2)
  cases h
  exact mj_pret hC rfl hR
set_option maxRecDepth 20000 in
theorem bp_strike_x {Ls tp ip x d : Nat} {Z : mj_X} (hd : 3 ≤ d) {v1 : Int32} {m : mj_M} {r : (Int32 × mj_M)} (h : bp_strike v1 m = some r) : mj_Ex false (mj_sh Ls) (mj_rf tp ip) Z d 43 [.ref 1, .int v1] (110, x) m (some (.int r.1)) (110, x) r.2 := by
  exact mj_Ex_of (cd := mj_cd_43) (L := [some (.ref 1), some (.int v1)]) (by omega) (by decide) rfl (Nat.le_of_ble_eq_true rfl) rfl (fun P hC => bp_strike_p hC (by omega) h ⟨rfl, rfl, rfl⟩)
def bp_undo   (m : mj_M) : Option (Int32 × mj_M) :=
  (de_takeBack 42 m).bind fun q1 =>
  some (q1.1, q1.2)
set_option maxRecDepth 20000 in
theorem bp_undo_p {Ls tp ip x d : Nat} {Z : mj_X} {R : Option Value → mj_G → mj_M → Prop} {P : mj_K → Prop} (hC : mj_cls false (mj_sh Ls) (mj_rf tp ip) mj_dv mj_cd_49 (mj_Ex false (mj_sh Ls) (mj_rf tp ip) Z d) R P) (hd : 3 ≤ d)  {m : mj_M} {r : (Int32 × mj_M)} (h : bp_undo m = some r) (hR : R (some (.int r.1)) (110, x) r.2) : P (0, [some (.ref 1)], [], (110, x), m) := by
  unfold bp_undo at h
  refine mj_gcp hC 4 ?_
  show P (8, [some (.ref 1)], [.ref 42, .ref 57], (110, x), m)
  obtain ⟨q1, eq1, h⟩ := mj_bnd h
  refine mj_pcall hC rfl (de_takeBack_x (Nat.le_trans (by decide) hd) (by decide) eq1) ?_
  show P (11, [some (.ref 1)], [.int q1.1], (110, x), q1.2)
  cases h
  exact mj_pret hC rfl hR
set_option maxRecDepth 20000 in
theorem bp_undo_x {Ls tp ip x d : Nat} {Z : mj_X} (hd : 4 ≤ d)  {m : mj_M} {r : (Int32 × mj_M)} (h : bp_undo m = some r) : mj_Ex false (mj_sh Ls) (mj_rf tp ip) Z d 49 [.ref 1] (110, x) m (some (.int r.1)) (110, x) r.2 := by
  exact mj_Ex_of (cd := mj_cd_49) (L := [some (.ref 1)]) (by omega) (by decide) rfl (Nat.le_of_ble_eq_true rfl) rfl (fun P hC => bp_undo_p hC (by omega) h ⟨rfl, rfl, rfl⟩)
def bp_keep   (m : mj_M) : Option (Int32 × mj_M) :=
  (sa_copy 52 42 m).bind fun q1 =>
  some ((mj_I (q1 42 0)), (mj_up q1 1 9 (.int 1)))
set_option maxRecDepth 20000 in
theorem bp_keep_p {Ls tp ip x d : Nat} {Z : mj_X} {R : Option Value → mj_G → mj_M → Prop} {P : mj_K → Prop} (hC : mj_cls false (mj_sh Ls) (mj_rf tp ip) mj_dv mj_cd_50 (mj_Ex false (mj_sh Ls) (mj_rf tp ip) Z d) R P) (hd : 2 ≤ d)  {m : mj_M} {r : (Int32 × mj_M)} (h : bp_keep m = some r) (hR : R (some (.int r.1)) (110, x) r.2) : P (0, [some (.ref 1)], [], (110, x), m) := by
  unfold bp_keep at h
  refine mj_gcp hC 4 ?_
  show P (8, [some (.ref 1)], [.ref 42, .ref 52], (110, x), m)
  obtain ⟨q1, eq1, h⟩ := mj_bnd h
  refine mj_pcall hC rfl (sa_copy_x (Nat.le_trans (by decide) hd) (by decide) eq1) ?_
  show P (11, [some (.ref 1)], [], (110, x), q1)
  refine mj_gcp hC 6 ?_
  show P (23, [some (.ref 1)], [.int (mj_I (q1 42 0))], (110, x), (mj_up q1 1 9 (.int 1)))
  cases h
  exact mj_pret hC rfl hR
set_option maxRecDepth 20000 in
theorem bp_keep_x {Ls tp ip x d : Nat} {Z : mj_X} (hd : 3 ≤ d)  {m : mj_M} {r : (Int32 × mj_M)} (h : bp_keep m = some r) : mj_Ex false (mj_sh Ls) (mj_rf tp ip) Z d 50 [.ref 1] (110, x) m (some (.int r.1)) (110, x) r.2 := by
  exact mj_Ex_of (cd := mj_cd_50) (L := [some (.ref 1)]) (by omega) (by decide) rfl (Nat.le_of_ble_eq_true rfl) rfl (fun P hC => bp_keep_p hC (by omega) h ⟨rfl, rfl, rfl⟩)
def bp_back   (m : mj_M) : Option (Int32 × mj_M) :=
  (if (mj_I (m 1 9)) = 0 then some ((-1), m) else
  (sa_copy 42 52 m).bind fun q2 =>
  (de_forget q2).bind fun q3 =>
  some ((mj_I (q3 42 0)), q3))
set_option maxRecDepth 20000 in
theorem bp_back_p {Ls tp ip x d : Nat} {Z : mj_X} {R : Option Value → mj_G → mj_M → Prop} {P : mj_K → Prop} (hC : mj_cls false (mj_sh Ls) (mj_rf tp ip) mj_dv mj_cd_51 (mj_Ex false (mj_sh Ls) (mj_rf tp ip) Z d) R P) (hd : 2 ≤ d)  {m : mj_M} {r : (Int32 × mj_M)} (h : bp_back m = some r) (hR : R (some (.int r.1)) (110, x) r.2) : P (0, [some (.ref 1)], [], (110, x), m) := by
  unfold bp_back at h
  refine mj_gcp hC 3 ?_
  show P (mj_pick 7 9 ((mj_I (m 1 9)) = 0), [some (.ref 1)], [], (110, x), m)
  refine mj_pbr (fun c1 => ?_) (fun c1 => ?_)
  · rw [if_pos c1] at h
    refine mj_gcp hC 1 ?_
    show P (8, [some (.ref 1)], [.int (-1)], (110, x), m)
    cases h
    exact mj_pret hC rfl hR
  · rw [if_neg c1] at h
    refine mj_gcp hC 4 ?_
    show P (17, [some (.ref 1)], [.ref 52, .ref 42], (110, x), m)
    obtain ⟨q2, eq2, h⟩ := mj_bnd h
    refine mj_pcall hC rfl (sa_copy_x (Nat.le_trans (by decide) hd) (by decide) eq2) ?_
    show P (20, [some (.ref 1)], [], (110, x), q2)
    refine mj_gcp hC 2 ?_
    show P (24, [some (.ref 1)], [.ref 57], (110, x), q2)
    obtain ⟨q3, eq3, h⟩ := mj_bnd h
    refine mj_pcall hC rfl (de_forget_x (Nat.le_trans (by decide) hd) eq3) ?_
    show P (27, [some (.ref 1)], [], (110, x), q3)
    refine mj_gcp hC 3 ?_
    show P (34, [some (.ref 1)], [.int (mj_I (q3 42 0))], (110, x), q3)
    cases h
    exact mj_pret hC rfl hR
set_option maxRecDepth 20000 in
theorem bp_back_x {Ls tp ip x d : Nat} {Z : mj_X} (hd : 3 ≤ d)  {m : mj_M} {r : (Int32 × mj_M)} (h : bp_back m = some r) : mj_Ex false (mj_sh Ls) (mj_rf tp ip) Z d 51 [.ref 1] (110, x) m (some (.int r.1)) (110, x) r.2 := by
  exact mj_Ex_of (cd := mj_cd_51) (L := [some (.ref 1)]) (by omega) (by decide) rfl (Nat.le_of_ble_eq_true rfl) rfl (fun P hC => bp_back_p hC (by omega) h ⟨rfl, rfl, rfl⟩)
