/-! FUNCTIONS OUT OF THE INSTRUCTIONS, AND THAT A RUN GIVES THEM (made by wip/whole/emit.py) -/
def bp_feedFour_l3  (v1 : Int32) (s3 : (Int32 × mj_M)) : Option (Nat × (Int32 × mj_M)) :=
  (if s3.1 < 0 then some (1, (s3.1, s3.2)) else
  some (0, ((s3.1 + (-8)), (mj_up (fx_put s3.2 2 (mj_I (s3.2 1 1)) ((((v1 : Int32).toUInt32 >>> ((s3.1 : Int32).toUInt32 &&& Int32.toUInt32 31)).toInt32) &&& 255)) 1 1 (.int ((mj_I (s3.2 1 1)) + 1))))))
def bp_feedFour  (v1 : Int32) (m : mj_M) : Option mj_M :=
  (mj_loop (bp_feedFour_l3 v1) mj_F (24, m)).bind fun q2 =>
  some q2.2.2
set_option maxRecDepth 20000 in
theorem bp_feedFour_l3_x {Ls tp ip x d : Nat} {Z : mj_X} {R : Option Value → mj_G → mj_M → Prop} {P : mj_K → Prop} (hC : mj_cls false (mj_sh Ls) (mj_rf tp ip) mj_dv mj_cd_2 (mj_Ex false (mj_sh Ls) (mj_rf tp ip) Z d) R P) (hd : 1 ≤ d) {v1 : Int32} (s3 : (Int32 × mj_M)) {t : Nat} {w : (Int32 × mj_M)} (h : bp_feedFour_l3 v1 s3 = some (t, w)) (h0 : t = 0 → P (3, [some (.ref 1), some (.int v1), some (.int w.1)], [], (110, x), w.2)) (h1 : t = 1 → P (41, [none, none, none], [], (110, x), w.2)) : P (3, [some (.ref 1), some (.int v1), some (.int s3.1)], [], (110, x), s3.2) := by
  unfold bp_feedFour_l3 at h
  refine mj_gcp hC 2 ?_
  show P (mj_pick 41 7 (s3.1 < 0), [some (.ref 1), some (.int v1), some (.int s3.1)], [], (110, x), s3.2)
  refine mj_pbr (fun c1 => ?_) (fun c1 => ?_)
  · rw [if_pos c1] at h
    cases h
    exact mj_less hC (L0 := [none, none, none]) trivial (h1 rfl)
  · rw [if_neg c1] at h
    refine mj_gcp hC 9 ?_
    show P (22, [some (.ref 1), some (.int v1), some (.int s3.1)], [.int ((((v1 : Int32).toUInt32 >>> ((s3.1 : Int32).toUInt32 &&& Int32.toUInt32 31)).toInt32) &&& 255), .int (mj_I (s3.2 1 1)), .ref 2], (110, x), s3.2)
    refine mj_pcall hC rfl (bp_put_x (Nat.le_trans (by decide) hd) (by decide)) ?_
    show P (25, [some (.ref 1), some (.int v1), some (.int s3.1)], [], (110, x), (fx_put s3.2 2 (mj_I (s3.2 1 1)) ((((v1 : Int32).toUInt32 >>> ((s3.1 : Int32).toUInt32 &&& Int32.toUInt32 31)).toInt32) &&& 255)))
    refine mj_gcp hC 8 ?_
    show P (3, [some (.ref 1), some (.int v1), some (.int (s3.1 + (-8)))], [], (110, x), (mj_up (fx_put s3.2 2 (mj_I (s3.2 1 1)) ((((v1 : Int32).toUInt32 >>> ((s3.1 : Int32).toUInt32 &&& Int32.toUInt32 31)).toInt32) &&& 255)) 1 1 (.int ((mj_I (s3.2 1 1)) + 1))))
    generalize (s3.1 + (-8)) = nz0 at h ⊢
    cases h
    exact mj_less hC (L0 := [some (.ref 1), some (.int v1), some (.int nz0)]) (And.intro rfl (And.intro rfl (And.intro rfl trivial))) (h0 rfl)
set_option maxRecDepth 20000 in
theorem bp_feedFour_p {Ls tp ip x d : Nat} {Z : mj_X} {R : Option Value → mj_G → mj_M → Prop} {P : mj_K → Prop} (hC : mj_cls false (mj_sh Ls) (mj_rf tp ip) mj_dv mj_cd_2 (mj_Ex false (mj_sh Ls) (mj_rf tp ip) Z d) R P) (hd : 1 ≤ d) {v1 : Int32} {m : mj_M} {r : mj_M} (h : bp_feedFour v1 m = some r) (hR : R none (110, x) r) : P (0, [some (.ref 1), some (.int v1), none], [], (110, x), m) := by
  unfold bp_feedFour at h
  refine mj_gcp hC 2 ?_
  show P (3, [some (.ref 1), some (.int v1), some (.int 24)], [], (110, x), m)
  obtain ⟨q2, eq2, h⟩ := mj_bnd h
  refine mj_less hC (L0 := [some (.ref 1), some (.int v1), some (.int 24)]) (And.intro rfl (And.intro rfl (And.intro rfl trivial))) ?_
  refine mj_loop_P (A := fun z3 => P (3, [some (.ref 1), some (.int v1), some (.int z3.1)], [], (110, x), z3.2)) (E := fun _ z3 => P (41, [none, none, none], [], (110, x), z3.2)) (fun zz t w hb h0 h1 => bp_feedFour_l3_x hC hd zz hb h0 (fun ht => h1 0 ht)) mj_F _ q2 eq2 ?_
  cases h
  exact mj_pret hC rfl hR
set_option maxRecDepth 20000 in
theorem bp_feedFour_x {Ls tp ip x d : Nat} {Z : mj_X} (hd : 2 ≤ d) {v1 : Int32} {m : mj_M} {r : mj_M} (h : bp_feedFour v1 m = some r) : mj_Ex false (mj_sh Ls) (mj_rf tp ip) Z d 2 [.ref 1, .int v1] (110, x) m none (110, x) r := by
  exact mj_Ex_of (cd := mj_cd_2) (L := [some (.ref 1), some (.int v1), none]) (by omega) (by decide) rfl (Nat.le_of_ble_eq_true rfl) rfl (fun P hC => bp_feedFour_p hC (by omega) h ⟨rfl, rfl, rfl⟩)
def bp_fault  (v1 : Int32) (m : mj_M) : Int32 :=
  (if v1 = 0 then (mj_I (m 31 4)) else
  (if v1 = 1 then (mj_I (m 31 5)) else
  (-1)))
set_option maxRecDepth 20000 in
theorem bp_fault_p {Ls tp ip x d : Nat} {Z : mj_X} {R : Option Value → mj_G → mj_M → Prop} {P : mj_K → Prop} (hC : mj_cls false (mj_sh Ls) (mj_rf tp ip) mj_dv mj_cd_4 (mj_Ex false (mj_sh Ls) (mj_rf tp ip) Z d) R P) (hd : 0 ≤ d) {v1 : Int32} {m : mj_M} (hR : R (some (.int (bp_fault v1 m))) (110, x) m) : P (0, [some (.ref 1), some (.int v1)], [], (110, x), m) := by
  unfold bp_fault at hR
  refine mj_gcp hC 2 ?_
  show P ((mj_sw v1 [(0, 28), (1, 36)] 44), [some (.ref 1), some (.int v1)], [], (110, x), m)
  refine mj_psw (fun c1 => ?_) (fun c1 => ?_)
  · rw [if_pos c1] at hR
    refine mj_gcp hC 3 ?_
    show P (35, [some (.ref 1), some (.int v1)], [.int (mj_I (m 31 4))], (110, x), m)
    exact mj_pret hC rfl hR
  · rw [if_neg c1] at hR
    refine mj_psw (fun c2 => ?_) (fun c2 => ?_)
    · rw [if_pos c2] at hR
      refine mj_gcp hC 3 ?_
      show P (43, [some (.ref 1), some (.int v1)], [.int (mj_I (m 31 5))], (110, x), m)
      exact mj_pret hC rfl hR
    · rw [if_neg c2] at hR
      show P (44, [some (.ref 1), some (.int v1)], [], (110, x), m)
      refine mj_gcp hC 1 ?_
      show P (45, [some (.ref 1), some (.int v1)], [.int (-1)], (110, x), m)
      exact mj_pret hC rfl hR
set_option maxRecDepth 20000 in
theorem bp_fault_x {Ls tp ip x d : Nat} {Z : mj_X} (hd : 1 ≤ d) {v1 : Int32} {m : mj_M}  : mj_Ex false (mj_sh Ls) (mj_rf tp ip) Z d 4 [.ref 1, .int v1] (110, x) m (some (.int (bp_fault v1 m))) (110, x) m := by
  exact mj_Ex_of (cd := mj_cd_4) (L := [some (.ref 1), some (.int v1)]) (by omega) (by decide) rfl (Nat.le_of_ble_eq_true rfl) rfl (fun P hC => bp_fault_p hC (by omega) ⟨rfl, rfl, rfl⟩)
def bp_named (tp : Nat) (v1 : Int32) (v2 : Int32) (m : mj_M) : Int32 :=
  (if v1 = 0 then (fx_find m (tp + 1) (mj_I (m tp 0)) v2) else
  (if v1 = 1 then (fx_find m (tp + 5) (mj_I (m tp 5)) v2) else
  (-1)))
set_option maxRecDepth 20000 in
theorem bp_named_p {Ls tp ip x d : Nat} {Z : mj_X} {R : Option Value → mj_G → mj_M → Prop} {P : mj_K → Prop} (hC : mj_cls false (mj_sh Ls) (mj_rf tp ip) mj_dv mj_cd_5 (mj_Ex false (mj_sh Ls) (mj_rf tp ip) Z d) R P) (hd : 2 ≤ d) (htp : tp = 3 ∨ tp = 17) {v1 : Int32} {v2 : Int32} {m : mj_M} (hR : R (some (.int (bp_named tp v1 v2 m))) (110, x) m) : P (0, [some (.ref 1), some (.int v1), some (.int v2)], [], (110, x), m) := by
  unfold bp_named at hR
  rcases htp with rfl | rfl
  all_goals
    refine mj_gcp hC 2 ?_
    show P ((mj_sw v1 [(0, 28), (1, 47)] 66), [some (.ref 1), some (.int v1), some (.int v2)], [], (110, x), m)
    refine mj_psw (fun c1 => ?_) (fun c1 => ?_)
    · rw [if_pos c1] at hR
      refine mj_gcp hC 7 ?_
      show P (43, [some (.ref 1), some (.int v1), some (.int v2)], [.int v2, .int (mj_I (m _ 0)), .ref _], (110, x), m)
      refine mj_pcall hC rfl (bp_find_x (Nat.le_trans (by decide) hd) (by decide)) ?_
      show P (46, [some (.ref 1), some (.int v1), some (.int v2)], [.int (fx_find m _ (mj_I (m _ 0)) v2)], (110, x), m)
      exact mj_pret hC rfl hR
    · rw [if_neg c1] at hR
      refine mj_psw (fun c2 => ?_) (fun c2 => ?_)
      · rw [if_pos c2] at hR
        refine mj_gcp hC 7 ?_
        show P (62, [some (.ref 1), some (.int v1), some (.int v2)], [.int v2, .int (mj_I (m _ 5)), .ref _], (110, x), m)
        refine mj_pcall hC rfl (bp_find_x (Nat.le_trans (by decide) hd) (by decide)) ?_
        show P (65, [some (.ref 1), some (.int v1), some (.int v2)], [.int (fx_find m _ (mj_I (m _ 5)) v2)], (110, x), m)
        exact mj_pret hC rfl hR
      · rw [if_neg c2] at hR
        show P (66, [some (.ref 1), some (.int v1), some (.int v2)], [], (110, x), m)
        refine mj_gcp hC 1 ?_
        show P (67, [some (.ref 1), some (.int v1), some (.int v2)], [.int (-1)], (110, x), m)
        exact mj_pret hC rfl hR
set_option maxRecDepth 20000 in
theorem bp_named_x {Ls tp ip x d : Nat} {Z : mj_X} (hd : 3 ≤ d) (htp : tp = 3 ∨ tp = 17) {v1 : Int32} {v2 : Int32} {m : mj_M}  : mj_Ex false (mj_sh Ls) (mj_rf tp ip) Z d 5 [.ref 1, .int v1, .int v2] (110, x) m (some (.int (bp_named tp v1 v2 m))) (110, x) m := by
  exact mj_Ex_of (cd := mj_cd_5) (L := [some (.ref 1), some (.int v1), some (.int v2)]) (by omega) (by decide) rfl (Nat.le_of_ble_eq_true rfl) rfl (fun P hC => bp_named_p hC (by omega) htp ⟨rfl, rfl, rfl⟩)
def bp_meet_l79  (v1 : Int32) (v3 : Int32) (v4 : Int32) (v5 : Int32) (m : mj_M) (s79 : (Int32 × Int32)) : Option (Nat × (Int32 × Int32)) :=
  (if v3 ≤ s79.1 then some (2, (s79.1, 0)) else
  (if (v3 : Int32) = 0 then none else
  (if (((v5 + (s79.1 * v1)) - v4) - ((v5 + (s79.1 * v1)) - v4) / v3 * v3) = 0 then some (1, (s79.1, (v5 + (s79.1 * v1)))) else
  some (0, ((s79.1 + 1), (v5 + (s79.1 * v1)))))))
def bp_meet_j74  (v1 : Int32) (v3 : Int32) (v4 : Int32) (s0 : Int32) (m : mj_M) : Option Int32 :=
  (mj_loop (bp_meet_l79 v1 v3 v4 s0 m) mj_F (0, 0)).bind fun q13 =>
  (if q13.1 = 0 then some q13.2.2 else some (-2))
def bp_meet  (v1 : Int32) (v2 : Int32) (v3 : Int32) (v4 : Int32) (m : mj_M) : Option Int32 :=
  (if v1 < 1 then some (-1) else
  (if 999 < v1 then some (-1) else
  (if v2 < 0 then some (-1) else
  (if 999 < v2 then some (-1) else
  (if v3 < 1 then some (-1) else
  (if 999 < v3 then some (-1) else
  (if v4 < 0 then some (-1) else
  (if v4 ≤ 999 then (if v4 ≤ v2 then bp_meet_j74 v1 v3 v4 v2 m else
  (if (v1 : Int32) = 0 then none else
  bp_meet_j74 v1 v3 v4 (v2 + (((((v4 - v2) + v1) - 1) / v1) * v1)) m)) else
  some (-1)))))))))
set_option maxRecDepth 20000 in
theorem bp_meet_l79_x {Ls tp ip x d : Nat} {Z : mj_X} {R : Option Value → mj_G → mj_M → Prop} {P : mj_K → Prop} (hC : mj_cls false (mj_sh Ls) (mj_rf tp ip) mj_dv mj_cd_24 (mj_Ex false (mj_sh Ls) (mj_rf tp ip) Z d) R P) (hd : 0 ≤ d) {v1 : Int32} {v3 : Int32} {v4 : Int32} {v5 : Int32} {m : mj_M} (s79 : (Int32 × Int32)) {t : Nat} {w : (Int32 × Int32)} (h : bp_meet_l79 v1 v3 v4 v5 m s79 = some (t, w)) (h0 : t = 0 → P (79, [none, some (.int v1), none, some (.int v3), some (.int v4), some (.int v5), some (.int w.1), none], [], (110, x), m)) (h1 : t = 1 → P (104, [none, none, none, none, none, none, none, some (.int w.2)], [], (110, x), m)) (h2 : t = 2 → P (113, [none, none, none, none, none, none, none, none], [], (110, x), m)) : P (79, [none, some (.int v1), none, some (.int v3), some (.int v4), some (.int v5), some (.int s79.1), none], [], (110, x), m) := by
  unfold bp_meet_l79 at h
  refine mj_gcp hC 3 ?_
  show P (mj_pick 113 85 (v3 ≤ s79.1), [none, some (.int v1), none, some (.int v3), some (.int v4), some (.int v5), some (.int s79.1), none], [], (110, x), m)
  refine mj_pbr (fun c10 => ?_) (fun c10 => ?_)
  · rw [if_pos c10] at h
    cases h
    exact mj_less hC (L0 := [none, none, none, none, none, none, none, none]) trivial (h2 rfl)
  · rw [if_neg c10] at h
    obtain ⟨k11, h⟩ := mj_ifn h
    refine mj_gcp hC 12 ?_
    show _ ∧ (P (mj_pick 104 107 ((((v5 + (s79.1 * v1)) - v4) - ((v5 + (s79.1 * v1)) - v4) / v3 * v3) = 0), [none, some (.int v1), none, some (.int v3), some (.int v4), some (.int v5), some (.int s79.1), some (.int (v5 + (s79.1 * v1)))], [], (110, x), m))
    refine And.intro k11 (?_)
    refine mj_pbr (fun c12 => ?_) (fun c12 => ?_)
    · rw [if_pos c12] at h
      cases h
      exact mj_less hC (L0 := [none, none, none, none, none, none, none, some (.int (v5 + (s79.1 * v1)))]) (And.intro rfl trivial) (h1 rfl)
    · rw [if_neg c12] at h
      refine mj_gcp hC 2 ?_
      show P (79, [none, some (.int v1), none, some (.int v3), some (.int v4), some (.int v5), some (.int (s79.1 + 1)), some (.int (v5 + (s79.1 * v1)))], [], (110, x), m)
      cases h
      exact mj_less hC (L0 := [none, some (.int v1), none, some (.int v3), some (.int v4), some (.int v5), some (.int (s79.1 + 1)), none]) (And.intro rfl (And.intro rfl (And.intro rfl (And.intro rfl (And.intro rfl trivial))))) (h0 rfl)
set_option maxRecDepth 20000 in
theorem bp_meet_j74_x {Ls tp ip x d : Nat} {Z : mj_X} {R : Option Value → mj_G → mj_M → Prop} {P : mj_K → Prop} (hC : mj_cls false (mj_sh Ls) (mj_rf tp ip) mj_dv mj_cd_24 (mj_Ex false (mj_sh Ls) (mj_rf tp ip) Z d) R P) (hd : 0 ≤ d) {v1 : Int32} {v3 : Int32} {v4 : Int32} {s0 : Int32} {m : mj_M} {r : Int32} (h : bp_meet_j74 v1 v3 v4 s0 m = some r) (hR : R (some (.int r)) (110, x) m) : P (74, [none, some (.int v1), none, some (.int v3), some (.int v4), none, none, none], [.int s0], (110, x), m) := by
  unfold bp_meet_j74 at h
  refine mj_gcp hC 3 ?_
  show P (79, [none, some (.int v1), none, some (.int v3), some (.int v4), some (.int s0), some (.int 0), none], [], (110, x), m)
  obtain ⟨q13, eq13, h⟩ := mj_bnd h
  refine mj_less hC (L0 := [none, some (.int v1), none, some (.int v3), some (.int v4), some (.int s0), some (.int 0), none]) (And.intro rfl (And.intro rfl (And.intro rfl (And.intro rfl (And.intro rfl trivial))))) ?_
  refine mj_loop_P (A := fun z79 => P (79, [none, some (.int v1), none, some (.int v3), some (.int v4), some (.int s0), some (.int z79.1), none], [], (110, x), m)) (E := fun j z79 => (j = 0 → P (104, [none, none, none, none, none, none, none, some (.int z79.2)], [], (110, x), m)) ∧ (¬ j = 0 → P (113, [none, none, none, none, none, none, none, none], [], (110, x), m))) (fun zz t w hb h0 h1 => bp_meet_l79_x hC hd zz hb h0 (fun ht => (h1 0 ht).1 rfl) (fun ht => (h1 1 ht).2 (by decide))) mj_F _ q13 eq13 ⟨fun hj => ?_, fun hj => ?_⟩
  · rw [if_pos hj] at h
    refine mj_gcp hC 1 ?_
    show P (106, [none, none, none, none, none, none, none, some (.int q13.2.2)], [.int q13.2.2], (110, x), m)
    cases h
    exact mj_pret hC rfl hR
  · rw [if_neg hj] at h
    refine mj_gcp hC 1 ?_
    show P (115, [none, none, none, none, none, none, none, none], [.int (-2)], (110, x), m)
    cases h
    exact mj_pret hC rfl hR
set_option maxRecDepth 20000 in
theorem bp_meet_p {Ls tp ip x d : Nat} {Z : mj_X} {R : Option Value → mj_G → mj_M → Prop} {P : mj_K → Prop} (hC : mj_cls false (mj_sh Ls) (mj_rf tp ip) mj_dv mj_cd_24 (mj_Ex false (mj_sh Ls) (mj_rf tp ip) Z d) R P) (hd : 0 ≤ d) {v1 : Int32} {v2 : Int32} {v3 : Int32} {v4 : Int32} {m : mj_M} {r : Int32} (h : bp_meet v1 v2 v3 v4 m = some r) (hR : R (some (.int r)) (110, x) m) : P (0, [some (.ref 1), some (.int v1), some (.int v2), some (.int v3), some (.int v4), none, none, none], [], (110, x), m) := by
  unfold bp_meet at h
  refine mj_gcp hC 3 ?_
  show P (mj_pick 48 5 (v1 < 1), [some (.ref 1), some (.int v1), some (.int v2), some (.int v3), some (.int v4), none, none, none], [], (110, x), m)
  refine mj_pbr (fun c1 => ?_) (fun c1 => ?_)
  · rw [if_pos c1] at h
    refine mj_gcp hC 1 ?_
    show P (49, [some (.ref 1), some (.int v1), some (.int v2), some (.int v3), some (.int v4), none, none, none], [.int (-1)], (110, x), m)
    cases h
    exact mj_pret hC rfl hR
  · rw [if_neg c1] at h
    refine mj_gcp hC 3 ?_
    show P (mj_pick 48 12 (999 < v1), [some (.ref 1), some (.int v1), some (.int v2), some (.int v3), some (.int v4), none, none, none], [], (110, x), m)
    refine mj_pbr (fun c2 => ?_) (fun c2 => ?_)
    · rw [if_pos c2] at h
      refine mj_gcp hC 1 ?_
      show P (49, [some (.ref 1), some (.int v1), some (.int v2), some (.int v3), some (.int v4), none, none, none], [.int (-1)], (110, x), m)
      cases h
      exact mj_pret hC rfl hR
    · rw [if_neg c2] at h
      refine mj_gcp hC 2 ?_
      show P (mj_pick 48 16 (v2 < 0), [some (.ref 1), some (.int v1), some (.int v2), some (.int v3), some (.int v4), none, none, none], [], (110, x), m)
      refine mj_pbr (fun c3 => ?_) (fun c3 => ?_)
      · rw [if_pos c3] at h
        refine mj_gcp hC 1 ?_
        show P (49, [some (.ref 1), some (.int v1), some (.int v2), some (.int v3), some (.int v4), none, none, none], [.int (-1)], (110, x), m)
        cases h
        exact mj_pret hC rfl hR
      · rw [if_neg c3] at h
        refine mj_gcp hC 3 ?_
        show P (mj_pick 48 23 (999 < v2), [some (.ref 1), some (.int v1), some (.int v2), some (.int v3), some (.int v4), none, none, none], [], (110, x), m)
        refine mj_pbr (fun c4 => ?_) (fun c4 => ?_)
        · rw [if_pos c4] at h
          refine mj_gcp hC 1 ?_
          show P (49, [some (.ref 1), some (.int v1), some (.int v2), some (.int v3), some (.int v4), none, none, none], [.int (-1)], (110, x), m)
          cases h
          exact mj_pret hC rfl hR
        · rw [if_neg c4] at h
          refine mj_gcp hC 3 ?_
          show P (mj_pick 48 28 (v3 < 1), [some (.ref 1), some (.int v1), some (.int v2), some (.int v3), some (.int v4), none, none, none], [], (110, x), m)
          refine mj_pbr (fun c5 => ?_) (fun c5 => ?_)
          · rw [if_pos c5] at h
            refine mj_gcp hC 1 ?_
            show P (49, [some (.ref 1), some (.int v1), some (.int v2), some (.int v3), some (.int v4), none, none, none], [.int (-1)], (110, x), m)
            cases h
            exact mj_pret hC rfl hR
          · rw [if_neg c5] at h
            refine mj_gcp hC 3 ?_
            show P (mj_pick 48 35 (999 < v3), [some (.ref 1), some (.int v1), some (.int v2), some (.int v3), some (.int v4), none, none, none], [], (110, x), m)
            refine mj_pbr (fun c6 => ?_) (fun c6 => ?_)
            · rw [if_pos c6] at h
              refine mj_gcp hC 1 ?_
              show P (49, [some (.ref 1), some (.int v1), some (.int v2), some (.int v3), some (.int v4), none, none, none], [.int (-1)], (110, x), m)
              cases h
              exact mj_pret hC rfl hR
            · rw [if_neg c6] at h
              refine mj_gcp hC 2 ?_
              show P (mj_pick 48 40 (v4 < 0), [some (.ref 1), some (.int v1), some (.int v2), some (.int v3), some (.int v4), none, none, none], [], (110, x), m)
              refine mj_pbr (fun c7 => ?_) (fun c7 => ?_)
              · rw [if_pos c7] at h
                refine mj_gcp hC 1 ?_
                show P (49, [some (.ref 1), some (.int v1), some (.int v2), some (.int v3), some (.int v4), none, none, none], [.int (-1)], (110, x), m)
                cases h
                exact mj_pret hC rfl hR
              · rw [if_neg c7] at h
                refine mj_gcp hC 3 ?_
                show P (mj_pick 50 48 (v4 ≤ 999), [some (.ref 1), some (.int v1), some (.int v2), some (.int v3), some (.int v4), none, none, none], [], (110, x), m)
                refine mj_pbr (fun c8 => ?_) (fun c8 => ?_)
                · rw [if_pos c8] at h
                  refine mj_gcp hC 3 ?_
                  show P (mj_pick 73 56 (v4 ≤ v2), [some (.ref 1), some (.int v1), some (.int v2), some (.int v3), some (.int v4), none, none, none], [], (110, x), m)
                  refine mj_pbr (fun c9 => ?_) (fun c9 => ?_)
                  · rw [if_pos c9] at h
                    refine mj_gcp hC 1 ?_
                    show P (74, [some (.ref 1), some (.int v1), some (.int v2), some (.int v3), some (.int v4), none, none, none], [.int v2], (110, x), m)
                    exact mj_less hC (L0 := [none, some (.int v1), none, some (.int v3), some (.int v4), none, none, none]) (And.intro rfl (And.intro rfl (And.intro rfl trivial))) (bp_meet_j74_x hC hd h hR)
                  · rw [if_neg c9] at h
                    obtain ⟨k14, h⟩ := mj_ifn h
                    refine mj_gcp hC 14 ?_
                    show _ ∧ (P (74, [some (.ref 1), some (.int v1), some (.int v2), some (.int v3), some (.int v4), none, none, none], [.int (v2 + (((((v4 - v2) + v1) - 1) / v1) * v1))], (110, x), m))
                    refine And.intro k14 (?_)
                    exact mj_less hC (L0 := [none, some (.int v1), none, some (.int v3), some (.int v4), none, none, none]) (And.intro rfl (And.intro rfl (And.intro rfl trivial))) (bp_meet_j74_x hC hd h hR)
                · rw [if_neg c8] at h
                  refine mj_gcp hC 1 ?_
                  show P (49, [some (.ref 1), some (.int v1), some (.int v2), some (.int v3), some (.int v4), none, none, none], [.int (-1)], (110, x), m)
                  cases h
                  exact mj_pret hC rfl hR
set_option maxRecDepth 20000 in
theorem bp_meet_x {Ls tp ip x d : Nat} {Z : mj_X} (hd : 1 ≤ d) {v1 : Int32} {v2 : Int32} {v3 : Int32} {v4 : Int32} {m : mj_M} {r : Int32} (h : bp_meet v1 v2 v3 v4 m = some r) : mj_Ex false (mj_sh Ls) (mj_rf tp ip) Z d 24 [.ref 1, .int v1, .int v2, .int v3, .int v4] (110, x) m (some (.int r)) (110, x) m := by
  exact mj_Ex_of (cd := mj_cd_24) (L := [some (.ref 1), some (.int v1), some (.int v2), some (.int v3), some (.int v4), none, none, none]) (by omega) (by decide) rfl (Nat.le_of_ble_eq_true rfl) rfl (fun P hC => bp_meet_p hC (by omega) h ⟨rfl, rfl, rfl⟩)
def bp_known  (v1 : Int32) (m : mj_M) : Option (Int32 × mj_M) :=
  (if v1 < (-1) then some (0, m) else
  (if v1 ≤ (mj_I (m 61 0)) then some (1, (mj_up m 61 1 (.int v1))) else
  some (0, m)))
set_option maxRecDepth 20000 in
theorem bp_known_p {Ls tp ip x d : Nat} {Z : mj_X} {R : Option Value → mj_G → mj_M → Prop} {P : mj_K → Prop} (hC : mj_cls false (mj_sh Ls) (mj_rf tp ip) mj_dv mj_cd_44 (mj_Ex false (mj_sh Ls) (mj_rf tp ip) Z d) R P) (hd : 0 ≤ d) {v1 : Int32} {m : mj_M} {r : (Int32 × mj_M)} (h : bp_known v1 m = some r) (hR : R (some (.int r.1)) (110, x) r.2) : P (0, [some (.ref 1), some (.int v1)], [], (110, x), m) := by
  unfold bp_known at h
  refine mj_gcp hC 3 ?_
  show P (mj_pick 16 5 (v1 < (-1)), [some (.ref 1), some (.int v1)], [], (110, x), m)
  refine mj_pbr (fun c1 => ?_) (fun c1 => ?_)
  · rw [if_pos c1] at h
    refine mj_gcp hC 1 ?_
    show P (17, [some (.ref 1), some (.int v1)], [.int 0], (110, x), m)
    cases h
    exact mj_pret hC rfl hR
  · rw [if_neg c1] at h
    refine mj_gcp hC 5 ?_
    show P (mj_pick 18 16 (v1 ≤ (mj_I (m 61 0))), [some (.ref 1), some (.int v1)], [], (110, x), m)
    refine mj_pbr (fun c2 => ?_) (fun c2 => ?_)
    · rw [if_pos c2] at h
      refine mj_gcp hC 5 ?_
      show P (27, [some (.ref 1), some (.int v1)], [.int 1], (110, x), (mj_up m 61 1 (.int v1)))
      cases h
      exact mj_pret hC rfl hR
    · rw [if_neg c2] at h
      refine mj_gcp hC 1 ?_
      show P (17, [some (.ref 1), some (.int v1)], [.int 0], (110, x), m)
      cases h
      exact mj_pret hC rfl hR
set_option maxRecDepth 20000 in
theorem bp_known_x {Ls tp ip x d : Nat} {Z : mj_X} (hd : 1 ≤ d) {v1 : Int32} {m : mj_M} {r : (Int32 × mj_M)} (h : bp_known v1 m = some r) : mj_Ex false (mj_sh Ls) (mj_rf tp ip) Z d 44 [.ref 1, .int v1] (110, x) m (some (.int r.1)) (110, x) r.2 := by
  exact mj_Ex_of (cd := mj_cd_44) (L := [some (.ref 1), some (.int v1)]) (by omega) (by decide) rfl (Nat.le_of_ble_eq_true rfl) rfl (fun P hC => bp_known_p hC (by omega) h ⟨rfl, rfl, rfl⟩)
def bp_isWithin  (v0 : Int32) (v1 : Int32) (v2 : Int32) (m : mj_M) : Int32 :=
  (if v0 < v1 then 0 else
  (if v2 < v0 then 0 else
  1))
set_option maxRecDepth 20000 in
theorem bp_isWithin_p {Ls tp ip x d : Nat} {Z : mj_X} {R : Option Value → mj_G → mj_M → Prop} {P : mj_K → Prop} (hC : mj_cls false (mj_sh Ls) (mj_rf tp ip) mj_dv mj_cd_54 (mj_Ex false (mj_sh Ls) (mj_rf tp ip) Z d) R P) (hd : 0 ≤ d) {v0 : Int32} {v1 : Int32} {v2 : Int32} {m : mj_M} (hR : R (some (.int (bp_isWithin v0 v1 v2 m))) (110, x) m) : P (0, [some (.int v0), some (.int v1), some (.int v2)], [], (110, x), m) := by
  unfold bp_isWithin at hR
  refine mj_gcp hC 3 ?_
  show P (mj_pick 14 5 (v0 < v1), [some (.int v0), some (.int v1), some (.int v2)], [], (110, x), m)
  refine mj_pbr (fun c1 => ?_) (fun c1 => ?_)
  · rw [if_pos c1] at hR
    refine mj_gcp hC 1 ?_
    show P (15, [some (.int v0), some (.int v1), some (.int v2)], [.int 0], (110, x), m)
    exact mj_pret hC rfl hR
  · rw [if_neg c1] at hR
    refine mj_gcp hC 3 ?_
    show P (mj_pick 14 10 (v2 < v0), [some (.int v0), some (.int v1), some (.int v2)], [], (110, x), m)
    refine mj_pbr (fun c2 => ?_) (fun c2 => ?_)
    · rw [if_pos c2] at hR
      refine mj_gcp hC 1 ?_
      show P (15, [some (.int v0), some (.int v1), some (.int v2)], [.int 0], (110, x), m)
      exact mj_pret hC rfl hR
    · rw [if_neg c2] at hR
      refine mj_gcp hC 2 ?_
      show P (15, [some (.int v0), some (.int v1), some (.int v2)], [.int 1], (110, x), m)
      exact mj_pret hC rfl hR
set_option maxRecDepth 20000 in
theorem bp_isWithin_x {Ls tp ip x d : Nat} {Z : mj_X} (hd : 1 ≤ d) {v0 : Int32} {v1 : Int32} {v2 : Int32} {m : mj_M}  : mj_Ex false (mj_sh Ls) (mj_rf tp ip) Z d 54 [.int v0, .int v1, .int v2] (110, x) m (some (.int (bp_isWithin v0 v1 v2 m))) (110, x) m := by
  exact mj_Ex_of (cd := mj_cd_54) (L := [some (.int v0), some (.int v1), some (.int v2)]) (by omega) (by decide) rfl (Nat.le_of_ble_eq_true rfl) rfl (fun P hC => bp_isWithin_p hC (by omega) ⟨rfl, rfl, rfl⟩)
def bp_has  (v0 : Int32) (v1 : Int32) (m : mj_M) : Int32 :=
  (if ((v0 >>> (v1 &&& 31)) &&& 1) = 1 then 1 else
  0)
set_option maxRecDepth 20000 in
theorem bp_has_p {Ls tp ip x d : Nat} {Z : mj_X} {R : Option Value → mj_G → mj_M → Prop} {P : mj_K → Prop} (hC : mj_cls false (mj_sh Ls) (mj_rf tp ip) mj_dv mj_cd_55 (mj_Ex false (mj_sh Ls) (mj_rf tp ip) Z d) R P) (hd : 0 ≤ d) {v0 : Int32} {v1 : Int32} {m : mj_M} (hR : R (some (.int (bp_has v0 v1 m))) (110, x) m) : P (0, [some (.int v0), some (.int v1)], [], (110, x), m) := by
  unfold bp_has at hR
  refine mj_gcp hC 7 ?_
  show P (mj_pick 9 13 (((v0 >>> (v1 &&& 31)) &&& 1) = 1), [some (.int v0), some (.int v1)], [], (110, x), m)
  refine mj_pbr (fun c1 => ?_) (fun c1 => ?_)
  · rw [if_pos c1] at hR
    refine mj_gcp hC 2 ?_
    show P (14, [some (.int v0), some (.int v1)], [.int 1], (110, x), m)
    exact mj_pret hC rfl hR
  · rw [if_neg c1] at hR
    refine mj_gcp hC 1 ?_
    show P (14, [some (.int v0), some (.int v1)], [.int 0], (110, x), m)
    exact mj_pret hC rfl hR
set_option maxRecDepth 20000 in
theorem bp_has_x {Ls tp ip x d : Nat} {Z : mj_X} (hd : 1 ≤ d) {v0 : Int32} {v1 : Int32} {m : mj_M}  : mj_Ex false (mj_sh Ls) (mj_rf tp ip) Z d 55 [.int v0, .int v1] (110, x) m (some (.int (bp_has v0 v1 m))) (110, x) m := by
  exact mj_Ex_of (cd := mj_cd_55) (L := [some (.int v0), some (.int v1)]) (by omega) (by decide) rfl (Nat.le_of_ble_eq_true rfl) rfl (fun P hC => bp_has_p hC (by omega) ⟨rfl, rfl, rfl⟩)
def bp_gcd_l7   (m : mj_M) (s7 : (Int32 × Int32 × Int32)) : Option (Nat × (Int32 × Int32 × Int32)) :=
  (if 100 ≤ s7.2.2 then some (1, (s7.1, s7.2.1, s7.2.2)) else
  (if s7.2.1 = 0 then some (1, (s7.1, s7.2.1, s7.2.2)) else
  (if (s7.2.1 : Int32) = 0 then none else
  some (0, (s7.2.1, (s7.1 - s7.1 / s7.2.1 * s7.2.1), (s7.2.2 + 1))))))
def bp_gcd  (v0 : Int32) (v1 : Int32) (m : mj_M) : Option Int32 :=
  (mj_loop (bp_gcd_l7 m) mj_F (v0, v1, 0)).bind fun q4 =>
  some q4.2.1
set_option maxRecDepth 20000 in
theorem bp_gcd_l7_x {Ls tp ip x d : Nat} {Z : mj_X} {R : Option Value → mj_G → mj_M → Prop} {P : mj_K → Prop} (hC : mj_cls false (mj_sh Ls) (mj_rf tp ip) mj_dv mj_cd_56 (mj_Ex false (mj_sh Ls) (mj_rf tp ip) Z d) R P) (hd : 0 ≤ d)  {m : mj_M} (s7 : (Int32 × Int32 × Int32)) {t : Nat} {w : (Int32 × Int32 × Int32)} (h : bp_gcd_l7 m s7 = some (t, w)) (h0 : t = 0 → P (7, [none, none, some (.int w.1), some (.int w.2.1), some (.int w.2.2), none], [], (110, x), m)) (h1 : t = 1 → P (34, [none, none, some (.int w.1), none, none, none], [], (110, x), m)) : P (7, [none, none, some (.int s7.1), some (.int s7.2.1), some (.int s7.2.2), none], [], (110, x), m) := by
  unfold bp_gcd_l7 at h
  refine mj_gcp hC 3 ?_
  show P (mj_pick 34 14 (100 ≤ s7.2.2), [none, none, some (.int s7.1), some (.int s7.2.1), some (.int s7.2.2), none], [], (110, x), m)
  refine mj_pbr (fun c1 => ?_) (fun c1 => ?_)
  · rw [if_pos c1] at h
    cases h
    exact mj_less hC (L0 := [none, none, some (.int s7.1), none, none, none]) (And.intro rfl trivial) (h1 rfl)
  · rw [if_neg c1] at h
    refine mj_gcp hC 2 ?_
    show P (mj_pick 34 18 (s7.2.1 = 0), [none, none, some (.int s7.1), some (.int s7.2.1), some (.int s7.2.2), none], [], (110, x), m)
    refine mj_pbr (fun c2 => ?_) (fun c2 => ?_)
    · rw [if_pos c2] at h
      cases h
      exact mj_less hC (L0 := [none, none, some (.int s7.1), none, none, none]) (And.intro rfl trivial) (h1 rfl)
    · rw [if_neg c2] at h
      obtain ⟨k3, h⟩ := mj_ifn h
      refine mj_gcp hC 10 ?_
      show _ ∧ (P (7, [none, none, some (.int s7.2.1), some (.int (s7.1 - s7.1 / s7.2.1 * s7.2.1)), some (.int (s7.2.2 + 1)), some (.int (s7.1 - s7.1 / s7.2.1 * s7.2.1))], [], (110, x), m))
      refine And.intro k3 (?_)
      cases h
      exact mj_less hC (L0 := [none, none, some (.int s7.2.1), some (.int (s7.1 - s7.1 / s7.2.1 * s7.2.1)), some (.int (s7.2.2 + 1)), none]) (And.intro rfl (And.intro rfl (And.intro rfl trivial))) (h0 rfl)
set_option maxRecDepth 20000 in
theorem bp_gcd_p {Ls tp ip x d : Nat} {Z : mj_X} {R : Option Value → mj_G → mj_M → Prop} {P : mj_K → Prop} (hC : mj_cls false (mj_sh Ls) (mj_rf tp ip) mj_dv mj_cd_56 (mj_Ex false (mj_sh Ls) (mj_rf tp ip) Z d) R P) (hd : 0 ≤ d) {v0 : Int32} {v1 : Int32} {m : mj_M} {r : Int32} (h : bp_gcd v0 v1 m = some r) (hR : R (some (.int r)) (110, x) m) : P (0, [some (.int v0), some (.int v1), none, none, none, none], [], (110, x), m) := by
  unfold bp_gcd at h
  refine mj_gcp hC 6 ?_
  show P (7, [some (.int v0), some (.int v1), some (.int v0), some (.int v1), some (.int 0), none], [], (110, x), m)
  obtain ⟨q4, eq4, h⟩ := mj_bnd h
  refine mj_less hC (L0 := [none, none, some (.int v0), some (.int v1), some (.int 0), none]) (And.intro rfl (And.intro rfl (And.intro rfl trivial))) ?_
  refine mj_loop_P (A := fun z7 => P (7, [none, none, some (.int z7.1), some (.int z7.2.1), some (.int z7.2.2), none], [], (110, x), m)) (E := fun _ z7 => P (34, [none, none, some (.int z7.1), none, none, none], [], (110, x), m)) (fun zz t w hb h0 h1 => bp_gcd_l7_x hC hd zz hb h0 (fun ht => h1 0 ht)) mj_F _ q4 eq4 ?_
  refine mj_gcp hC 1 ?_
  show P (35, [none, none, some (.int q4.2.1), none, none, none], [.int q4.2.1], (110, x), m)
  cases h
  exact mj_pret hC rfl hR
set_option maxRecDepth 20000 in
theorem bp_gcd_x {Ls tp ip x d : Nat} {Z : mj_X} (hd : 1 ≤ d) {v0 : Int32} {v1 : Int32} {m : mj_M} {r : Int32} (h : bp_gcd v0 v1 m = some r) : mj_Ex false (mj_sh Ls) (mj_rf tp ip) Z d 56 [.int v0, .int v1] (110, x) m (some (.int r)) (110, x) m := by
  exact mj_Ex_of (cd := mj_cd_56) (L := [some (.int v0), some (.int v1), none, none, none, none]) (by omega) (by decide) rfl (Nat.le_of_ble_eq_true rfl) rfl (fun P hC => bp_gcd_p hC (by omega) h ⟨rfl, rfl, rfl⟩)
def to_clear (q : Nat)  (m : mj_M) : Option mj_M :=
  some (fx_fill (fx_fill (mj_up (mj_up (mj_up (mj_up (mj_up (mj_up (fx_fill (mj_up m q 0 (.int 0)) (q + 4) 0) q 5 (.int 0)) q 11 (.int 0)) q 13 (.int 200)) q 14 (.int 0)) q 15 (.int 0)) q 16 (.int 0)) (q + 12) 0) (q + 13) 0)
set_option maxRecDepth 20000 in
theorem to_clear_p {Ls tp ip x d : Nat} {Z : mj_X} {R : Option Value → mj_G → mj_M → Prop} {P : mj_K → Prop} (hC : mj_cls false (mj_sh Ls) (mj_rf tp ip) mj_dv mj_cd_63 (mj_Ex false (mj_sh Ls) (mj_rf tp ip) Z d) R P) (hd : 1 ≤ d) {q : Nat} (hq : q = 3 ∨ q = 17)  {m : mj_M} {r : mj_M} (h : to_clear q m = some r) (hR : R none (110, x) r) : P (0, [some (.ref q)], [], (110, x), m) := by
  unfold to_clear at h
  rcases hq with rfl | rfl
  all_goals
    refine mj_gcp hC 6 ?_
    show P (10, [some (.ref _)], [.int 0, .ref _], (110, x), (mj_up m _ 0 (.int 0)))
    refine mj_pcall hC rfl (bp_fill_x (Nat.le_trans (by decide) hd) (by decide)) ?_
    show P (13, [some (.ref _)], [], (110, x), (fx_fill (mj_up m _ 0 (.int 0)) _ 0))
    refine mj_gcp hC 21 ?_
    show P (50, [some (.ref _)], [.int 0, .ref _], (110, x), (mj_up (mj_up (mj_up (mj_up (mj_up (mj_up (fx_fill (mj_up m _ 0 (.int 0)) _ 0) _ 5 (.int 0)) _ 11 (.int 0)) _ 13 (.int 200)) _ 14 (.int 0)) _ 15 (.int 0)) _ 16 (.int 0)))
    refine mj_pcall hC rfl (bp_fill_x (Nat.le_trans (by decide) hd) (by decide)) ?_
    show P (53, [some (.ref _)], [], (110, x), (fx_fill (mj_up (mj_up (mj_up (mj_up (mj_up (mj_up (fx_fill (mj_up m _ 0 (.int 0)) _ 0) _ 5 (.int 0)) _ 11 (.int 0)) _ 13 (.int 200)) _ 14 (.int 0)) _ 15 (.int 0)) _ 16 (.int 0)) _ 0))
    refine mj_gcp hC 3 ?_
    show P (58, [some (.ref _)], [.int 0, .ref _], (110, x), (fx_fill (mj_up (mj_up (mj_up (mj_up (mj_up (mj_up (fx_fill (mj_up m _ 0 (.int 0)) _ 0) _ 5 (.int 0)) _ 11 (.int 0)) _ 13 (.int 200)) _ 14 (.int 0)) _ 15 (.int 0)) _ 16 (.int 0)) _ 0))
    refine mj_pcall hC rfl (bp_fill_x (Nat.le_trans (by decide) hd) (by decide)) ?_
    show P (61, [some (.ref _)], [], (110, x), (fx_fill (fx_fill (mj_up (mj_up (mj_up (mj_up (mj_up (mj_up (fx_fill (mj_up m _ 0 (.int 0)) _ 0) _ 5 (.int 0)) _ 11 (.int 0)) _ 13 (.int 200)) _ 14 (.int 0)) _ 15 (.int 0)) _ 16 (.int 0)) _ 0) _ 0))
    cases h
    exact mj_pret hC rfl hR
set_option maxRecDepth 20000 in
theorem to_clear_x {Ls tp ip x d : Nat} {Z : mj_X} (hd : 2 ≤ d) {q : Nat} (hq : q = 3 ∨ q = 17)  {m : mj_M} {r : mj_M} (h : to_clear q m = some r) : mj_Ex false (mj_sh Ls) (mj_rf tp ip) Z d 63 [.ref q] (110, x) m none (110, x) r := by
  exact mj_Ex_of (cd := mj_cd_63) (L := [some (.ref q)]) (by omega) (by decide) rfl (Nat.le_of_ble_eq_true rfl) rfl (fun P hC => to_clear_p hC (by omega) hq h ⟨rfl, rfl, rfl⟩)
def to_isMan (q : Nat) (v1 : Int32) (m : mj_M) : Int32 :=
  (if v1 < 0 then 0 else
  (if (mj_I (m q 0)) ≤ v1 then 0 else
  1))
set_option maxRecDepth 20000 in
theorem to_isMan_p {Ls tp ip x d : Nat} {Z : mj_X} {R : Option Value → mj_G → mj_M → Prop} {P : mj_K → Prop} (hC : mj_cls false (mj_sh Ls) (mj_rf tp ip) mj_dv mj_cd_64 (mj_Ex false (mj_sh Ls) (mj_rf tp ip) Z d) R P) (hd : 0 ≤ d) {q : Nat} (hq : q = 3 ∨ q = 17) {v1 : Int32} {m : mj_M} (hR : R (some (.int (to_isMan q v1 m))) (110, x) m) : P (0, [some (.ref q), some (.int v1)], [], (110, x), m) := by
  unfold to_isMan at hR
  rcases hq with rfl | rfl
  all_goals
    refine mj_gcp hC 2 ?_
    show P (mj_pick 16 4 (v1 < 0), [some (.ref _), some (.int v1)], [], (110, x), m)
    refine mj_pbr (fun c1 => ?_) (fun c1 => ?_)
    · rw [if_pos c1] at hR
      refine mj_gcp hC 1 ?_
      show P (17, [some (.ref _), some (.int v1)], [.int 0], (110, x), m)
      exact mj_pret hC rfl hR
    · rw [if_neg c1] at hR
      refine mj_gcp hC 4 ?_
      show P (mj_pick 16 12 ((mj_I (m _ 0)) ≤ v1), [some (.ref _), some (.int v1)], [], (110, x), m)
      refine mj_pbr (fun c2 => ?_) (fun c2 => ?_)
      · rw [if_pos c2] at hR
        refine mj_gcp hC 1 ?_
        show P (17, [some (.ref _), some (.int v1)], [.int 0], (110, x), m)
        exact mj_pret hC rfl hR
      · rw [if_neg c2] at hR
        refine mj_gcp hC 2 ?_
        show P (17, [some (.ref _), some (.int v1)], [.int 1], (110, x), m)
        exact mj_pret hC rfl hR
set_option maxRecDepth 20000 in
theorem to_isMan_x {Ls tp ip x d : Nat} {Z : mj_X} (hd : 1 ≤ d) {q : Nat} (hq : q = 3 ∨ q = 17) {v1 : Int32} {m : mj_M}  : mj_Ex false (mj_sh Ls) (mj_rf tp ip) Z d 64 [.ref q, .int v1] (110, x) m (some (.int (to_isMan q v1 m))) (110, x) m := by
  exact mj_Ex_of (cd := mj_cd_64) (L := [some (.ref q), some (.int v1)]) (by omega) (by decide) rfl (Nat.le_of_ble_eq_true rfl) rfl (fun P hC => to_isMan_p hC (by omega) hq ⟨rfl, rfl, rfl⟩)
def to_isWork (q : Nat) (v1 : Int32) (m : mj_M) : Int32 :=
  (if v1 < 0 then 0 else
  (if (mj_I (m q 5)) ≤ v1 then 0 else
  1))
set_option maxRecDepth 20000 in
theorem to_isWork_p {Ls tp ip x d : Nat} {Z : mj_X} {R : Option Value → mj_G → mj_M → Prop} {P : mj_K → Prop} (hC : mj_cls false (mj_sh Ls) (mj_rf tp ip) mj_dv mj_cd_65 (mj_Ex false (mj_sh Ls) (mj_rf tp ip) Z d) R P) (hd : 0 ≤ d) {q : Nat} (hq : q = 3 ∨ q = 17) {v1 : Int32} {m : mj_M} (hR : R (some (.int (to_isWork q v1 m))) (110, x) m) : P (0, [some (.ref q), some (.int v1)], [], (110, x), m) := by
  unfold to_isWork at hR
  rcases hq with rfl | rfl
  all_goals
    refine mj_gcp hC 2 ?_
    show P (mj_pick 16 4 (v1 < 0), [some (.ref _), some (.int v1)], [], (110, x), m)
    refine mj_pbr (fun c1 => ?_) (fun c1 => ?_)
    · rw [if_pos c1] at hR
      refine mj_gcp hC 1 ?_
      show P (17, [some (.ref _), some (.int v1)], [.int 0], (110, x), m)
      exact mj_pret hC rfl hR
    · rw [if_neg c1] at hR
      refine mj_gcp hC 4 ?_
      show P (mj_pick 16 12 ((mj_I (m _ 5)) ≤ v1), [some (.ref _), some (.int v1)], [], (110, x), m)
      refine mj_pbr (fun c2 => ?_) (fun c2 => ?_)
      · rw [if_pos c2] at hR
        refine mj_gcp hC 1 ?_
        show P (17, [some (.ref _), some (.int v1)], [.int 0], (110, x), m)
        exact mj_pret hC rfl hR
      · rw [if_neg c2] at hR
        refine mj_gcp hC 2 ?_
        show P (17, [some (.ref _), some (.int v1)], [.int 1], (110, x), m)
        exact mj_pret hC rfl hR
set_option maxRecDepth 20000 in
theorem to_isWork_x {Ls tp ip x d : Nat} {Z : mj_X} (hd : 1 ≤ d) {q : Nat} (hq : q = 3 ∨ q = 17) {v1 : Int32} {m : mj_M}  : mj_Ex false (mj_sh Ls) (mj_rf tp ip) Z d 65 [.ref q, .int v1] (110, x) m (some (.int (to_isWork q v1 m))) (110, x) m := by
  exact mj_Ex_of (cd := mj_cd_65) (L := [some (.ref q), some (.int v1)]) (by omega) (by decide) rfl (Nat.le_of_ble_eq_true rfl) rfl (fun P hC => to_isWork_p hC (by omega) hq ⟨rfl, rfl, rfl⟩)
def to_areTied (q : Nat) (v1 : Int32) (v2 : Int32) (m : mj_M) : Option Int32 :=
  (if (bp_has (fx_at m (q + 4) v1) v2 m) = 0 ∨ (bp_has (fx_at m (q + 4) v1) v2 m) = 1 then some (bp_has (fx_at m (q + 4) v1) v2 m) else none)
set_option maxRecDepth 20000 in
theorem to_areTied_p {Ls tp ip x d : Nat} {Z : mj_X} {R : Option Value → mj_G → mj_M → Prop} {P : mj_K → Prop} (hC : mj_cls false (mj_sh Ls) (mj_rf tp ip) mj_dv mj_cd_66 (mj_Ex false (mj_sh Ls) (mj_rf tp ip) Z d) R P) (hd : 1 ≤ d) {q : Nat} (hq : q = 3 ∨ q = 17) {v1 : Int32} {v2 : Int32} {m : mj_M} {r : Int32} (h : to_areTied q v1 v2 m = some r) (hR : R (some (.int r)) (110, x) m) : P (0, [some (.ref q), some (.int v1), some (.int v2)], [], (110, x), m) := by
  unfold to_areTied at h
  rcases hq with rfl | rfl
  all_goals
    refine mj_gcp hC 3 ?_
    show P (5, [some (.ref _), some (.int v1), some (.int v2)], [.int v1, .ref _], (110, x), m)
    refine mj_pcall hC rfl (bp_at_x (Nat.le_trans (by decide) hd) (by decide)) ?_
    show P (8, [some (.ref _), some (.int v1), some (.int v2)], [.int (fx_at m _ v1)], (110, x), m)
    refine mj_gcp hC 1 ?_
    show P (9, [some (.ref _), some (.int v1), some (.int v2)], [.int v2, .int (fx_at m _ v1)], (110, x), m)
    refine mj_pcall hC rfl (bp_has_x (Nat.le_trans (by decide) hd)) ?_
    show P (12, [some (.ref _), some (.int v1), some (.int v2)], [.int (bp_has (fx_at m _ v1) v2 m)], (110, x), m)
    obtain ⟨k1, h⟩ := mj_ifs h
    cases h
    exact mj_pretZ hC rfl k1 hR
set_option maxRecDepth 20000 in
theorem to_areTied_x {Ls tp ip x d : Nat} {Z : mj_X} (hd : 2 ≤ d) {q : Nat} (hq : q = 3 ∨ q = 17) {v1 : Int32} {v2 : Int32} {m : mj_M} {r : Int32} (h : to_areTied q v1 v2 m = some r) : mj_Ex false (mj_sh Ls) (mj_rf tp ip) Z d 66 [.ref q, .int v1, .int v2] (110, x) m (some (.int r)) (110, x) m := by
  exact mj_Ex_of (cd := mj_cd_66) (L := [some (.ref q), some (.int v1), some (.int v2)]) (by omega) (by decide) rfl (Nat.le_of_ble_eq_true rfl) rfl (fun P hC => to_areTied_p hC (by omega) hq h ⟨rfl, rfl, rfl⟩)
def to_addTie (q : Nat) (v1 : Int32) (v2 : Int32) (m : mj_M) : Option mj_M :=
  some (fx_put (fx_put m (q + 4) v1 ((fx_at m (q + 4) v1) ||| ((1 : Int32) <<< (v2 &&& 31)))) (q + 4) v2 ((fx_at (fx_put m (q + 4) v1 ((fx_at m (q + 4) v1) ||| ((1 : Int32) <<< (v2 &&& 31)))) (q + 4) v2) ||| ((1 : Int32) <<< (v1 &&& 31))))
set_option maxRecDepth 20000 in
theorem to_addTie_p {Ls tp ip x d : Nat} {Z : mj_X} {R : Option Value → mj_G → mj_M → Prop} {P : mj_K → Prop} (hC : mj_cls false (mj_sh Ls) (mj_rf tp ip) mj_dv mj_cd_67 (mj_Ex false (mj_sh Ls) (mj_rf tp ip) Z d) R P) (hd : 1 ≤ d) {q : Nat} (hq : q = 3 ∨ q = 17) {v1 : Int32} {v2 : Int32} {m : mj_M} {r : mj_M} (h : to_addTie q v1 v2 m = some r) (hR : R none (110, x) r) : P (0, [some (.ref q), some (.int v1), some (.int v2)], [], (110, x), m) := by
  unfold to_addTie at h
  rcases hq with rfl | rfl
  all_goals
    refine mj_gcp hC 6 ?_
    show P (10, [some (.ref _), some (.int v1), some (.int v2)], [.int v1, .ref _, .int v1, .ref _], (110, x), m)
    refine mj_pcall hC rfl (bp_at_x (Nat.le_trans (by decide) hd) (by decide)) ?_
    show P (13, [some (.ref _), some (.int v1), some (.int v2)], [.int (fx_at m _ v1), .int v1, .ref _], (110, x), m)
    refine mj_gcp hC 4 ?_
    show P (17, [some (.ref _), some (.int v1), some (.int v2)], [.int ((fx_at m _ v1) ||| ((1 : Int32) <<< (v2 &&& 31))), .int v1, .ref _], (110, x), m)
    refine mj_pcall hC rfl (bp_put_x (Nat.le_trans (by decide) hd) (by decide)) ?_
    show P (20, [some (.ref _), some (.int v1), some (.int v2)], [], (110, x), (fx_put m _ v1 ((fx_at m _ v1) ||| ((1 : Int32) <<< (v2 &&& 31)))))
    refine mj_gcp hC 6 ?_
    show P (30, [some (.ref _), some (.int v1), some (.int v2)], [.int v2, .ref _, .int v2, .ref _], (110, x), (fx_put m _ v1 ((fx_at m _ v1) ||| ((1 : Int32) <<< (v2 &&& 31)))))
    refine mj_pcall hC rfl (bp_at_x (Nat.le_trans (by decide) hd) (by decide)) ?_
    show P (33, [some (.ref _), some (.int v1), some (.int v2)], [.int (fx_at (fx_put m _ v1 ((fx_at m _ v1) ||| ((1 : Int32) <<< (v2 &&& 31)))) _ v2), .int v2, .ref _], (110, x), (fx_put m _ v1 ((fx_at m _ v1) ||| ((1 : Int32) <<< (v2 &&& 31)))))
    refine mj_gcp hC 4 ?_
    show P (37, [some (.ref _), some (.int v1), some (.int v2)], [.int ((fx_at (fx_put m _ v1 ((fx_at m _ v1) ||| ((1 : Int32) <<< (v2 &&& 31)))) _ v2) ||| ((1 : Int32) <<< (v1 &&& 31))), .int v2, .ref _], (110, x), (fx_put m _ v1 ((fx_at m _ v1) ||| ((1 : Int32) <<< (v2 &&& 31)))))
    refine mj_pcall hC rfl (bp_put_x (Nat.le_trans (by decide) hd) (by decide)) ?_
    show P (40, [some (.ref _), some (.int v1), some (.int v2)], [], (110, x), (fx_put (fx_put m _ v1 ((fx_at m _ v1) ||| ((1 : Int32) <<< (v2 &&& 31)))) _ v2 ((fx_at (fx_put m _ v1 ((fx_at m _ v1) ||| ((1 : Int32) <<< (v2 &&& 31)))) _ v2) ||| ((1 : Int32) <<< (v1 &&& 31)))))
    cases h
    exact mj_pret hC rfl hR
set_option maxRecDepth 20000 in
theorem to_addTie_x {Ls tp ip x d : Nat} {Z : mj_X} (hd : 2 ≤ d) {q : Nat} (hq : q = 3 ∨ q = 17) {v1 : Int32} {v2 : Int32} {m : mj_M} {r : mj_M} (h : to_addTie q v1 v2 m = some r) : mj_Ex false (mj_sh Ls) (mj_rf tp ip) Z d 67 [.ref q, .int v1, .int v2] (110, x) m none (110, x) r := by
  exact mj_Ex_of (cd := mj_cd_67) (L := [some (.ref q), some (.int v1), some (.int v2)]) (by omega) (by decide) rfl (Nat.le_of_ble_eq_true rfl) rfl (fun P hC => to_addTie_p hC (by omega) hq h ⟨rfl, rfl, rfl⟩)
def to_addKnot (q : Nat) (v1 : Int32) (m : mj_M) : Option mj_M :=
  some (mj_up (fx_put m (q + 11) (mj_I (m q 16)) v1) q 16 (.int ((mj_I (m q 16)) + 1)))
set_option maxRecDepth 20000 in
theorem to_addKnot_p {Ls tp ip x d : Nat} {Z : mj_X} {R : Option Value → mj_G → mj_M → Prop} {P : mj_K → Prop} (hC : mj_cls false (mj_sh Ls) (mj_rf tp ip) mj_dv mj_cd_69 (mj_Ex false (mj_sh Ls) (mj_rf tp ip) Z d) R P) (hd : 1 ≤ d) {q : Nat} (hq : q = 3 ∨ q = 17) {v1 : Int32} {m : mj_M} {r : mj_M} (h : to_addKnot q v1 m = some r) (hR : R none (110, x) r) : P (0, [some (.ref q), some (.int v1)], [], (110, x), m) := by
  unfold to_addKnot at h
  rcases hq with rfl | rfl
  all_goals
    refine mj_gcp hC 5 ?_
    show P (9, [some (.ref _), some (.int v1)], [.int v1, .int (mj_I (m _ 16)), .ref _], (110, x), m)
    refine mj_pcall hC rfl (bp_put_x (Nat.le_trans (by decide) hd) (by decide)) ?_
    show P (12, [some (.ref _), some (.int v1)], [], (110, x), (fx_put m _ (mj_I (m _ 16)) v1))
    refine mj_gcp hC 6 ?_
    show P (22, [some (.ref _), some (.int v1)], [], (110, x), (mj_up (fx_put m _ (mj_I (m _ 16)) v1) _ 16 (.int ((mj_I (m _ 16)) + 1))))
    cases h
    exact mj_pret hC rfl hR
set_option maxRecDepth 20000 in
theorem to_addKnot_x {Ls tp ip x d : Nat} {Z : mj_X} (hd : 2 ≤ d) {q : Nat} (hq : q = 3 ∨ q = 17) {v1 : Int32} {m : mj_M} {r : mj_M} (h : to_addKnot q v1 m = some r) : mj_Ex false (mj_sh Ls) (mj_rf tp ip) Z d 69 [.ref q, .int v1] (110, x) m none (110, x) r := by
  exact mj_Ex_of (cd := mj_cd_69) (L := [some (.ref q), some (.int v1)]) (by omega) (by decide) rfl (Nat.le_of_ble_eq_true rfl) rfl (fun P hC => to_addKnot_p hC (by omega) hq h ⟨rfl, rfl, rfl⟩)
def to_worksOf_j30l4 (q : Nat)  (v1 : Int32) (v2 : Int32) (v3 : Int32)  (m : mj_M) : Option (Nat × (Int32 × Int32)) :=
  some (0, (v2, (v3 + 1)))
def to_worksOf_l4 (q : Nat) (v1 : Int32) (m : mj_M) (s4 : (Int32 × Int32)) : Option (Nat × (Int32 × Int32)) :=
  (if (mj_I (m q 5)) ≤ s4.2 then some (1, (s4.1, s4.2)) else
  (if (fx_at m (q + 6) s4.2) = v1 then to_worksOf_j30l4 q v1 (s4.1 ||| ((1 : Int32) <<< (s4.2 &&& 31))) s4.2 m else
  to_worksOf_j30l4 q v1 s4.1 s4.2 m))
def to_worksOf (q : Nat) (v1 : Int32) (m : mj_M) : Option Int32 :=
  (mj_loop (to_worksOf_l4 q v1 m) mj_F (0, 0)).bind fun q3 =>
  some q3.2.1
set_option maxRecDepth 20000 in
theorem to_worksOf_j30l4_x {Ls tp ip x d : Nat} {Z : mj_X} {R : Option Value → mj_G → mj_M → Prop} {P : mj_K → Prop} (hC : mj_cls false (mj_sh Ls) (mj_rf tp ip) mj_dv mj_cd_70 (mj_Ex false (mj_sh Ls) (mj_rf tp ip) Z d) R P) (hd : 1 ≤ d) {q : Nat} (hq : q = 3 ∨ q = 17)  {v1 : Int32} {v2 : Int32} {v3 : Int32}  {m : mj_M} {t : Nat} {w : (Int32 × Int32)} (h : to_worksOf_j30l4 q  v1 v2 v3 m = some (t, w)) (h0 : t = 0 → P (4, [some (.ref q), some (.int v1), some (.int w.1), some (.int w.2)], [], (110, x), m)) (h1 : t = 1 → P (36, [none, none, some (.int w.1), none], [], (110, x), m)) : P (30, [some (.ref q), some (.int v1), some (.int v2), some (.int v3)], [], (110, x), m) := by
  unfold to_worksOf_j30l4 at h
  rcases hq with rfl | rfl
  all_goals
    refine mj_gcp hC 2 ?_
    show P (4, [some (.ref _), some (.int v1), some (.int v2), some (.int (v3 + 1))], [], (110, x), m)
    cases h
    exact mj_less hC (L0 := [some (.ref _), some (.int v1), some (.int v2), some (.int (v3 + 1))]) (And.intro rfl (And.intro rfl (And.intro rfl (And.intro rfl trivial)))) (h0 rfl)
set_option maxRecDepth 20000 in
theorem to_worksOf_l4_x {Ls tp ip x d : Nat} {Z : mj_X} {R : Option Value → mj_G → mj_M → Prop} {P : mj_K → Prop} (hC : mj_cls false (mj_sh Ls) (mj_rf tp ip) mj_dv mj_cd_70 (mj_Ex false (mj_sh Ls) (mj_rf tp ip) Z d) R P) (hd : 1 ≤ d) {q : Nat} (hq : q = 3 ∨ q = 17) {v1 : Int32} {m : mj_M} (s4 : (Int32 × Int32)) {t : Nat} {w : (Int32 × Int32)} (h : to_worksOf_l4 q v1 m s4 = some (t, w)) (h0 : t = 0 → P (4, [some (.ref q), some (.int v1), some (.int w.1), some (.int w.2)], [], (110, x), m)) (h1 : t = 1 → P (36, [none, none, some (.int w.1), none], [], (110, x), m)) : P (4, [some (.ref q), some (.int v1), some (.int s4.1), some (.int s4.2)], [], (110, x), m) := by
  unfold to_worksOf_l4 at h
  rcases hq with rfl | rfl
  all_goals
    refine mj_gcp hC 4 ?_
    show P (mj_pick 36 12 ((mj_I (m _ 5)) ≤ s4.2), [some (.ref _), some (.int v1), some (.int s4.1), some (.int s4.2)], [], (110, x), m)
    refine mj_pbr (fun c1 => ?_) (fun c1 => ?_)
    · rw [if_pos c1] at h
      cases h
      exact mj_less hC (L0 := [none, none, some (.int s4.1), none]) (And.intro rfl trivial) (h1 rfl)
    · rw [if_neg c1] at h
      refine mj_gcp hC 3 ?_
      show P (17, [some (.ref _), some (.int v1), some (.int s4.1), some (.int s4.2)], [.int s4.2, .ref _], (110, x), m)
      refine mj_pcall hC rfl (bp_at_x (Nat.le_trans (by decide) hd) (by decide)) ?_
      show P (20, [some (.ref _), some (.int v1), some (.int s4.1), some (.int s4.2)], [.int (fx_at m _ s4.2)], (110, x), m)
      refine mj_gcp hC 2 ?_
      show P (mj_pick 24 30 ((fx_at m _ s4.2) = v1), [some (.ref _), some (.int v1), some (.int s4.1), some (.int s4.2)], [], (110, x), m)
      refine mj_pbr (fun c2 => ?_) (fun c2 => ?_)
      · rw [if_pos c2] at h
        refine mj_gcp hC 6 ?_
        show P (30, [some (.ref _), some (.int v1), some (.int (s4.1 ||| ((1 : Int32) <<< (s4.2 &&& 31)))), some (.int s4.2)], [], (110, x), m)
        exact mj_less hC (L0 := [some (.ref _), some (.int v1), some (.int (s4.1 ||| ((1 : Int32) <<< (s4.2 &&& 31)))), some (.int s4.2)]) (And.intro rfl (And.intro rfl (And.intro rfl (And.intro rfl trivial)))) (to_worksOf_j30l4_x hC hd (by decide) h h0 h1)
      · rw [if_neg c2] at h
        exact mj_less hC (L0 := [some (.ref _), some (.int v1), some (.int s4.1), some (.int s4.2)]) (And.intro rfl (And.intro rfl (And.intro rfl (And.intro rfl trivial)))) (to_worksOf_j30l4_x hC hd (by decide) h h0 h1)
set_option maxRecDepth 20000 in
theorem to_worksOf_p {Ls tp ip x d : Nat} {Z : mj_X} {R : Option Value → mj_G → mj_M → Prop} {P : mj_K → Prop} (hC : mj_cls false (mj_sh Ls) (mj_rf tp ip) mj_dv mj_cd_70 (mj_Ex false (mj_sh Ls) (mj_rf tp ip) Z d) R P) (hd : 1 ≤ d) {q : Nat} (hq : q = 3 ∨ q = 17) {v1 : Int32} {m : mj_M} {r : Int32} (h : to_worksOf q v1 m = some r) (hR : R (some (.int r)) (110, x) m) : P (0, [some (.ref q), some (.int v1), none, none], [], (110, x), m) := by
  unfold to_worksOf at h
  rcases hq with rfl | rfl
  all_goals
    refine mj_gcp hC 4 ?_
    show P (4, [some (.ref _), some (.int v1), some (.int 0), some (.int 0)], [], (110, x), m)
    obtain ⟨q3, eq3, h⟩ := mj_bnd h
    refine mj_less hC (L0 := [some (.ref _), some (.int v1), some (.int 0), some (.int 0)]) (And.intro rfl (And.intro rfl (And.intro rfl (And.intro rfl trivial)))) ?_
    refine mj_loop_P (A := fun z4 => P (4, [some (.ref _), some (.int v1), some (.int z4.1), some (.int z4.2)], [], (110, x), m)) (E := fun _ z4 => P (36, [none, none, some (.int z4.1), none], [], (110, x), m)) (fun zz t w hb h0 h1 => to_worksOf_l4_x hC hd (by decide) zz hb h0 (fun ht => h1 0 ht)) mj_F _ q3 eq3 ?_
    refine mj_gcp hC 1 ?_
    show P (37, [none, none, some (.int q3.2.1), none], [.int q3.2.1], (110, x), m)
    cases h
    exact mj_pret hC rfl hR
set_option maxRecDepth 20000 in
theorem to_worksOf_x {Ls tp ip x d : Nat} {Z : mj_X} (hd : 2 ≤ d) {q : Nat} (hq : q = 3 ∨ q = 17) {v1 : Int32} {m : mj_M} {r : Int32} (h : to_worksOf q v1 m = some r) : mj_Ex false (mj_sh Ls) (mj_rf tp ip) Z d 70 [.ref q, .int v1] (110, x) m (some (.int r)) (110, x) m := by
  exact mj_Ex_of (cd := mj_cd_70) (L := [some (.ref q), some (.int v1), none, none]) (by omega) (by decide) rfl (Nat.le_of_ble_eq_true rfl) rfl (fun P hC => to_worksOf_p hC (by omega) hq h ⟨rfl, rfl, rfl⟩)
def to_reach_j51l19 (q : Nat)  (v2 : Int32) (v3 : Int32) (v4 : Int32) (v5 : Int32)  (m : mj_M) : Option (Nat × (Int32 × Int32)) :=
  some (0, (v3, (v5 + 1)))
def to_reach_l19 (q : Nat) (v2 : Int32) (v4 : Int32) (m : mj_M) (s19 : (Int32 × Int32)) : Option (Nat × (Int32 × Int32)) :=
  (if (mj_I (m q 0)) ≤ s19.2 then some (1, (s19.1, s19.2)) else
  (if (bp_has s19.1 s19.2 m) = 0 then to_reach_j51l19 q v2 s19.1 v4 s19.2 m else
  to_reach_j51l19 q v2 (s19.1 ||| ((fx_at m (q + 4) s19.2) &&& v2)) v4 s19.2 m))
def to_reach_l7 (q : Nat) (v2 : Int32) (m : mj_M) (s7 : (Int32 × Int32)) : Option (Nat × (Int32 × Int32)) :=
  (if (mj_I (m q 0)) ≤ s7.2 then some (1, (s7.1, s7.2)) else
  (mj_loop (to_reach_l19 q v2 s7.2 m) mj_F (s7.1, 0)).bind fun q4 =>
  some (0, (q4.2.1, (s7.2 + 1))))
def to_reach (q : Nat) (v1 : Int32) (v2 : Int32) (m : mj_M) : Option Int32 :=
  (mj_loop (to_reach_l7 q v2 m) mj_F (((1 : Int32) <<< (v1 &&& 31)), 0)).bind fun q5 =>
  some q5.2.1
set_option maxRecDepth 20000 in
theorem to_reach_j51l19_x {Ls tp ip x d : Nat} {Z : mj_X} {R : Option Value → mj_G → mj_M → Prop} {P : mj_K → Prop} (hC : mj_cls false (mj_sh Ls) (mj_rf tp ip) mj_dv mj_cd_71 (mj_Ex false (mj_sh Ls) (mj_rf tp ip) Z d) R P) (hd : 1 ≤ d) {q : Nat} (hq : q = 3 ∨ q = 17)  {v2 : Int32} {v3 : Int32} {v4 : Int32} {v5 : Int32}  {m : mj_M} {t : Nat} {w : (Int32 × Int32)} (h : to_reach_j51l19 q  v2 v3 v4 v5 m = some (t, w)) (h0 : t = 0 → P (19, [some (.ref q), none, some (.int v2), some (.int w.1), some (.int v4), some (.int w.2)], [], (110, x), m)) (h1 : t = 1 → P (57, [some (.ref q), none, some (.int v2), some (.int w.1), some (.int v4), none], [], (110, x), m)) : P (51, [some (.ref q), none, some (.int v2), some (.int v3), some (.int v4), some (.int v5)], [], (110, x), m) := by
  unfold to_reach_j51l19 at h
  rcases hq with rfl | rfl
  all_goals
    refine mj_gcp hC 2 ?_
    show P (19, [some (.ref _), none, some (.int v2), some (.int v3), some (.int v4), some (.int (v5 + 1))], [], (110, x), m)
    cases h
    exact mj_less hC (L0 := [some (.ref _), none, some (.int v2), some (.int v3), some (.int v4), some (.int (v5 + 1))]) (And.intro rfl (And.intro rfl (And.intro rfl (And.intro rfl (And.intro rfl trivial))))) (h0 rfl)
set_option maxRecDepth 20000 in
theorem to_reach_l19_x {Ls tp ip x d : Nat} {Z : mj_X} {R : Option Value → mj_G → mj_M → Prop} {P : mj_K → Prop} (hC : mj_cls false (mj_sh Ls) (mj_rf tp ip) mj_dv mj_cd_71 (mj_Ex false (mj_sh Ls) (mj_rf tp ip) Z d) R P) (hd : 1 ≤ d) {q : Nat} (hq : q = 3 ∨ q = 17) {v2 : Int32} {v4 : Int32} {m : mj_M} (s19 : (Int32 × Int32)) {t : Nat} {w : (Int32 × Int32)} (h : to_reach_l19 q v2 v4 m s19 = some (t, w)) (h0 : t = 0 → P (19, [some (.ref q), none, some (.int v2), some (.int w.1), some (.int v4), some (.int w.2)], [], (110, x), m)) (h1 : t = 1 → P (57, [some (.ref q), none, some (.int v2), some (.int w.1), some (.int v4), none], [], (110, x), m)) : P (19, [some (.ref q), none, some (.int v2), some (.int s19.1), some (.int v4), some (.int s19.2)], [], (110, x), m) := by
  unfold to_reach_l19 at h
  rcases hq with rfl | rfl
  all_goals
    refine mj_gcp hC 4 ?_
    show P (mj_pick 57 28 ((mj_I (m _ 0)) ≤ s19.2), [some (.ref _), none, some (.int v2), some (.int s19.1), some (.int v4), some (.int s19.2)], [], (110, x), m)
    refine mj_pbr (fun c2 => ?_) (fun c2 => ?_)
    · rw [if_pos c2] at h
      cases h
      exact mj_less hC (L0 := [some (.ref _), none, some (.int v2), some (.int s19.1), some (.int v4), none]) (And.intro rfl (And.intro rfl (And.intro rfl (And.intro rfl trivial)))) (h1 rfl)
    · rw [if_neg c2] at h
      refine mj_gcp hC 2 ?_
      show P (31, [some (.ref _), none, some (.int v2), some (.int s19.1), some (.int v4), some (.int s19.2)], [.int s19.2, .int s19.1], (110, x), m)
      refine mj_pcall hC rfl (bp_has_x (Nat.le_trans (by decide) hd)) ?_
      show P (34, [some (.ref _), none, some (.int v2), some (.int s19.1), some (.int v4), some (.int s19.2)], [.int (bp_has s19.1 s19.2 m)], (110, x), m)
      refine mj_gcp hC 1 ?_
      show P (mj_pick 51 37 ((bp_has s19.1 s19.2 m) = 0), [some (.ref _), none, some (.int v2), some (.int s19.1), some (.int v4), some (.int s19.2)], [], (110, x), m)
      refine mj_pbr (fun c3 => ?_) (fun c3 => ?_)
      · rw [if_pos c3] at h
        exact mj_less hC (L0 := [some (.ref _), none, some (.int v2), some (.int s19.1), some (.int v4), some (.int s19.2)]) (And.intro rfl (And.intro rfl (And.intro rfl (And.intro rfl (And.intro rfl trivial))))) (to_reach_j51l19_x hC hd (by decide) h h0 h1)
      · rw [if_neg c3] at h
        refine mj_gcp hC 4 ?_
        show P (44, [some (.ref _), none, some (.int v2), some (.int s19.1), some (.int v4), some (.int s19.2)], [.int s19.2, .ref _, .int s19.1], (110, x), m)
        refine mj_pcall hC rfl (bp_at_x (Nat.le_trans (by decide) hd) (by decide)) ?_
        show P (47, [some (.ref _), none, some (.int v2), some (.int s19.1), some (.int v4), some (.int s19.2)], [.int (fx_at m _ s19.2), .int s19.1], (110, x), m)
        refine mj_gcp hC 4 ?_
        show P (51, [some (.ref _), none, some (.int v2), some (.int (s19.1 ||| ((fx_at m _ s19.2) &&& v2))), some (.int v4), some (.int s19.2)], [], (110, x), m)
        exact mj_less hC (L0 := [some (.ref _), none, some (.int v2), some (.int (s19.1 ||| ((fx_at m _ s19.2) &&& v2))), some (.int v4), some (.int s19.2)]) (And.intro rfl (And.intro rfl (And.intro rfl (And.intro rfl (And.intro rfl trivial))))) (to_reach_j51l19_x hC hd (by decide) h h0 h1)
set_option maxRecDepth 20000 in
theorem to_reach_l7_x {Ls tp ip x d : Nat} {Z : mj_X} {R : Option Value → mj_G → mj_M → Prop} {P : mj_K → Prop} (hC : mj_cls false (mj_sh Ls) (mj_rf tp ip) mj_dv mj_cd_71 (mj_Ex false (mj_sh Ls) (mj_rf tp ip) Z d) R P) (hd : 1 ≤ d) {q : Nat} (hq : q = 3 ∨ q = 17) {v2 : Int32} {m : mj_M} (s7 : (Int32 × Int32)) {t : Nat} {w : (Int32 × Int32)} (h : to_reach_l7 q v2 m s7 = some (t, w)) (h0 : t = 0 → P (7, [some (.ref q), none, some (.int v2), some (.int w.1), some (.int w.2), none], [], (110, x), m)) (h1 : t = 1 → P (63, [none, none, none, some (.int w.1), none, none], [], (110, x), m)) : P (7, [some (.ref q), none, some (.int v2), some (.int s7.1), some (.int s7.2), none], [], (110, x), m) := by
  unfold to_reach_l7 at h
  rcases hq with rfl | rfl
  all_goals
    refine mj_gcp hC 4 ?_
    show P (mj_pick 63 16 ((mj_I (m _ 0)) ≤ s7.2), [some (.ref _), none, some (.int v2), some (.int s7.1), some (.int s7.2), none], [], (110, x), m)
    refine mj_pbr (fun c1 => ?_) (fun c1 => ?_)
    · rw [if_pos c1] at h
      cases h
      exact mj_less hC (L0 := [none, none, none, some (.int s7.1), none, none]) (And.intro rfl trivial) (h1 rfl)
    · rw [if_neg c1] at h
      refine mj_gcp hC 2 ?_
      show P (19, [some (.ref _), none, some (.int v2), some (.int s7.1), some (.int s7.2), some (.int 0)], [], (110, x), m)
      obtain ⟨q4, eq4, h⟩ := mj_bnd h
      refine mj_less hC (L0 := [some (.ref _), none, some (.int v2), some (.int s7.1), some (.int s7.2), some (.int 0)]) (And.intro rfl (And.intro rfl (And.intro rfl (And.intro rfl (And.intro rfl trivial))))) ?_
      refine mj_loop_P (A := fun z19 => P (19, [some (.ref _), none, some (.int v2), some (.int z19.1), some (.int s7.2), some (.int z19.2)], [], (110, x), m)) (E := fun _ z19 => P (57, [some (.ref _), none, some (.int v2), some (.int z19.1), some (.int s7.2), none], [], (110, x), m)) (fun zz t w hb h0 h1 => to_reach_l19_x hC hd (by decide) zz hb h0 (fun ht => h1 0 ht)) mj_F _ q4 eq4 ?_
      refine mj_gcp hC 2 ?_
      show P (7, [some (.ref _), none, some (.int v2), some (.int q4.2.1), some (.int (s7.2 + 1)), none], [], (110, x), m)
      cases h
      exact mj_less hC (L0 := [some (.ref _), none, some (.int v2), some (.int q4.2.1), some (.int (s7.2 + 1)), none]) (And.intro rfl (And.intro rfl (And.intro rfl (And.intro rfl trivial)))) (h0 rfl)
set_option maxRecDepth 20000 in
theorem to_reach_p {Ls tp ip x d : Nat} {Z : mj_X} {R : Option Value → mj_G → mj_M → Prop} {P : mj_K → Prop} (hC : mj_cls false (mj_sh Ls) (mj_rf tp ip) mj_dv mj_cd_71 (mj_Ex false (mj_sh Ls) (mj_rf tp ip) Z d) R P) (hd : 1 ≤ d) {q : Nat} (hq : q = 3 ∨ q = 17) {v1 : Int32} {v2 : Int32} {m : mj_M} {r : Int32} (h : to_reach q v1 v2 m = some r) (hR : R (some (.int r)) (110, x) m) : P (0, [some (.ref q), some (.int v1), some (.int v2), none, none, none], [], (110, x), m) := by
  unfold to_reach at h
  rcases hq with rfl | rfl
  all_goals
    refine mj_gcp hC 6 ?_
    show P (7, [some (.ref _), some (.int v1), some (.int v2), some (.int ((1 : Int32) <<< (v1 &&& 31))), some (.int 0), none], [], (110, x), m)
    obtain ⟨q5, eq5, h⟩ := mj_bnd h
    refine mj_less hC (L0 := [some (.ref _), none, some (.int v2), some (.int ((1 : Int32) <<< (v1 &&& 31))), some (.int 0), none]) (And.intro rfl (And.intro rfl (And.intro rfl (And.intro rfl trivial)))) ?_
    refine mj_loop_P (A := fun z7 => P (7, [some (.ref _), none, some (.int v2), some (.int z7.1), some (.int z7.2), none], [], (110, x), m)) (E := fun _ z7 => P (63, [none, none, none, some (.int z7.1), none, none], [], (110, x), m)) (fun zz t w hb h0 h1 => to_reach_l7_x hC hd (by decide) zz hb h0 (fun ht => h1 0 ht)) mj_F _ q5 eq5 ?_
    refine mj_gcp hC 1 ?_
    show P (64, [none, none, none, some (.int q5.2.1), none, none], [.int q5.2.1], (110, x), m)
    cases h
    exact mj_pret hC rfl hR
set_option maxRecDepth 20000 in
theorem to_reach_x {Ls tp ip x d : Nat} {Z : mj_X} (hd : 2 ≤ d) {q : Nat} (hq : q = 3 ∨ q = 17) {v1 : Int32} {v2 : Int32} {m : mj_M} {r : Int32} (h : to_reach q v1 v2 m = some r) : mj_Ex false (mj_sh Ls) (mj_rf tp ip) Z d 71 [.ref q, .int v1, .int v2] (110, x) m (some (.int r)) (110, x) m := by
  exact mj_Ex_of (cd := mj_cd_71) (L := [some (.ref q), some (.int v1), some (.int v2), none, none, none]) (by omega) (by decide) rfl (Nat.le_of_ble_eq_true rfl) rfl (fun P hC => to_reach_p hC (by omega) hq h ⟨rfl, rfl, rfl⟩)
def rd_refuse  (v1 : Int32) (m : mj_M) : Option mj_M :=
  (if (mj_I (m 31 4)) = 0 then some (mj_up (mj_up m 31 4 (.int v1)) 31 5 (.int (mj_I (m 32 7)))) else
  some m)
set_option maxRecDepth 20000 in
theorem rd_refuse_p {Ls tp ip x d : Nat} {Z : mj_X} {R : Option Value → mj_G → mj_M → Prop} {P : mj_K → Prop} (hC : mj_cls false (mj_sh Ls) (mj_rf tp ip) mj_dv mj_cd_74 (mj_Ex false (mj_sh Ls) (mj_rf tp ip) Z d) R P) (hd : 0 ≤ d) {v1 : Int32} {m : mj_M} {r : mj_M} (h : rd_refuse v1 m = some r) (hR : R none (110, x) r) : P (0, [some (.ref 31), some (.int v1)], [], (110, x), m) := by
  unfold rd_refuse at h
  refine mj_gcp hC 3 ?_
  show P (mj_pick 7 23 ((mj_I (m 31 4)) = 0), [some (.ref 31), some (.int v1)], [], (110, x), m)
  refine mj_pbr (fun c1 => ?_) (fun c1 => ?_)
  · rw [if_pos c1] at h
    refine mj_gcp hC 8 ?_
    show P (23, [some (.ref 31), some (.int v1)], [], (110, x), (mj_up (mj_up m 31 4 (.int v1)) 31 5 (.int (mj_I (m 32 7)))))
    cases h
    exact mj_pret hC rfl hR
  · rw [if_neg c1] at h
    cases h
    exact mj_pret hC rfl hR
set_option maxRecDepth 20000 in
theorem rd_refuse_x {Ls tp ip x d : Nat} {Z : mj_X} (hd : 1 ≤ d) {v1 : Int32} {m : mj_M} {r : mj_M} (h : rd_refuse v1 m = some r) : mj_Ex false (mj_sh Ls) (mj_rf tp ip) Z d 74 [.ref 31, .int v1] (110, x) m none (110, x) r := by
  exact mj_Ex_of (cd := mj_cd_74) (L := [some (.ref 31), some (.int v1)]) (by omega) (by decide) rfl (Nat.le_of_ble_eq_true rfl) rfl (fun P hC => rd_refuse_p hC (by omega) h ⟨rfl, rfl, rfl⟩)
def rd_sees  (v1 : Int32) (m : mj_M) : Int32 :=
  (if (mj_I (m 31 4)) = 0 then (if (mj_I (m 32 6)) = v1 then 1 else
  0) else
  0)
set_option maxRecDepth 20000 in
theorem rd_sees_p {Ls tp ip x d : Nat} {Z : mj_X} {R : Option Value → mj_G → mj_M → Prop} {P : mj_K → Prop} (hC : mj_cls false (mj_sh Ls) (mj_rf tp ip) mj_dv mj_cd_75 (mj_Ex false (mj_sh Ls) (mj_rf tp ip) Z d) R P) (hd : 0 ≤ d) {v1 : Int32} {m : mj_M} (hR : R (some (.int (rd_sees v1 m))) (110, x) m) : P (0, [some (.ref 31), some (.int v1)], [], (110, x), m) := by
  unfold rd_sees at hR
  refine mj_gcp hC 3 ?_
  show P (mj_pick 7 22 ((mj_I (m 31 4)) = 0), [some (.ref 31), some (.int v1)], [], (110, x), m)
  refine mj_pbr (fun c1 => ?_) (fun c1 => ?_)
  · rw [if_pos c1] at hR
    refine mj_gcp hC 5 ?_
    show P (mj_pick 18 22 ((mj_I (m 32 6)) = v1), [some (.ref 31), some (.int v1)], [], (110, x), m)
    refine mj_pbr (fun c2 => ?_) (fun c2 => ?_)
    · rw [if_pos c2] at hR
      refine mj_gcp hC 2 ?_
      show P (23, [some (.ref 31), some (.int v1)], [.int 1], (110, x), m)
      exact mj_pret hC rfl hR
    · rw [if_neg c2] at hR
      refine mj_gcp hC 1 ?_
      show P (23, [some (.ref 31), some (.int v1)], [.int 0], (110, x), m)
      exact mj_pret hC rfl hR
  · rw [if_neg c1] at hR
    refine mj_gcp hC 1 ?_
    show P (23, [some (.ref 31), some (.int v1)], [.int 0], (110, x), m)
    exact mj_pret hC rfl hR
set_option maxRecDepth 20000 in
theorem rd_sees_x {Ls tp ip x d : Nat} {Z : mj_X} (hd : 1 ≤ d) {v1 : Int32} {m : mj_M}  : mj_Ex false (mj_sh Ls) (mj_rf tp ip) Z d 75 [.ref 31, .int v1] (110, x) m (some (.int (rd_sees v1 m))) (110, x) m := by
  exact mj_Ex_of (cd := mj_cd_75) (L := [some (.ref 31), some (.int v1)]) (by omega) (by decide) rfl (Nat.le_of_ble_eq_true rfl) rfl (fun P hC => rd_sees_p hC (by omega) ⟨rfl, rfl, rfl⟩)
def rd_findPerson_j44 (ip : Nat) (v1 : Int32)  (m : mj_M) : Option (Int32 × mj_M) :=
  (if (rd_sees 21 m) = 0 then (rd_refuse 1 m).bind fun q3 =>
  some (v1, q3) else
  some (v1, m))
def rd_findPerson (ip : Nat)  (m : mj_M) : Option (Int32 × mj_M) :=
  (if (rd_sees 21 m) = 0 then rd_findPerson_j44 ip (fx_find m (ip + 1) (mj_I (m ip 0)) (mj_I (m 32 8))) m else
  (if (fx_find m (ip + 1) (mj_I (m ip 0)) (mj_I (m 32 8))) = (-1) then (rd_refuse 4 m).bind fun q5 =>
  rd_findPerson_j44 ip (fx_find m (ip + 1) (mj_I (m ip 0)) (mj_I (m 32 8))) q5 else
  rd_findPerson_j44 ip (fx_find m (ip + 1) (mj_I (m ip 0)) (mj_I (m 32 8))) m))
set_option maxRecDepth 20000 in
theorem rd_findPerson_j44_x {Ls tp ip x d : Nat} {Z : mj_X} {R : Option Value → mj_G → mj_M → Prop} {P : mj_K → Prop} (hC : mj_cls false (mj_sh Ls) (mj_rf tp ip) mj_dv mj_cd_88 (mj_Ex false (mj_sh Ls) (mj_rf tp ip) Z d) R P) (hd : 2 ≤ d) (hip : ip = 3 ∨ ip = 17) {v1 : Int32}  {m : mj_M} {r : (Int32 × mj_M)} (h : rd_findPerson_j44 ip v1 m = some r) (hR : R (some (.int r.1)) (110, x) r.2) : P (44, [some (.ref 31), some (.int v1)], [], (110, x), m) := by
  unfold rd_findPerson_j44 at h
  rcases hip with rfl | rfl
  all_goals
    refine mj_gcp hC 2 ?_
    show P (47, [some (.ref 31), some (.int v1)], [.int 21, .ref 31], (110, x), m)
    refine mj_pcall hC rfl (rd_sees_x (Nat.le_trans (by decide) hd)) ?_
    show P (50, [some (.ref 31), some (.int v1)], [.int (rd_sees 21 m)], (110, x), m)
    refine mj_gcp hC 1 ?_
    show P (mj_pick 53 58 ((rd_sees 21 m) = 0), [some (.ref 31), some (.int v1)], [], (110, x), m)
    refine mj_pbr (fun c2 => ?_) (fun c2 => ?_)
    · rw [if_pos c2] at h
      refine mj_gcp hC 2 ?_
      show P (55, [some (.ref 31), some (.int v1)], [.int 1, .ref 31], (110, x), m)
      obtain ⟨q3, eq3, h⟩ := mj_bnd h
      refine mj_pcall hC rfl (rd_refuse_x (Nat.le_trans (by decide) hd) eq3) ?_
      show P (58, [some (.ref 31), some (.int v1)], [], (110, x), q3)
      refine mj_gcp hC 1 ?_
      show P (59, [some (.ref 31), some (.int v1)], [.int v1], (110, x), q3)
      cases h
      exact mj_pret hC rfl hR
    · rw [if_neg c2] at h
      refine mj_gcp hC 1 ?_
      show P (59, [some (.ref 31), some (.int v1)], [.int v1], (110, x), m)
      cases h
      exact mj_pret hC rfl hR
set_option maxRecDepth 20000 in
theorem rd_findPerson_p {Ls tp ip x d : Nat} {Z : mj_X} {R : Option Value → mj_G → mj_M → Prop} {P : mj_K → Prop} (hC : mj_cls false (mj_sh Ls) (mj_rf tp ip) mj_dv mj_cd_88 (mj_Ex false (mj_sh Ls) (mj_rf tp ip) Z d) R P) (hd : 2 ≤ d) (hip : ip = 3 ∨ ip = 17)  {m : mj_M} {r : (Int32 × mj_M)} (h : rd_findPerson ip m = some r) (hR : R (some (.int r.1)) (110, x) r.2) : P (0, [some (.ref 31), none], [], (110, x), m) := by
  unfold rd_findPerson at h
  rcases hip with rfl | rfl
  all_goals
    refine mj_gcp hC 9 ?_
    show P (21, [some (.ref 31), none], [.int (mj_I (m 32 8)), .int (mj_I (m _ 0)), .ref _], (110, x), m)
    refine mj_pcall hC rfl (bp_find_x (Nat.le_trans (by decide) hd) (by decide)) ?_
    show P (24, [some (.ref 31), none], [.int (fx_find m _ (mj_I (m _ 0)) (mj_I (m 32 8)))], (110, x), m)
    refine mj_gcp hC 3 ?_
    show P (28, [some (.ref 31), some (.int (fx_find m _ (mj_I (m _ 0)) (mj_I (m 32 8))))], [.int 21, .ref 31], (110, x), m)
    refine mj_pcall hC rfl (rd_sees_x (Nat.le_trans (by decide) hd)) ?_
    show P (31, [some (.ref 31), some (.int (fx_find m _ (mj_I (m _ 0)) (mj_I (m 32 8))))], [.int (rd_sees 21 m)], (110, x), m)
    refine mj_gcp hC 1 ?_
    show P (mj_pick 44 34 ((rd_sees 21 m) = 0), [some (.ref 31), some (.int (fx_find m _ (mj_I (m _ 0)) (mj_I (m 32 8))))], [], (110, x), m)
    refine mj_pbr (fun c1 => ?_) (fun c1 => ?_)
    · rw [if_pos c1] at h
      exact mj_less hC (L0 := [some (.ref 31), some (.int (fx_find m _ (mj_I (m _ 0)) (mj_I (m 32 8))))]) (And.intro rfl (And.intro rfl trivial)) (rd_findPerson_j44_x hC hd (by decide) h hR)
    · rw [if_neg c1] at h
      refine mj_gcp hC 3 ?_
      show P (mj_pick 39 44 ((fx_find m _ (mj_I (m _ 0)) (mj_I (m 32 8))) = (-1)), [some (.ref 31), some (.int (fx_find m _ (mj_I (m _ 0)) (mj_I (m 32 8))))], [], (110, x), m)
      refine mj_pbr (fun c4 => ?_) (fun c4 => ?_)
      · rw [if_pos c4] at h
        refine mj_gcp hC 2 ?_
        show P (41, [some (.ref 31), some (.int (fx_find m _ (mj_I (m _ 0)) (mj_I (m 32 8))))], [.int 4, .ref 31], (110, x), m)
        obtain ⟨q5, eq5, h⟩ := mj_bnd h
        refine mj_pcall hC rfl (rd_refuse_x (Nat.le_trans (by decide) hd) eq5) ?_
        show P (44, [some (.ref 31), some (.int (fx_find m _ (mj_I (m _ 0)) (mj_I (m 32 8))))], [], (110, x), q5)
        exact mj_less hC (L0 := [some (.ref 31), some (.int (fx_find m _ (mj_I (m _ 0)) (mj_I (m 32 8))))]) (And.intro rfl (And.intro rfl trivial)) (rd_findPerson_j44_x hC hd (by decide) h hR)
      · rw [if_neg c4] at h
        exact mj_less hC (L0 := [some (.ref 31), some (.int (fx_find m _ (mj_I (m _ 0)) (mj_I (m 32 8))))]) (And.intro rfl (And.intro rfl trivial)) (rd_findPerson_j44_x hC hd (by decide) h hR)
set_option maxRecDepth 20000 in
theorem rd_findPerson_x {Ls tp ip x d : Nat} {Z : mj_X} (hd : 3 ≤ d) (hip : ip = 3 ∨ ip = 17)  {m : mj_M} {r : (Int32 × mj_M)} (h : rd_findPerson ip m = some r) : mj_Ex false (mj_sh Ls) (mj_rf tp ip) Z d 88 [.ref 31] (110, x) m (some (.int r.1)) (110, x) r.2 := by
  exact mj_Ex_of (cd := mj_cd_88) (L := [some (.ref 31), none]) (by omega) (by decide) rfl (Nat.le_of_ble_eq_true rfl) rfl (fun P hC => rd_findPerson_p hC (by omega) hip h ⟨rfl, rfl, rfl⟩)
def rd_add (ip : Nat) (v1 : Int32) (m : mj_M) : Option mj_M :=
  (if (mj_I (m 31 4)) = 0 then (to_addKnot ip v1 m).bind fun q2 =>
  some q2 else
  some m)
set_option maxRecDepth 20000 in
theorem rd_add_p {Ls tp ip x d : Nat} {Z : mj_X} {R : Option Value → mj_G → mj_M → Prop} {P : mj_K → Prop} (hC : mj_cls false (mj_sh Ls) (mj_rf tp ip) mj_dv mj_cd_90 (mj_Ex false (mj_sh Ls) (mj_rf tp ip) Z d) R P) (hd : 2 ≤ d) (hip : ip = 3 ∨ ip = 17) {v1 : Int32} {m : mj_M} {r : mj_M} (h : rd_add ip v1 m = some r) (hR : R none (110, x) r) : P (0, [some (.ref 31), some (.int v1)], [], (110, x), m) := by
  unfold rd_add at h
  rcases hip with rfl | rfl
  all_goals
    refine mj_gcp hC 3 ?_
    show P (mj_pick 7 15 ((mj_I (m 31 4)) = 0), [some (.ref 31), some (.int v1)], [], (110, x), m)
    refine mj_pbr (fun c1 => ?_) (fun c1 => ?_)
    · rw [if_pos c1] at h
      refine mj_gcp hC 3 ?_
      show P (12, [some (.ref 31), some (.int v1)], [.int v1, .ref _], (110, x), m)
      obtain ⟨q2, eq2, h⟩ := mj_bnd h
      refine mj_pcall hC rfl (to_addKnot_x (Nat.le_trans (by decide) hd) (by decide) eq2) ?_
      show P (15, [some (.ref 31), some (.int v1)], [], (110, x), q2)
      cases h
      exact mj_pret hC rfl hR
    · rw [if_neg c1] at h
      cases h
      exact mj_pret hC rfl hR
set_option maxRecDepth 20000 in
theorem rd_add_x {Ls tp ip x d : Nat} {Z : mj_X} (hd : 3 ≤ d) (hip : ip = 3 ∨ ip = 17) {v1 : Int32} {m : mj_M} {r : mj_M} (h : rd_add ip v1 m = some r) : mj_Ex false (mj_sh Ls) (mj_rf tp ip) Z d 90 [.ref 31, .int v1] (110, x) m none (110, x) r := by
  exact mj_Ex_of (cd := mj_cd_90) (L := [some (.ref 31), some (.int v1)]) (by omega) (by decide) rfl (Nat.le_of_ble_eq_true rfl) rfl (fun P hC => rd_add_p hC (by omega) hip h ⟨rfl, rfl, rfl⟩)
def tk_letter  (v0 : Int32) (v1 : Int32) (m : mj_M) : Int32 :=
  (if 6 ≤ v1 then 0 else
  (((v0 - 97) + 1) <<< (((25 : Int32) - ((5 : Int32) * v1)) &&& 31)))
set_option maxRecDepth 20000 in
theorem tk_letter_p {Ls tp ip x d : Nat} {Z : mj_X} {R : Option Value → mj_G → mj_M → Prop} {P : mj_K → Prop} (hC : mj_cls false (mj_sh Ls) (mj_rf tp ip) mj_dv mj_cd_100 (mj_Ex false (mj_sh Ls) (mj_rf tp ip) Z d) R P) (hd : 0 ≤ d) {v0 : Int32} {v1 : Int32} {m : mj_M} (hR : R (some (.int (tk_letter v0 v1 m))) (110, x) m) : P (0, [some (.int v0), some (.int v1)], [], (110, x), m) := by
  unfold tk_letter at hR
  refine mj_gcp hC 3 ?_
  show P (mj_pick 22 6 (6 ≤ v1), [some (.int v0), some (.int v1)], [], (110, x), m)
  refine mj_pbr (fun c1 => ?_) (fun c1 => ?_)
  · rw [if_pos c1] at hR
    refine mj_gcp hC 1 ?_
    show P (23, [some (.int v0), some (.int v1)], [.int 0], (110, x), m)
    exact mj_pret hC rfl hR
  · rw [if_neg c1] at hR
    refine mj_gcp hC 12 ?_
    show P (23, [some (.int v0), some (.int v1)], [.int (((v0 - 97) + 1) <<< (((25 : Int32) - ((5 : Int32) * v1)) &&& 31))], (110, x), m)
    exact mj_pret hC rfl hR
set_option maxRecDepth 20000 in
theorem tk_letter_x {Ls tp ip x d : Nat} {Z : mj_X} (hd : 1 ≤ d) {v0 : Int32} {v1 : Int32} {m : mj_M}  : mj_Ex false (mj_sh Ls) (mj_rf tp ip) Z d 100 [.int v0, .int v1] (110, x) m (some (.int (tk_letter v0 v1 m))) (110, x) m := by
  exact mj_Ex_of (cd := mj_cd_100) (L := [some (.int v0), some (.int v1)]) (by omega) (by decide) rfl (Nat.le_of_ble_eq_true rfl) rfl (fun P hC => tk_letter_p hC (by omega) ⟨rfl, rfl, rfl⟩)
def tk_add  (v1 : Int32) (v2 : Int32) (v3 : Int32) (m : mj_M) : Option mj_M :=
  some (mj_up (fx_put (fx_put (fx_put m 34 (mj_I (m 32 4)) v1) 35 (mj_I (m 32 4)) v2) 36 (mj_I (m 32 4)) v3) 32 4 (.int ((mj_I (m 32 4)) + 1)))
set_option maxRecDepth 20000 in
theorem tk_add_p {Ls tp ip x d : Nat} {Z : mj_X} {R : Option Value → mj_G → mj_M → Prop} {P : mj_K → Prop} (hC : mj_cls false (mj_sh Ls) (mj_rf tp ip) mj_dv mj_cd_103 (mj_Ex false (mj_sh Ls) (mj_rf tp ip) Z d) R P) (hd : 1 ≤ d) {v1 : Int32} {v2 : Int32} {v3 : Int32} {m : mj_M} {r : mj_M} (h : tk_add v1 v2 v3 m = some r) (hR : R none (110, x) r) : P (0, [some (.ref 32), some (.int v1), some (.int v2), some (.int v3)], [], (110, x), m) := by
  unfold tk_add at h
  refine mj_gcp hC 5 ?_
  show P (9, [some (.ref 32), some (.int v1), some (.int v2), some (.int v3)], [.int v1, .int (mj_I (m 32 4)), .ref 34], (110, x), m)
  refine mj_pcall hC rfl (bp_put_x (Nat.le_trans (by decide) hd) (by decide)) ?_
  show P (12, [some (.ref 32), some (.int v1), some (.int v2), some (.int v3)], [], (110, x), (fx_put m 34 (mj_I (m 32 4)) v1))
  refine mj_gcp hC 5 ?_
  show P (21, [some (.ref 32), some (.int v1), some (.int v2), some (.int v3)], [.int v2, .int (mj_I (m 32 4)), .ref 35], (110, x), (fx_put m 34 (mj_I (m 32 4)) v1))
  refine mj_pcall hC rfl (bp_put_x (Nat.le_trans (by decide) hd) (by decide)) ?_
  show P (24, [some (.ref 32), some (.int v1), some (.int v2), some (.int v3)], [], (110, x), (fx_put (fx_put m 34 (mj_I (m 32 4)) v1) 35 (mj_I (m 32 4)) v2))
  refine mj_gcp hC 5 ?_
  show P (33, [some (.ref 32), some (.int v1), some (.int v2), some (.int v3)], [.int v3, .int (mj_I (m 32 4)), .ref 36], (110, x), (fx_put (fx_put m 34 (mj_I (m 32 4)) v1) 35 (mj_I (m 32 4)) v2))
  refine mj_pcall hC rfl (bp_put_x (Nat.le_trans (by decide) hd) (by decide)) ?_
  show P (36, [some (.ref 32), some (.int v1), some (.int v2), some (.int v3)], [], (110, x), (fx_put (fx_put (fx_put m 34 (mj_I (m 32 4)) v1) 35 (mj_I (m 32 4)) v2) 36 (mj_I (m 32 4)) v3))
  refine mj_gcp hC 6 ?_
  show P (46, [some (.ref 32), some (.int v1), some (.int v2), some (.int v3)], [], (110, x), (mj_up (fx_put (fx_put (fx_put m 34 (mj_I (m 32 4)) v1) 35 (mj_I (m 32 4)) v2) 36 (mj_I (m 32 4)) v3) 32 4 (.int ((mj_I (m 32 4)) + 1))))
  cases h
  exact mj_pret hC rfl hR
set_option maxRecDepth 20000 in
theorem tk_add_x {Ls tp ip x d : Nat} {Z : mj_X} (hd : 2 ≤ d) {v1 : Int32} {v2 : Int32} {v3 : Int32} {m : mj_M} {r : mj_M} (h : tk_add v1 v2 v3 m = some r) : mj_Ex false (mj_sh Ls) (mj_rf tp ip) Z d 103 [.ref 32, .int v1, .int v2, .int v3] (110, x) m none (110, x) r := by
  exact mj_Ex_of (cd := mj_cd_103) (L := [some (.ref 32), some (.int v1), some (.int v2), some (.int v3)]) (by omega) (by decide) rfl (Nat.le_of_ble_eq_true rfl) rfl (fun P hC => tk_add_p hC (by omega) h ⟨rfl, rfl, rfl⟩)
def tk_isLetter  (v0 : Int32) (m : mj_M) : Int32 :=
  (if v0 < 97 then 0 else
  (if 122 < v0 then 0 else
  1))
set_option maxRecDepth 20000 in
theorem tk_isLetter_p {Ls tp ip x d : Nat} {Z : mj_X} {R : Option Value → mj_G → mj_M → Prop} {P : mj_K → Prop} (hC : mj_cls false (mj_sh Ls) (mj_rf tp ip) mj_dv mj_cd_104 (mj_Ex false (mj_sh Ls) (mj_rf tp ip) Z d) R P) (hd : 0 ≤ d) {v0 : Int32} {m : mj_M} (hR : R (some (.int (tk_isLetter v0 m))) (110, x) m) : P (0, [some (.int v0)], [], (110, x), m) := by
  unfold tk_isLetter at hR
  refine mj_gcp hC 3 ?_
  show P (mj_pick 16 6 (v0 < 97), [some (.int v0)], [], (110, x), m)
  refine mj_pbr (fun c1 => ?_) (fun c1 => ?_)
  · rw [if_pos c1] at hR
    refine mj_gcp hC 1 ?_
    show P (17, [some (.int v0)], [.int 0], (110, x), m)
    exact mj_pret hC rfl hR
  · rw [if_neg c1] at hR
    refine mj_gcp hC 3 ?_
    show P (mj_pick 16 12 (122 < v0), [some (.int v0)], [], (110, x), m)
    refine mj_pbr (fun c2 => ?_) (fun c2 => ?_)
    · rw [if_pos c2] at hR
      refine mj_gcp hC 1 ?_
      show P (17, [some (.int v0)], [.int 0], (110, x), m)
      exact mj_pret hC rfl hR
    · rw [if_neg c2] at hR
      refine mj_gcp hC 2 ?_
      show P (17, [some (.int v0)], [.int 1], (110, x), m)
      exact mj_pret hC rfl hR
set_option maxRecDepth 20000 in
theorem tk_isLetter_x {Ls tp ip x d : Nat} {Z : mj_X} (hd : 1 ≤ d) {v0 : Int32} {m : mj_M}  : mj_Ex false (mj_sh Ls) (mj_rf tp ip) Z d 104 [.int v0] (110, x) m (some (.int (tk_isLetter v0 m))) (110, x) m := by
  exact mj_Ex_of (cd := mj_cd_104) (L := [some (.int v0)]) (by omega) (by decide) rfl (Nat.le_of_ble_eq_true rfl) rfl (fun P hC => tk_isLetter_p hC (by omega) ⟨rfl, rfl, rfl⟩)
def tk_isDigit  (v0 : Int32) (m : mj_M) : Int32 :=
  (if v0 < 48 then 0 else
  (if 57 < v0 then 0 else
  1))
set_option maxRecDepth 20000 in
theorem tk_isDigit_p {Ls tp ip x d : Nat} {Z : mj_X} {R : Option Value → mj_G → mj_M → Prop} {P : mj_K → Prop} (hC : mj_cls false (mj_sh Ls) (mj_rf tp ip) mj_dv mj_cd_105 (mj_Ex false (mj_sh Ls) (mj_rf tp ip) Z d) R P) (hd : 0 ≤ d) {v0 : Int32} {m : mj_M} (hR : R (some (.int (tk_isDigit v0 m))) (110, x) m) : P (0, [some (.int v0)], [], (110, x), m) := by
  unfold tk_isDigit at hR
  refine mj_gcp hC 3 ?_
  show P (mj_pick 16 6 (v0 < 48), [some (.int v0)], [], (110, x), m)
  refine mj_pbr (fun c1 => ?_) (fun c1 => ?_)
  · rw [if_pos c1] at hR
    refine mj_gcp hC 1 ?_
    show P (17, [some (.int v0)], [.int 0], (110, x), m)
    exact mj_pret hC rfl hR
  · rw [if_neg c1] at hR
    refine mj_gcp hC 3 ?_
    show P (mj_pick 16 12 (57 < v0), [some (.int v0)], [], (110, x), m)
    refine mj_pbr (fun c2 => ?_) (fun c2 => ?_)
    · rw [if_pos c2] at hR
      refine mj_gcp hC 1 ?_
      show P (17, [some (.int v0)], [.int 0], (110, x), m)
      exact mj_pret hC rfl hR
    · rw [if_neg c2] at hR
      refine mj_gcp hC 2 ?_
      show P (17, [some (.int v0)], [.int 1], (110, x), m)
      exact mj_pret hC rfl hR
set_option maxRecDepth 20000 in
theorem tk_isDigit_x {Ls tp ip x d : Nat} {Z : mj_X} (hd : 1 ≤ d) {v0 : Int32} {m : mj_M}  : mj_Ex false (mj_sh Ls) (mj_rf tp ip) Z d 105 [.int v0] (110, x) m (some (.int (tk_isDigit v0 m))) (110, x) m := by
  exact mj_Ex_of (cd := mj_cd_105) (L := [some (.int v0)]) (by omega) (by decide) rfl (Nat.le_of_ble_eq_true rfl) rfl (fun P hC => tk_isDigit_p hC (by omega) ⟨rfl, rfl, rfl⟩)
def tk_cutWord_l6  (v2 : Int32) (v3 : Int32) (s6 : (Int32 × Int32 × mj_M)) : Option (Nat × (Int32 × Int32 × mj_M)) :=
  (if v3 ≤ s6.2.1 then some (1, (s6.1, s6.2.1, s6.2.2)) else
  (if (tk_isLetter (fx_at s6.2.2 2 s6.2.1) s6.2.2) = 0 then some (1, (s6.1, s6.2.1, s6.2.2)) else
  some (0, ((s6.1 ||| (tk_letter (fx_at s6.2.2 2 s6.2.1) (s6.2.1 - v2) s6.2.2)), (s6.2.1 + 1), s6.2.2))))
def tk_cutWord_j89  (v2 : Int32) (v4 : Int32) (v5 : Int32) (s1 : Int32) (m : mj_M) : Option (Int32 × mj_M) :=
  (tk_add s1 v2 v4 m).bind fun q6 =>
  some (v5, q6)
def tk_cutWord_j48  (v2 : Int32) (v4 : Int32) (v5 : Int32)  (m : mj_M) : Option (Int32 × mj_M) :=
  (if (v5 - v2) ≤ 6 then (if (fx_find m 33 21 v4) = (-1) then tk_cutWord_j89 v2 v4 v5 21 m else
  tk_cutWord_j89 v2 v4 v5 (fx_find m 33 21 v4) m) else
  tk_cutWord_j89 v2 v4 v5 24 m)
def tk_cutWord  (v2 : Int32) (v3 : Int32) (m : mj_M) : Option (Int32 × mj_M) :=
  (mj_loop (tk_cutWord_l6 v2 v3) mj_F (0, v2, m)).bind fun q3 =>
  tk_cutWord_j48 v2 q3.2.1 q3.2.2.1 q3.2.2.2
set_option maxRecDepth 20000 in
theorem tk_cutWord_l6_x {Ls tp ip x d : Nat} {Z : mj_X} {R : Option Value → mj_G → mj_M → Prop} {P : mj_K → Prop} (hC : mj_cls false (mj_sh Ls) (mj_rf tp ip) mj_dv mj_cd_106 (mj_Ex false (mj_sh Ls) (mj_rf tp ip) Z d) R P) (hd : 2 ≤ d) {v2 : Int32} {v3 : Int32} (s6 : (Int32 × Int32 × mj_M)) {t : Nat} {w : (Int32 × Int32 × mj_M)} (h : tk_cutWord_l6 v2 v3 s6 = some (t, w)) (h0 : t = 0 → P (6, [some (.ref 32), some (.ref 2), some (.int v2), some (.int v3), some (.int w.1), some (.int w.2.1), none], [], (110, x), w.2.2)) (h1 : t = 1 → P (48, [some (.ref 32), none, some (.int v2), none, some (.int w.1), some (.int w.2.1), none], [], (110, x), w.2.2)) : P (6, [some (.ref 32), some (.ref 2), some (.int v2), some (.int v3), some (.int s6.1), some (.int s6.2.1), none], [], (110, x), s6.2.2) := by
  unfold tk_cutWord_l6 at h
  refine mj_gcp hC 3 ?_
  show P (mj_pick 48 12 (v3 ≤ s6.2.1), [some (.ref 32), some (.ref 2), some (.int v2), some (.int v3), some (.int s6.1), some (.int s6.2.1), none], [], (110, x), s6.2.2)
  refine mj_pbr (fun c1 => ?_) (fun c1 => ?_)
  · rw [if_pos c1] at h
    cases h
    exact mj_less hC (L0 := [some (.ref 32), none, some (.int v2), none, some (.int s6.1), some (.int s6.2.1), none]) (And.intro rfl (And.intro rfl (And.intro rfl (And.intro rfl trivial)))) (h1 rfl)
  · rw [if_neg c1] at h
    refine mj_gcp hC 2 ?_
    show P (15, [some (.ref 32), some (.ref 2), some (.int v2), some (.int v3), some (.int s6.1), some (.int s6.2.1), none], [.int s6.2.1, .ref 2], (110, x), s6.2.2)
    refine mj_pcall hC rfl (bp_at_x (Nat.le_trans (by decide) hd) (by decide)) ?_
    show P (18, [some (.ref 32), some (.ref 2), some (.int v2), some (.int v3), some (.int s6.1), some (.int s6.2.1), none], [.int (fx_at s6.2.2 2 s6.2.1)], (110, x), s6.2.2)
    refine mj_pcall hC rfl (tk_isLetter_x (Nat.le_trans (by decide) hd)) ?_
    show P (21, [some (.ref 32), some (.ref 2), some (.int v2), some (.int v3), some (.int s6.1), some (.int s6.2.1), none], [.int (tk_isLetter (fx_at s6.2.2 2 s6.2.1) s6.2.2)], (110, x), s6.2.2)
    refine mj_gcp hC 1 ?_
    show P (mj_pick 48 24 ((tk_isLetter (fx_at s6.2.2 2 s6.2.1) s6.2.2) = 0), [some (.ref 32), some (.ref 2), some (.int v2), some (.int v3), some (.int s6.1), some (.int s6.2.1), none], [], (110, x), s6.2.2)
    refine mj_pbr (fun c2 => ?_) (fun c2 => ?_)
    · rw [if_pos c2] at h
      cases h
      exact mj_less hC (L0 := [some (.ref 32), none, some (.int v2), none, some (.int s6.1), some (.int s6.2.1), none]) (And.intro rfl (And.intro rfl (And.intro rfl (And.intro rfl trivial)))) (h1 rfl)
    · rw [if_neg c2] at h
      refine mj_gcp hC 3 ?_
      show P (29, [some (.ref 32), some (.ref 2), some (.int v2), some (.int v3), some (.int s6.1), some (.int s6.2.1), none], [.int s6.2.1, .ref 2, .int s6.1], (110, x), s6.2.2)
      refine mj_pcall hC rfl (bp_at_x (Nat.le_trans (by decide) hd) (by decide)) ?_
      show P (32, [some (.ref 32), some (.ref 2), some (.int v2), some (.int v3), some (.int s6.1), some (.int s6.2.1), none], [.int (fx_at s6.2.2 2 s6.2.1), .int s6.1], (110, x), s6.2.2)
      refine mj_gcp hC 3 ?_
      show P (36, [some (.ref 32), some (.ref 2), some (.int v2), some (.int v3), some (.int s6.1), some (.int s6.2.1), none], [.int (s6.2.1 - v2), .int (fx_at s6.2.2 2 s6.2.1), .int s6.1], (110, x), s6.2.2)
      refine mj_pcall hC rfl (tk_letter_x (Nat.le_trans (by decide) hd)) ?_
      show P (39, [some (.ref 32), some (.ref 2), some (.int v2), some (.int v3), some (.int s6.1), some (.int s6.2.1), none], [.int (tk_letter (fx_at s6.2.2 2 s6.2.1) (s6.2.1 - v2) s6.2.2), .int s6.1], (110, x), s6.2.2)
      refine mj_gcp hC 4 ?_
      show P (6, [some (.ref 32), some (.ref 2), some (.int v2), some (.int v3), some (.int (s6.1 ||| (tk_letter (fx_at s6.2.2 2 s6.2.1) (s6.2.1 - v2) s6.2.2))), some (.int (s6.2.1 + 1)), none], [], (110, x), s6.2.2)
      generalize (s6.1 ||| (tk_letter (fx_at s6.2.2 2 s6.2.1) (s6.2.1 - v2) s6.2.2)) = nz0 at h ⊢
      cases h
      exact mj_less hC (L0 := [some (.ref 32), some (.ref 2), some (.int v2), some (.int v3), some (.int nz0), some (.int (s6.2.1 + 1)), none]) (And.intro rfl (And.intro rfl (And.intro rfl (And.intro rfl (And.intro rfl (And.intro rfl trivial)))))) (h0 rfl)
set_option maxRecDepth 20000 in
theorem tk_cutWord_j89_x {Ls tp ip x d : Nat} {Z : mj_X} {R : Option Value → mj_G → mj_M → Prop} {P : mj_K → Prop} (hC : mj_cls false (mj_sh Ls) (mj_rf tp ip) mj_dv mj_cd_106 (mj_Ex false (mj_sh Ls) (mj_rf tp ip) Z d) R P) (hd : 2 ≤ d) {v2 : Int32} {v4 : Int32} {v5 : Int32} {s1 : Int32} {m : mj_M} {r : (Int32 × mj_M)} (h : tk_cutWord_j89 v2 v4 v5 s1 m = some r) (hR : R (some (.int r.1)) (110, x) r.2) : P (89, [none, none, some (.int v2), none, some (.int v4), some (.int v5), none], [.int s1, .ref 32], (110, x), m) := by
  unfold tk_cutWord_j89 at h
  refine mj_gcp hC 2 ?_
  show P (92, [none, none, some (.int v2), none, some (.int v4), some (.int v5), none], [.int v4, .int v2, .int s1, .ref 32], (110, x), m)
  obtain ⟨q6, eq6, h⟩ := mj_bnd h
  refine mj_pcall hC rfl (tk_add_x (Nat.le_trans (by decide) hd) eq6) ?_
  show P (95, [none, none, some (.int v2), none, some (.int v4), some (.int v5), none], [], (110, x), q6)
  refine mj_gcp hC 1 ?_
  show P (97, [none, none, some (.int v2), none, some (.int v4), some (.int v5), none], [.int v5], (110, x), q6)
  cases h
  exact mj_pret hC rfl hR
set_option maxRecDepth 20000 in
theorem tk_cutWord_j48_x {Ls tp ip x d : Nat} {Z : mj_X} {R : Option Value → mj_G → mj_M → Prop} {P : mj_K → Prop} (hC : mj_cls false (mj_sh Ls) (mj_rf tp ip) mj_dv mj_cd_106 (mj_Ex false (mj_sh Ls) (mj_rf tp ip) Z d) R P) (hd : 2 ≤ d) {v2 : Int32} {v4 : Int32} {v5 : Int32}  {m : mj_M} {r : (Int32 × mj_M)} (h : tk_cutWord_j48 v2 v4 v5 m = some r) (hR : R (some (.int r.1)) (110, x) r.2) : P (48, [some (.ref 32), none, some (.int v2), none, some (.int v4), some (.int v5), none], [], (110, x), m) := by
  unfold tk_cutWord_j48 at h
  refine mj_gcp hC 4 ?_
  show P (56, [some (.ref 32), none, some (.int v2), none, some (.int v4), some (.int v5), none], [.int v4, .int 21, .ref 33], (110, x), m)
  refine mj_pcall hC rfl (bp_find_x (Nat.le_trans (by decide) hd) (by decide)) ?_
  show P (59, [some (.ref 32), none, some (.int v2), none, some (.int v4), some (.int v5), none], [.int (fx_find m 33 21 v4)], (110, x), m)
  refine mj_gcp hC 7 ?_
  show P (mj_pick 76 71 ((v5 - v2) ≤ 6), [some (.ref 32), none, some (.int v2), none, some (.int v4), some (.int v5), some (.int (fx_find m 33 21 v4))], [.ref 32], (110, x), m)
  refine mj_pbr (fun c4 => ?_) (fun c4 => ?_)
  · rw [if_pos c4] at h
    refine mj_gcp hC 3 ?_
    show P (mj_pick 82 87 ((fx_find m 33 21 v4) = (-1)), [some (.ref 32), none, some (.int v2), none, some (.int v4), some (.int v5), some (.int (fx_find m 33 21 v4))], [.ref 32], (110, x), m)
    refine mj_pbr (fun c5 => ?_) (fun c5 => ?_)
    · rw [if_pos c5] at h
      refine mj_gcp hC 2 ?_
      show P (89, [some (.ref 32), none, some (.int v2), none, some (.int v4), some (.int v5), some (.int (fx_find m 33 21 v4))], [.int 21, .ref 32], (110, x), m)
      exact mj_less hC (L0 := [none, none, some (.int v2), none, some (.int v4), some (.int v5), none]) (And.intro rfl (And.intro rfl (And.intro rfl trivial))) (tk_cutWord_j89_x hC hd h hR)
    · rw [if_neg c5] at h
      refine mj_gcp hC 1 ?_
      show P (89, [some (.ref 32), none, some (.int v2), none, some (.int v4), some (.int v5), some (.int (fx_find m 33 21 v4))], [.int (fx_find m 33 21 v4), .ref 32], (110, x), m)
      exact mj_less hC (L0 := [none, none, some (.int v2), none, some (.int v4), some (.int v5), none]) (And.intro rfl (And.intro rfl (And.intro rfl trivial))) (tk_cutWord_j89_x hC hd h hR)
  · rw [if_neg c4] at h
    refine mj_gcp hC 2 ?_
    show P (89, [some (.ref 32), none, some (.int v2), none, some (.int v4), some (.int v5), some (.int (fx_find m 33 21 v4))], [.int 24, .ref 32], (110, x), m)
    exact mj_less hC (L0 := [none, none, some (.int v2), none, some (.int v4), some (.int v5), none]) (And.intro rfl (And.intro rfl (And.intro rfl trivial))) (tk_cutWord_j89_x hC hd h hR)
set_option maxRecDepth 20000 in
theorem tk_cutWord_p {Ls tp ip x d : Nat} {Z : mj_X} {R : Option Value → mj_G → mj_M → Prop} {P : mj_K → Prop} (hC : mj_cls false (mj_sh Ls) (mj_rf tp ip) mj_dv mj_cd_106 (mj_Ex false (mj_sh Ls) (mj_rf tp ip) Z d) R P) (hd : 2 ≤ d) {v2 : Int32} {v3 : Int32} {m : mj_M} {r : (Int32 × mj_M)} (h : tk_cutWord v2 v3 m = some r) (hR : R (some (.int r.1)) (110, x) r.2) : P (0, [some (.ref 32), some (.ref 2), some (.int v2), some (.int v3), none, none, none], [], (110, x), m) := by
  unfold tk_cutWord at h
  refine mj_gcp hC 4 ?_
  show P (6, [some (.ref 32), some (.ref 2), some (.int v2), some (.int v3), some (.int 0), some (.int v2), none], [], (110, x), m)
  obtain ⟨q3, eq3, h⟩ := mj_bnd h
  refine mj_less hC (L0 := [some (.ref 32), some (.ref 2), some (.int v2), some (.int v3), some (.int 0), some (.int v2), none]) (And.intro rfl (And.intro rfl (And.intro rfl (And.intro rfl (And.intro rfl (And.intro rfl trivial)))))) ?_
  refine mj_loop_P (A := fun z6 => P (6, [some (.ref 32), some (.ref 2), some (.int v2), some (.int v3), some (.int z6.1), some (.int z6.2.1), none], [], (110, x), z6.2.2)) (E := fun _ z6 => P (48, [some (.ref 32), none, some (.int v2), none, some (.int z6.1), some (.int z6.2.1), none], [], (110, x), z6.2.2)) (fun zz t w hb h0 h1 => tk_cutWord_l6_x hC hd zz hb h0 (fun ht => h1 0 ht)) mj_F _ q3 eq3 ?_
  exact mj_less hC (L0 := [some (.ref 32), none, some (.int v2), none, some (.int q3.2.1), some (.int q3.2.2.1), none]) (And.intro rfl (And.intro rfl (And.intro rfl (And.intro rfl trivial)))) (tk_cutWord_j48_x hC hd h hR)
set_option maxRecDepth 20000 in
theorem tk_cutWord_x {Ls tp ip x d : Nat} {Z : mj_X} (hd : 3 ≤ d) {v2 : Int32} {v3 : Int32} {m : mj_M} {r : (Int32 × mj_M)} (h : tk_cutWord v2 v3 m = some r) : mj_Ex false (mj_sh Ls) (mj_rf tp ip) Z d 106 [.ref 32, .ref 2, .int v2, .int v3] (110, x) m (some (.int r.1)) (110, x) r.2 := by
  exact mj_Ex_of (cd := mj_cd_106) (L := [some (.ref 32), some (.ref 2), some (.int v2), some (.int v3), none, none, none]) (by omega) (by decide) rfl (Nat.le_of_ble_eq_true rfl) rfl (fun P hC => tk_cutWord_p hC (by omega) h ⟨rfl, rfl, rfl⟩)
def tk_signKind  (v0 : Int32) (v1 : Int32) (m : mj_M) : Int32 :=
  (if v0 = 40 then 26 else
  (if v0 = 41 then 27 else
  (if v0 = 42 then 36 else
  (if v0 = 43 then 34 else
  (if v0 = 44 then 24 else
  (if v0 = 45 then 35 else
  (if v0 = 46 then 24 else
  (if v0 = 47 then 37 else
  (if v0 = 48 then 24 else
  (if v0 = 49 then 24 else
  (if v0 = 50 then 24 else
  (if v0 = 51 then 24 else
  (if v0 = 52 then 24 else
  (if v0 = 53 then 24 else
  (if v0 = 54 then 24 else
  (if v0 = 55 then 24 else
  (if v0 = 56 then 24 else
  (if v0 = 57 then 24 else
  (if v0 = 58 then 24 else
  (if v0 = 59 then 25 else
  (if v0 = 60 then (if v1 = 61 then 29 else
  (if v1 = 62 then 31 else
  28)) else
  (if v0 = 61 then 30 else
  (if v0 = 62 then (if v1 = 61 then 32 else
  33) else
  24)))))))))))))))))))))))
set_option maxRecDepth 20000 in
theorem tk_signKind_p {Ls tp ip x d : Nat} {Z : mj_X} {R : Option Value → mj_G → mj_M → Prop} {P : mj_K → Prop} (hC : mj_cls false (mj_sh Ls) (mj_rf tp ip) mj_dv mj_cd_109 (mj_Ex false (mj_sh Ls) (mj_rf tp ip) Z d) R P) (hd : 0 ≤ d) {v0 : Int32} {v1 : Int32} {m : mj_M} (hR : R (some (.int (tk_signKind v0 v1 m))) (110, x) m) : P (0, [some (.int v0), some (.int v1)], [], (110, x), m) := by
  unfold tk_signKind at hR
  refine mj_gcp hC 2 ?_
  show P ((mj_sw v0 [(40, 111), (41, 114), (42, 165), (43, 159), (44, 171), (45, 162), (46, 171), (47, 168), (48, 171), (49, 171), (50, 171), (51, 171), (52, 171), (53, 171), (54, 171), (55, 171), (56, 171), (57, 171), (58, 171), (59, 108), (60, 117), (61, 142), (62, 145)] 171), [some (.int v0), some (.int v1)], [], (110, x), m)
  refine mj_psw (fun c1 => ?_) (fun c1 => ?_)
  · rw [if_pos c1] at hR
    refine mj_gcp hC 1 ?_
    show P (113, [some (.int v0), some (.int v1)], [.int 26], (110, x), m)
    exact mj_pret hC rfl hR
  · rw [if_neg c1] at hR
    refine mj_psw (fun c2 => ?_) (fun c2 => ?_)
    · rw [if_pos c2] at hR
      refine mj_gcp hC 1 ?_
      show P (116, [some (.int v0), some (.int v1)], [.int 27], (110, x), m)
      exact mj_pret hC rfl hR
    · rw [if_neg c2] at hR
      refine mj_psw (fun c3 => ?_) (fun c3 => ?_)
      · rw [if_pos c3] at hR
        refine mj_gcp hC 1 ?_
        show P (167, [some (.int v0), some (.int v1)], [.int 36], (110, x), m)
        exact mj_pret hC rfl hR
      · rw [if_neg c3] at hR
        refine mj_psw (fun c4 => ?_) (fun c4 => ?_)
        · rw [if_pos c4] at hR
          refine mj_gcp hC 1 ?_
          show P (161, [some (.int v0), some (.int v1)], [.int 34], (110, x), m)
          exact mj_pret hC rfl hR
        · rw [if_neg c4] at hR
          refine mj_psw (fun c5 => ?_) (fun c5 => ?_)
          · rw [if_pos c5] at hR
            refine mj_gcp hC 1 ?_
            show P (173, [some (.int v0), some (.int v1)], [.int 24], (110, x), m)
            exact mj_pret hC rfl hR
          · rw [if_neg c5] at hR
            refine mj_psw (fun c6 => ?_) (fun c6 => ?_)
            · rw [if_pos c6] at hR
              refine mj_gcp hC 1 ?_
              show P (164, [some (.int v0), some (.int v1)], [.int 35], (110, x), m)
              exact mj_pret hC rfl hR
            · rw [if_neg c6] at hR
              refine mj_psw (fun c7 => ?_) (fun c7 => ?_)
              · rw [if_pos c7] at hR
                refine mj_gcp hC 1 ?_
                show P (173, [some (.int v0), some (.int v1)], [.int 24], (110, x), m)
                exact mj_pret hC rfl hR
              · rw [if_neg c7] at hR
                refine mj_psw (fun c8 => ?_) (fun c8 => ?_)
                · rw [if_pos c8] at hR
                  refine mj_gcp hC 1 ?_
                  show P (170, [some (.int v0), some (.int v1)], [.int 37], (110, x), m)
                  exact mj_pret hC rfl hR
                · rw [if_neg c8] at hR
                  refine mj_psw (fun c9 => ?_) (fun c9 => ?_)
                  · rw [if_pos c9] at hR
                    refine mj_gcp hC 1 ?_
                    show P (173, [some (.int v0), some (.int v1)], [.int 24], (110, x), m)
                    exact mj_pret hC rfl hR
                  · rw [if_neg c9] at hR
                    refine mj_psw (fun c10 => ?_) (fun c10 => ?_)
                    · rw [if_pos c10] at hR
                      refine mj_gcp hC 1 ?_
                      show P (173, [some (.int v0), some (.int v1)], [.int 24], (110, x), m)
                      exact mj_pret hC rfl hR
                    · rw [if_neg c10] at hR
                      refine mj_psw (fun c11 => ?_) (fun c11 => ?_)
                      · rw [if_pos c11] at hR
                        refine mj_gcp hC 1 ?_
                        show P (173, [some (.int v0), some (.int v1)], [.int 24], (110, x), m)
                        exact mj_pret hC rfl hR
                      · rw [if_neg c11] at hR
                        refine mj_psw (fun c12 => ?_) (fun c12 => ?_)
                        · rw [if_pos c12] at hR
                          refine mj_gcp hC 1 ?_
                          show P (173, [some (.int v0), some (.int v1)], [.int 24], (110, x), m)
                          exact mj_pret hC rfl hR
                        · rw [if_neg c12] at hR
                          refine mj_psw (fun c13 => ?_) (fun c13 => ?_)
                          · rw [if_pos c13] at hR
                            refine mj_gcp hC 1 ?_
                            show P (173, [some (.int v0), some (.int v1)], [.int 24], (110, x), m)
                            exact mj_pret hC rfl hR
                          · rw [if_neg c13] at hR
                            refine mj_psw (fun c14 => ?_) (fun c14 => ?_)
                            · rw [if_pos c14] at hR
                              refine mj_gcp hC 1 ?_
                              show P (173, [some (.int v0), some (.int v1)], [.int 24], (110, x), m)
                              exact mj_pret hC rfl hR
                            · rw [if_neg c14] at hR
                              refine mj_psw (fun c15 => ?_) (fun c15 => ?_)
                              · rw [if_pos c15] at hR
                                refine mj_gcp hC 1 ?_
                                show P (173, [some (.int v0), some (.int v1)], [.int 24], (110, x), m)
                                exact mj_pret hC rfl hR
                              · rw [if_neg c15] at hR
                                refine mj_psw (fun c16 => ?_) (fun c16 => ?_)
                                · rw [if_pos c16] at hR
                                  refine mj_gcp hC 1 ?_
                                  show P (173, [some (.int v0), some (.int v1)], [.int 24], (110, x), m)
                                  exact mj_pret hC rfl hR
                                · rw [if_neg c16] at hR
                                  refine mj_psw (fun c17 => ?_) (fun c17 => ?_)
                                  · rw [if_pos c17] at hR
                                    refine mj_gcp hC 1 ?_
                                    show P (173, [some (.int v0), some (.int v1)], [.int 24], (110, x), m)
                                    exact mj_pret hC rfl hR
                                  · rw [if_neg c17] at hR
                                    refine mj_psw (fun c18 => ?_) (fun c18 => ?_)
                                    · rw [if_pos c18] at hR
                                      refine mj_gcp hC 1 ?_
                                      show P (173, [some (.int v0), some (.int v1)], [.int 24], (110, x), m)
                                      exact mj_pret hC rfl hR
                                    · rw [if_neg c18] at hR
                                      refine mj_psw (fun c19 => ?_) (fun c19 => ?_)
                                      · rw [if_pos c19] at hR
                                        refine mj_gcp hC 1 ?_
                                        show P (173, [some (.int v0), some (.int v1)], [.int 24], (110, x), m)
                                        exact mj_pret hC rfl hR
                                      · rw [if_neg c19] at hR
                                        refine mj_psw (fun c20 => ?_) (fun c20 => ?_)
                                        · rw [if_pos c20] at hR
                                          refine mj_gcp hC 1 ?_
                                          show P (110, [some (.int v0), some (.int v1)], [.int 25], (110, x), m)
                                          exact mj_pret hC rfl hR
                                        · rw [if_neg c20] at hR
                                          refine mj_psw (fun c21 => ?_) (fun c21 => ?_)
                                          · rw [if_pos c21] at hR
                                            refine mj_gcp hC 3 ?_
                                            show P (mj_pick 123 128 (v1 = 61), [some (.int v0), some (.int v1)], [], (110, x), m)
                                            refine mj_pbr (fun c22 => ?_) (fun c22 => ?_)
                                            · rw [if_pos c22] at hR
                                              refine mj_gcp hC 2 ?_
                                              show P (141, [some (.int v0), some (.int v1)], [.int 29], (110, x), m)
                                              exact mj_pret hC rfl hR
                                            · rw [if_neg c22] at hR
                                              refine mj_gcp hC 3 ?_
                                              show P (mj_pick 134 139 (v1 = 62), [some (.int v0), some (.int v1)], [], (110, x), m)
                                              refine mj_pbr (fun c23 => ?_) (fun c23 => ?_)
                                              · rw [if_pos c23] at hR
                                                refine mj_gcp hC 2 ?_
                                                show P (141, [some (.int v0), some (.int v1)], [.int 31], (110, x), m)
                                                exact mj_pret hC rfl hR
                                              · rw [if_neg c23] at hR
                                                refine mj_gcp hC 1 ?_
                                                show P (141, [some (.int v0), some (.int v1)], [.int 28], (110, x), m)
                                                exact mj_pret hC rfl hR
                                          · rw [if_neg c21] at hR
                                            refine mj_psw (fun c24 => ?_) (fun c24 => ?_)
                                            · rw [if_pos c24] at hR
                                              refine mj_gcp hC 1 ?_
                                              show P (144, [some (.int v0), some (.int v1)], [.int 30], (110, x), m)
                                              exact mj_pret hC rfl hR
                                            · rw [if_neg c24] at hR
                                              refine mj_psw (fun c25 => ?_) (fun c25 => ?_)
                                              · rw [if_pos c25] at hR
                                                refine mj_gcp hC 3 ?_
                                                show P (mj_pick 151 156 (v1 = 61), [some (.int v0), some (.int v1)], [], (110, x), m)
                                                refine mj_pbr (fun c26 => ?_) (fun c26 => ?_)
                                                · rw [if_pos c26] at hR
                                                  refine mj_gcp hC 2 ?_
                                                  show P (158, [some (.int v0), some (.int v1)], [.int 32], (110, x), m)
                                                  exact mj_pret hC rfl hR
                                                · rw [if_neg c26] at hR
                                                  refine mj_gcp hC 1 ?_
                                                  show P (158, [some (.int v0), some (.int v1)], [.int 33], (110, x), m)
                                                  exact mj_pret hC rfl hR
                                              · rw [if_neg c25] at hR
                                                show P (171, [some (.int v0), some (.int v1)], [], (110, x), m)
                                                refine mj_gcp hC 1 ?_
                                                show P (173, [some (.int v0), some (.int v1)], [.int 24], (110, x), m)
                                                exact mj_pret hC rfl hR
set_option maxRecDepth 20000 in
theorem tk_signKind_x {Ls tp ip x d : Nat} {Z : mj_X} (hd : 1 ≤ d) {v0 : Int32} {v1 : Int32} {m : mj_M}  : mj_Ex false (mj_sh Ls) (mj_rf tp ip) Z d 109 [.int v0, .int v1] (110, x) m (some (.int (tk_signKind v0 v1 m))) (110, x) m := by
  exact mj_Ex_of (cd := mj_cd_109) (L := [some (.int v0), some (.int v1)]) (by omega) (by decide) rfl (Nat.le_of_ble_eq_true rfl) rfl (fun P hC => tk_signKind_p hC (by omega) ⟨rfl, rfl, rfl⟩)
def ck_speedOf (tp : Nat) (v1 : Int32) (m : mj_M) : Option Int32 :=
  (if (mj_I (m 37 1)) ≤ 0 then (if (mj_I (m tp 11)) < 1 then some 60 else
  (if 0 ≤ v1 then (if ((mj_I (m tp 11)) : Int32) = 0 then none else
  some (fx_at m (tp + 10) (v1 - v1 / (mj_I (m tp 11)) * (mj_I (m tp 11))))) else
  some 60)) else
  some (mj_I (m 37 1)))
set_option maxRecDepth 20000 in
theorem ck_speedOf_p {Ls tp ip x d : Nat} {Z : mj_X} {R : Option Value → mj_G → mj_M → Prop} {P : mj_K → Prop} (hC : mj_cls false (mj_sh Ls) (mj_rf tp ip) mj_dv mj_cd_112 (mj_Ex false (mj_sh Ls) (mj_rf tp ip) Z d) R P) (hd : 1 ≤ d) (htp : tp = 3 ∨ tp = 17) {v1 : Int32} {m : mj_M} {r : Int32} (h : ck_speedOf tp v1 m = some r) (hR : R (some (.int r)) (110, x) m) : P (0, [some (.ref 37), some (.int v1)], [], (110, x), m) := by
  unfold ck_speedOf at h
  rcases htp with rfl | rfl
  all_goals
    refine mj_gcp hC 3 ?_
    show P (mj_pick 12 7 ((mj_I (m 37 1)) ≤ 0), [some (.ref 37), some (.int v1)], [], (110, x), m)
    refine mj_pbr (fun c1 => ?_) (fun c1 => ?_)
    · rw [if_pos c1] at h
      refine mj_gcp hC 5 ?_
      show P (mj_pick 27 23 ((mj_I (m _ 11)) < 1), [some (.ref 37), some (.int v1)], [], (110, x), m)
      refine mj_pbr (fun c2 => ?_) (fun c2 => ?_)
      · rw [if_pos c2] at h
        refine mj_gcp hC 2 ?_
        show P (51, [some (.ref 37), some (.int v1)], [.int 60], (110, x), m)
        cases h
        exact mj_pret hC rfl hR
      · rw [if_neg c2] at h
        refine mj_gcp hC 2 ?_
        show P (mj_pick 32 27 (0 ≤ v1), [some (.ref 37), some (.int v1)], [], (110, x), m)
        refine mj_pbr (fun c3 => ?_) (fun c3 => ?_)
        · rw [if_pos c3] at h
          obtain ⟨k4, h⟩ := mj_ifn h
          refine mj_gcp hC 8 ?_
          show _ ∧ (P (48, [some (.ref 37), some (.int v1)], [.int (v1 - v1 / (mj_I (m _ 11)) * (mj_I (m _ 11))), .ref _], (110, x), m))
          refine And.intro k4 (?_)
          refine mj_pcall hC rfl (bp_at_x (Nat.le_trans (by decide) hd) (by decide)) ?_
          show P (51, [some (.ref 37), some (.int v1)], [.int (fx_at m _ (v1 - v1 / (mj_I (m _ 11)) * (mj_I (m _ 11))))], (110, x), m)
          cases h
          exact mj_pret hC rfl hR
        · rw [if_neg c3] at h
          refine mj_gcp hC 2 ?_
          show P (51, [some (.ref 37), some (.int v1)], [.int 60], (110, x), m)
          cases h
          exact mj_pret hC rfl hR
    · rw [if_neg c1] at h
      refine mj_gcp hC 2 ?_
      show P (11, [some (.ref 37), some (.int v1)], [.int (mj_I (m 37 1))], (110, x), m)
      cases h
      exact mj_pret hC rfl hR
set_option maxRecDepth 20000 in
theorem ck_speedOf_x {Ls tp ip x d : Nat} {Z : mj_X} (hd : 2 ≤ d) (htp : tp = 3 ∨ tp = 17) {v1 : Int32} {m : mj_M} {r : Int32} (h : ck_speedOf tp v1 m = some r) : mj_Ex false (mj_sh Ls) (mj_rf tp ip) Z d 112 [.ref 37, .int v1] (110, x) m (some (.int r)) (110, x) m := by
  exact mj_Ex_of (cd := mj_cd_112) (L := [some (.ref 37), some (.int v1)]) (by omega) (by decide) rfl (Nat.le_of_ble_eq_true rfl) rfl (fun P hC => ck_speedOf_p hC (by omega) htp h ⟨rfl, rfl, rfl⟩)
def ck_isWaspIn (tp : Nat) (sp : Nat) (v2 : Int32) (m : mj_M) : Option (Int32 × mj_M) :=
  (if v2 = 2 then some (0, m) else
  (if (mj_I (m tp 14)) = 0 then some (0, m) else
  (if v2 = 1 then (if (mj_I (m tp 14)) < 50 then some (0, m) else
  some (1, m)) else
  (if (mj_I (m tp 14)) = 100 then some (1, m) else
  (if (mj_I (m tp 14)) ≤ ((((((((mj_I (m sp 3)).toInt64) * 1103515245) + 12345) &&& 2147483647).toInt32) / 65536) - (((((((mj_I (m sp 3)).toInt64) * 1103515245) + 12345) &&& 2147483647).toInt32) / 65536) / 100 * 100) then some (0, (mj_up m sp 3 (.int (((((mj_I (m sp 3)).toInt64) * 1103515245) + 12345) &&& 2147483647).toInt32))) else
  some (1, (mj_up m sp 3 (.int (((((mj_I (m sp 3)).toInt64) * 1103515245) + 12345) &&& 2147483647).toInt32))))))))
set_option maxRecDepth 20000 in
theorem ck_isWaspIn_p {Ls tp ip x d : Nat} {Z : mj_X} {R : Option Value → mj_G → mj_M → Prop} {P : mj_K → Prop} (hC : mj_cls false (mj_sh Ls) (mj_rf tp ip) mj_dv mj_cd_115 (mj_Ex false (mj_sh Ls) (mj_rf tp ip) Z d) R P) (hd : 0 ≤ d) {sp : Nat} (htp : tp = 3 ∨ tp = 17) (hsp : sp = 42 ∨ sp = 47 ∨ sp = 52) {v2 : Int32} {m : mj_M} {r : (Int32 × mj_M)} (h : ck_isWaspIn tp sp v2 m = some r) (hR : R (some (.int r.1)) (110, x) r.2) : P (0, [some (.ref 37), some (.ref sp), some (.int v2)], [], (110, x), m) := by
  unfold ck_isWaspIn at h
  rcases htp with rfl | rfl <;> rcases hsp with rfl | rfl | rfl
  all_goals
    refine mj_gcp hC 3 ?_
    show P (mj_pick 15 5 (v2 = 2), [some (.ref 37), some (.ref _), some (.int v2)], [], (110, x), m)
    refine mj_pbr (fun c1 => ?_) (fun c1 => ?_)
    · rw [if_pos c1] at h
      refine mj_gcp hC 1 ?_
      show P (16, [some (.ref 37), some (.ref _), some (.int v2)], [.int 0], (110, x), m)
      cases h
      exact mj_pret hC rfl hR
    · rw [if_neg c1] at h
      refine mj_gcp hC 4 ?_
      show P (mj_pick 15 17 ((mj_I (m _ 14)) = 0), [some (.ref 37), some (.ref _), some (.int v2)], [], (110, x), m)
      refine mj_pbr (fun c2 => ?_) (fun c2 => ?_)
      · rw [if_pos c2] at h
        refine mj_gcp hC 1 ?_
        show P (16, [some (.ref 37), some (.ref _), some (.int v2)], [.int 0], (110, x), m)
        cases h
        exact mj_pret hC rfl hR
      · rw [if_neg c2] at h
        refine mj_gcp hC 3 ?_
        show P (mj_pick 22 40 (v2 = 1), [some (.ref 37), some (.ref _), some (.int v2)], [], (110, x), m)
        refine mj_pbr (fun c3 => ?_) (fun c3 => ?_)
        · rw [if_pos c3] at h
          refine mj_gcp hC 5 ?_
          show P (mj_pick 38 34 ((mj_I (m _ 14)) < 50), [some (.ref 37), some (.ref _), some (.int v2)], [], (110, x), m)
          refine mj_pbr (fun c4 => ?_) (fun c4 => ?_)
          · rw [if_pos c4] at h
            refine mj_gcp hC 1 ?_
            show P (39, [some (.ref 37), some (.ref _), some (.int v2)], [.int 0], (110, x), m)
            cases h
            exact mj_pret hC rfl hR
          · rw [if_neg c4] at h
            refine mj_gcp hC 2 ?_
            show P (39, [some (.ref 37), some (.ref _), some (.int v2)], [.int 1], (110, x), m)
            cases h
            exact mj_pret hC rfl hR
        · rw [if_neg c3] at h
          refine mj_gcp hC 5 ?_
          show P (mj_pick 52 54 ((mj_I (m _ 14)) = 100), [some (.ref 37), some (.ref _), some (.int v2)], [], (110, x), m)
          refine mj_pbr (fun c5 => ?_) (fun c5 => ?_)
          · rw [if_pos c5] at h
            refine mj_gcp hC 1 ?_
            show P (53, [some (.ref 37), some (.ref _), some (.int v2)], [.int 1], (110, x), m)
            cases h
            exact mj_pret hC rfl hR
          · rw [if_neg c5] at h
            refine mj_gcp hC 22 ?_
            show _ ∧ (_ ∧ (P (mj_pick 100 96 ((mj_I (m _ 14)) ≤ ((((((((mj_I (m _ 3)).toInt64) * 1103515245) + 12345) &&& 2147483647).toInt32) / 65536) - (((((((mj_I (m _ 3)).toInt64) * 1103515245) + 12345) &&& 2147483647).toInt32) / 65536) / 100 * 100)), [some (.ref 37), some (.ref _), some (.int v2)], [], (110, x), (mj_up m _ 3 (.int (((((mj_I (m _ 3)).toInt64) * 1103515245) + 12345) &&& 2147483647).toInt32)))))
            refine And.intro (show ¬ ((65536 : Int32) = 0) by decide) (And.intro (show ¬ ((100 : Int32) = 0) by decide) (?_))
            refine mj_pbr (fun c6 => ?_) (fun c6 => ?_)
            · rw [if_pos c6] at h
              refine mj_gcp hC 1 ?_
              show P (101, [some (.ref 37), some (.ref _), some (.int v2)], [.int 0], (110, x), (mj_up m _ 3 (.int (((((mj_I (m _ 3)).toInt64) * 1103515245) + 12345) &&& 2147483647).toInt32)))
              cases h
              exact mj_pret hC rfl hR
            · rw [if_neg c6] at h
              refine mj_gcp hC 2 ?_
              show P (101, [some (.ref 37), some (.ref _), some (.int v2)], [.int 1], (110, x), (mj_up m _ 3 (.int (((((mj_I (m _ 3)).toInt64) * 1103515245) + 12345) &&& 2147483647).toInt32)))
              cases h
              exact mj_pret hC rfl hR
set_option maxRecDepth 20000 in
theorem ck_isWaspIn_x {Ls tp ip x d : Nat} {Z : mj_X} (hd : 1 ≤ d) {sp : Nat} (htp : tp = 3 ∨ tp = 17) (hsp : sp = 42 ∨ sp = 47 ∨ sp = 52) {v2 : Int32} {m : mj_M} {r : (Int32 × mj_M)} (h : ck_isWaspIn tp sp v2 m = some r) : mj_Ex false (mj_sh Ls) (mj_rf tp ip) Z d 115 [.ref 37, .ref sp, .int v2] (110, x) m (some (.int r.1)) (110, x) r.2 := by
  exact mj_Ex_of (cd := mj_cd_115) (L := [some (.ref 37), some (.ref sp), some (.int v2)]) (by omega) (by decide) rfl (Nat.le_of_ble_eq_true rfl) rfl (fun P hC => ck_isWaspIn_p hC (by omega) htp hsp h ⟨rfl, rfl, rfl⟩)
def rk_set  (v1 : Int32) (v2 : Int64) (m : mj_M) : Option mj_M :=
  (if v1 < 0 then some m else
  (if (Int32.ofNat 7) ≤ v1 then some m else
  (if v1 < 0 ∨ 7 ≤ (v1 : Int32).toNatClampNeg then none else
  some (mj_up m 39 v1.toNatClampNeg (.long v2)))))
set_option maxRecDepth 20000 in
theorem rk_set_p {Ls tp ip x d : Nat} {Z : mj_X} {R : Option Value → mj_G → mj_M → Prop} {P : mj_K → Prop} (hC : mj_cls false (mj_sh Ls) (mj_rf tp ip) mj_dv mj_cd_123 (mj_Ex false (mj_sh Ls) (mj_rf tp ip) Z d) R P) (hd : 0 ≤ d) {v1 : Int32} {v2 : Int64} {m : mj_M} {r : mj_M} (h : rk_set v1 v2 m = some r) (hR : R none (110, x) r) : P (0, [some (.ref 38), some (.int v1), some (.long v2), none], [], (110, x), m) := by
  unfold rk_set at h
  refine mj_gcp hC 2 ?_
  show P (mj_pick 20 4 (v1 < 0), [some (.ref 38), some (.int v1), some (.long v2), none], [], (110, x), m)
  refine mj_pbr (fun c1 => ?_) (fun c1 => ?_)
  · rw [if_pos c1] at h
    cases h
    exact mj_pret hC rfl hR
  · rw [if_neg c1] at h
    refine mj_gcp hC 5 ?_
    show P (mj_pick 20 13 ((Int32.ofNat 7) ≤ v1), [some (.ref 38), some (.int v1), some (.long v2), none], [], (110, x), m)
    refine mj_pbr (fun c2 => ?_) (fun c2 => ?_)
    · rw [if_pos c2] at h
      cases h
      exact mj_pret hC rfl hR
    · rw [if_neg c2] at h
      obtain ⟨k3, h⟩ := mj_ifn h
      refine mj_gcp hC 5 ?_
      show _ ∧ (P (20, [some (.ref 38), some (.int v1), some (.long v2), none], [], (110, x), (mj_up m 39 v1.toNatClampNeg (.long v2))))
      refine And.intro k3 (?_)
      cases h
      exact mj_pret hC rfl hR
set_option maxRecDepth 20000 in
theorem rk_set_x {Ls tp ip x d : Nat} {Z : mj_X} (hd : 1 ≤ d) {v1 : Int32} {v2 : Int64} {m : mj_M} {r : mj_M} (h : rk_set v1 v2 m = some r) : mj_Ex false (mj_sh Ls) (mj_rf tp ip) Z d 123 [.ref 38, .int v1, .long v2] (110, x) m none (110, x) r := by
  exact mj_Ex_of (cd := mj_cd_123) (L := [some (.ref 38), some (.int v1), some (.long v2), none]) (by omega) (by decide) rfl (Nat.le_of_ble_eq_true rfl) rfl (fun P hC => rk_set_p hC (by omega) h ⟨rfl, rfl, rfl⟩)
def rk_push  (v1 : Int64) (m : mj_M) : Option mj_M :=
  (if (mj_I (m 38 2)) < 0 then some (mj_up m 38 3 (.int 1)) else
  (if (Int32.ofNat 64) ≤ (mj_I (m 38 2)) then some (mj_up m 38 3 (.int 1)) else
  (if 0 < (lg_cmp v1 1000000000000) then some (mj_up m 38 3 (.int 1)) else
  (if 0 ≤ (lg_cmp v1 (-1000000000000)) then (if (mj_I (m 38 2)) < 0 ∨ 64 ≤ ((mj_I (m 38 2)) : Int32).toNatClampNeg then none else
  some (mj_up (mj_up m 40 (mj_I (m 38 2)).toNatClampNeg (.long v1)) 38 2 (.int ((mj_I (m 38 2)) + 1)))) else
  some (mj_up m 38 3 (.int 1))))))
set_option maxRecDepth 20000 in
theorem rk_push_p {Ls tp ip x d : Nat} {Z : mj_X} {R : Option Value → mj_G → mj_M → Prop} {P : mj_K → Prop} (hC : mj_cls false (mj_sh Ls) (mj_rf tp ip) mj_dv mj_cd_125 (mj_Ex false (mj_sh Ls) (mj_rf tp ip) Z d) R P) (hd : 0 ≤ d) {v1 : Int64} {m : mj_M} {r : mj_M} (h : rk_push v1 m = some r) (hR : R none (110, x) r) : P (0, [some (.ref 38), some (.long v1), none], [], (110, x), m) := by
  unfold rk_push at h
  refine mj_gcp hC 3 ?_
  show P (mj_pick 35 7 ((mj_I (m 38 2)) < 0), [some (.ref 38), some (.long v1), none], [], (110, x), m)
  refine mj_pbr (fun c1 => ?_) (fun c1 => ?_)
  · rw [if_pos c1] at h
    refine mj_gcp hC 3 ?_
    show P (40, [some (.ref 38), some (.long v1), none], [], (110, x), (mj_up m 38 3 (.int 1)))
    cases h
    exact mj_pret hC rfl hR
  · rw [if_neg c1] at h
    refine mj_gcp hC 6 ?_
    show P (mj_pick 35 19 ((Int32.ofNat 64) ≤ (mj_I (m 38 2))), [some (.ref 38), some (.long v1), none], [], (110, x), m)
    refine mj_pbr (fun c2 => ?_) (fun c2 => ?_)
    · rw [if_pos c2] at h
      refine mj_gcp hC 3 ?_
      show P (40, [some (.ref 38), some (.long v1), none], [], (110, x), (mj_up m 38 3 (.int 1)))
      cases h
      exact mj_pret hC rfl hR
    · rw [if_neg c2] at h
      refine mj_gcp hC 4 ?_
      show P (mj_pick 35 27 (0 < (lg_cmp v1 1000000000000)), [some (.ref 38), some (.long v1), none], [], (110, x), m)
      refine mj_pbr (fun c3 => ?_) (fun c3 => ?_)
      · rw [if_pos c3] at h
        refine mj_gcp hC 3 ?_
        show P (40, [some (.ref 38), some (.long v1), none], [], (110, x), (mj_up m 38 3 (.int 1)))
        cases h
        exact mj_pret hC rfl hR
      · rw [if_neg c3] at h
        refine mj_gcp hC 4 ?_
        show P (mj_pick 41 35 (0 ≤ (lg_cmp v1 (-1000000000000))), [some (.ref 38), some (.long v1), none], [], (110, x), m)
        refine mj_pbr (fun c4 => ?_) (fun c4 => ?_)
        · rw [if_pos c4] at h
          obtain ⟨k5, h⟩ := mj_ifn h
          refine mj_gcp hC 12 ?_
          show _ ∧ (P (61, [some (.ref 38), some (.long v1), none], [], (110, x), (mj_up (mj_up m 40 (mj_I (m 38 2)).toNatClampNeg (.long v1)) 38 2 (.int ((mj_I (m 38 2)) + 1)))))
          refine And.intro k5 (?_)
          cases h
          exact mj_pret hC rfl hR
        · rw [if_neg c4] at h
          refine mj_gcp hC 3 ?_
          show P (40, [some (.ref 38), some (.long v1), none], [], (110, x), (mj_up m 38 3 (.int 1)))
          cases h
          exact mj_pret hC rfl hR
set_option maxRecDepth 20000 in
theorem rk_push_x {Ls tp ip x d : Nat} {Z : mj_X} (hd : 1 ≤ d) {v1 : Int64} {m : mj_M} {r : mj_M} (h : rk_push v1 m = some r) : mj_Ex false (mj_sh Ls) (mj_rf tp ip) Z d 125 [.ref 38, .long v1] (110, x) m none (110, x) r := by
  exact mj_Ex_of (cd := mj_cd_125) (L := [some (.ref 38), some (.long v1), none]) (by omega) (by decide) rfl (Nat.le_of_ble_eq_true rfl) rfl (fun P hC => rk_push_p hC (by omega) h ⟨rfl, rfl, rfl⟩)
def rk_nameValue  (v1 : Int32) (m : mj_M) : Option Int64 :=
  (if v1 < 0 then some 0 else
  (if (Int32.ofNat 7) ≤ v1 then some 0 else
  (if v1 < 0 ∨ 7 ≤ (v1 : Int32).toNatClampNeg then none else
  some (mj_J (m 39 v1.toNatClampNeg)))))
set_option maxRecDepth 20000 in
theorem rk_nameValue_p {Ls tp ip x d : Nat} {Z : mj_X} {R : Option Value → mj_G → mj_M → Prop} {P : mj_K → Prop} (hC : mj_cls false (mj_sh Ls) (mj_rf tp ip) mj_dv mj_cd_126 (mj_Ex false (mj_sh Ls) (mj_rf tp ip) Z d) R P) (hd : 0 ≤ d) {v1 : Int32} {m : mj_M} {r : Int64} (h : rk_nameValue v1 m = some r) (hR : R (some (.long r)) (110, x) m) : P (0, [some (.ref 38), some (.int v1)], [], (110, x), m) := by
  unfold rk_nameValue at h
  refine mj_gcp hC 2 ?_
  show P (mj_pick 22 4 (v1 < 0), [some (.ref 38), some (.int v1)], [], (110, x), m)
  refine mj_pbr (fun c1 => ?_) (fun c1 => ?_)
  · rw [if_pos c1] at h
    refine mj_gcp hC 1 ?_
    show P (23, [some (.ref 38), some (.int v1)], [.long 0], (110, x), m)
    cases h
    exact mj_pret hC rfl hR
  · rw [if_neg c1] at h
    refine mj_gcp hC 5 ?_
    show P (mj_pick 22 13 ((Int32.ofNat 7) ≤ v1), [some (.ref 38), some (.int v1)], [], (110, x), m)
    refine mj_pbr (fun c2 => ?_) (fun c2 => ?_)
    · rw [if_pos c2] at h
      refine mj_gcp hC 1 ?_
      show P (23, [some (.ref 38), some (.int v1)], [.long 0], (110, x), m)
      cases h
      exact mj_pret hC rfl hR
    · rw [if_neg c2] at h
      obtain ⟨k3, h⟩ := mj_ifn h
      refine mj_gcp hC 5 ?_
      show _ ∧ (P (23, [some (.ref 38), some (.int v1)], [.long (mj_J (m 39 v1.toNatClampNeg))], (110, x), m))
      refine And.intro k3 (?_)
      cases h
      exact mj_pret hC rfl hR
set_option maxRecDepth 20000 in
theorem rk_nameValue_x {Ls tp ip x d : Nat} {Z : mj_X} (hd : 1 ≤ d) {v1 : Int32} {m : mj_M} {r : Int64} (h : rk_nameValue v1 m = some r) : mj_Ex false (mj_sh Ls) (mj_rf tp ip) Z d 126 [.ref 38, .int v1] (110, x) m (some (.long r)) (110, x) m := by
  exact mj_Ex_of (cd := mj_cd_126) (L := [some (.ref 38), some (.int v1)]) (by omega) (by decide) rfl (Nat.le_of_ble_eq_true rfl) rfl (fun P hC => rk_nameValue_p hC (by omega) h ⟨rfl, rfl, rfl⟩)
def rk_pop_j20    (m : mj_M) : Option (Int64 × mj_M) :=
  some (0, (mj_up m 38 3 (.int 1)))
def rk_pop   (m : mj_M) : Option (Int64 × mj_M) :=
  (if (mj_I (m 38 2)) < 1 then rk_pop_j20 m else
  (if (mj_I (m 38 2)) ≤ (Int32.ofNat 64) then (if ((mj_I (m 38 2)) - 1) < 0 ∨ 64 ≤ (((mj_I (m 38 2)) - 1) : Int32).toNatClampNeg then none else
  some ((mj_J (m 40 ((mj_I (m 38 2)) - 1).toNatClampNeg)), (mj_up m 38 2 (.int ((mj_I (m 38 2)) - 1))))) else
  rk_pop_j20 m))
set_option maxRecDepth 20000 in
theorem rk_pop_j20_x {Ls tp ip x d : Nat} {Z : mj_X} {R : Option Value → mj_G → mj_M → Prop} {P : mj_K → Prop} (hC : mj_cls false (mj_sh Ls) (mj_rf tp ip) mj_dv mj_cd_127 (mj_Ex false (mj_sh Ls) (mj_rf tp ip) Z d) R P) (hd : 0 ≤ d)   {m : mj_M} {r : (Int64 × mj_M)} (h : rk_pop_j20 m = some r) (hR : R (some (.long r.1)) (110, x) r.2) : P (20, [some (.ref 38)], [], (110, x), m) := by
  unfold rk_pop_j20 at h
  refine mj_gcp hC 4 ?_
  show P (26, [some (.ref 38)], [.long 0], (110, x), (mj_up m 38 3 (.int 1)))
  cases h
  exact mj_pret hC rfl hR
set_option maxRecDepth 20000 in
theorem rk_pop_p {Ls tp ip x d : Nat} {Z : mj_X} {R : Option Value → mj_G → mj_M → Prop} {P : mj_K → Prop} (hC : mj_cls false (mj_sh Ls) (mj_rf tp ip) mj_dv mj_cd_127 (mj_Ex false (mj_sh Ls) (mj_rf tp ip) Z d) R P) (hd : 0 ≤ d)  {m : mj_M} {r : (Int64 × mj_M)} (h : rk_pop m = some r) (hR : R (some (.long r.1)) (110, x) r.2) : P (0, [some (.ref 38)], [], (110, x), m) := by
  unfold rk_pop at h
  refine mj_gcp hC 4 ?_
  show P (mj_pick 20 8 ((mj_I (m 38 2)) < 1), [some (.ref 38)], [], (110, x), m)
  refine mj_pbr (fun c1 => ?_) (fun c1 => ?_)
  · rw [if_pos c1] at h
    exact mj_less hC (L0 := [some (.ref 38)]) (And.intro rfl trivial) (rk_pop_j20_x hC hd h hR)
  · rw [if_neg c1] at h
    refine mj_gcp hC 6 ?_
    show P (mj_pick 27 20 ((mj_I (m 38 2)) ≤ (Int32.ofNat 64)), [some (.ref 38)], [], (110, x), m)
    refine mj_pbr (fun c2 => ?_) (fun c2 => ?_)
    · rw [if_pos c2] at h
      obtain ⟨k3, h⟩ := mj_ifn h
      refine mj_gcp hC 11 ?_
      show _ ∧ (P (46, [some (.ref 38)], [.long (mj_J (m 40 ((mj_I (m 38 2)) - 1).toNatClampNeg))], (110, x), (mj_up m 38 2 (.int ((mj_I (m 38 2)) - 1)))))
      refine And.intro k3 (?_)
      cases h
      exact mj_pret hC rfl hR
    · rw [if_neg c2] at h
      exact mj_less hC (L0 := [some (.ref 38)]) (And.intro rfl trivial) (rk_pop_j20_x hC hd h hR)
set_option maxRecDepth 20000 in
theorem rk_pop_x {Ls tp ip x d : Nat} {Z : mj_X} (hd : 1 ≤ d)  {m : mj_M} {r : (Int64 × mj_M)} (h : rk_pop m = some r) : mj_Ex false (mj_sh Ls) (mj_rf tp ip) Z d 127 [.ref 38] (110, x) m (some (.long r.1)) (110, x) r.2 := by
  exact mj_Ex_of (cd := mj_cd_127) (L := [some (.ref 38)]) (by omega) (by decide) rfl (Nat.le_of_ble_eq_true rfl) rfl (fun P hC => rk_pop_p hC (by omega) h ⟨rfl, rfl, rfl⟩)
def rk_holds_j196  (v1 : Int64) (v3 : Int64)  (m : mj_M) : Int32 :=
  (if (lg_cmp v1 v3) ≤ 0 then 0 else
  1)
def rk_holds  (v0 : Int32) (v1 : Int64) (v3 : Int64) (m : mj_M) : Int32 :=
  (if v0 = 12 then (if (lg_cmp v1 0) = 0 then 0 else
  (if (lg_cmp v3 0) = 0 then 0 else
  1)) else
  (if v0 = 13 then (if (lg_cmp v1 0) = 0 then (if (lg_cmp v3 0) = 0 then 0 else
  1) else
  1) else
  (if v0 = 14 then rk_holds_j196 v1 v3 m else
  (if v0 = 15 then rk_holds_j196 v1 v3 m else
  (if v0 = 16 then rk_holds_j196 v1 v3 m else
  (if v0 = 17 then rk_holds_j196 v1 v3 m else
  (if v0 = 18 then rk_holds_j196 v1 v3 m else
  (if v0 = 19 then rk_holds_j196 v1 v3 m else
  (if v0 = 20 then rk_holds_j196 v1 v3 m else
  (if v0 = 21 then rk_holds_j196 v1 v3 m else
  (if v0 = 22 then rk_holds_j196 v1 v3 m else
  (if v0 = 23 then rk_holds_j196 v1 v3 m else
  (if v0 = 24 then rk_holds_j196 v1 v3 m else
  (if v0 = 25 then rk_holds_j196 v1 v3 m else
  (if v0 = 26 then rk_holds_j196 v1 v3 m else
  (if v0 = 27 then rk_holds_j196 v1 v3 m else
  (if v0 = 28 then (if 0 ≤ (lg_cmp v1 v3) then 0 else
  1) else
  (if v0 = 29 then (if 0 < (lg_cmp v1 v3) then 0 else
  1) else
  (if v0 = 30 then (if (lg_cmp v1 v3) = 0 then 1 else
  0) else
  (if v0 = 31 then (if (lg_cmp v1 v3) = 0 then 0 else
  1) else
  (if v0 = 32 then (if (lg_cmp v1 v3) < 0 then 0 else
  1) else
  rk_holds_j196 v1 v3 m)))))))))))))))))))))
set_option maxRecDepth 20000 in
theorem rk_holds_j196_x {Ls tp ip x d : Nat} {Z : mj_X} {R : Option Value → mj_G → mj_M → Prop} {P : mj_K → Prop} (hC : mj_cls false (mj_sh Ls) (mj_rf tp ip) mj_dv mj_cd_129 (mj_Ex false (mj_sh Ls) (mj_rf tp ip) Z d) R P) (hd : 0 ≤ d) {v1 : Int64} {v3 : Int64}  {m : mj_M} (hR : R (some (.int (rk_holds_j196 v1 v3 m))) (110, x) m) : P (196, [none, some (.long v1), none, some (.long v3), none], [], (110, x), m) := by
  unfold rk_holds_j196 at hR
  refine mj_gcp hC 4 ?_
  show P (mj_pick 206 202 ((lg_cmp v1 v3) ≤ 0), [none, some (.long v1), none, some (.long v3), none], [], (110, x), m)
  refine mj_pbr (fun c8 => ?_) (fun c8 => ?_)
  · rw [if_pos c8] at hR
    refine mj_gcp hC 1 ?_
    show P (207, [none, some (.long v1), none, some (.long v3), none], [.int 0], (110, x), m)
    exact mj_pret hC rfl hR
  · rw [if_neg c8] at hR
    refine mj_gcp hC 2 ?_
    show P (207, [none, some (.long v1), none, some (.long v3), none], [.int 1], (110, x), m)
    exact mj_pret hC rfl hR
set_option maxRecDepth 20000 in
theorem rk_holds_p {Ls tp ip x d : Nat} {Z : mj_X} {R : Option Value → mj_G → mj_M → Prop} {P : mj_K → Prop} (hC : mj_cls false (mj_sh Ls) (mj_rf tp ip) mj_dv mj_cd_129 (mj_Ex false (mj_sh Ls) (mj_rf tp ip) Z d) R P) (hd : 0 ≤ d) {v0 : Int32} {v1 : Int64} {v3 : Int64} {m : mj_M} (hR : R (some (.int (rk_holds v0 v1 v3 m))) (110, x) m) : P (0, [some (.int v0), some (.long v1), none, some (.long v3), none], [], (110, x), m) := by
  unfold rk_holds at hR
  refine mj_gcp hC 2 ?_
  show P ((mj_sw v0 [(12, 118), (13, 100), (14, 196), (15, 196), (16, 196), (17, 196), (18, 196), (19, 196), (20, 196), (21, 196), (22, 196), (23, 196), (24, 196), (25, 196), (26, 196), (27, 196), (28, 136), (29, 148), (30, 160), (31, 172), (32, 184)] 196), [some (.int v0), some (.long v1), none, some (.long v3), none], [], (110, x), m)
  refine mj_psw (fun c1 => ?_) (fun c1 => ?_)
  · rw [if_pos c1] at hR
    refine mj_gcp hC 4 ?_
    show P (mj_pick 134 124 ((lg_cmp v1 0) = 0), [some (.int v0), some (.long v1), none, some (.long v3), none], [], (110, x), m)
    refine mj_pbr (fun c2 => ?_) (fun c2 => ?_)
    · rw [if_pos c2] at hR
      refine mj_gcp hC 1 ?_
      show P (135, [some (.int v0), some (.long v1), none, some (.long v3), none], [.int 0], (110, x), m)
      exact mj_pret hC rfl hR
    · rw [if_neg c2] at hR
      refine mj_gcp hC 4 ?_
      show P (mj_pick 134 130 ((lg_cmp v3 0) = 0), [some (.int v0), some (.long v1), none, some (.long v3), none], [], (110, x), m)
      refine mj_pbr (fun c3 => ?_) (fun c3 => ?_)
      · rw [if_pos c3] at hR
        refine mj_gcp hC 1 ?_
        show P (135, [some (.int v0), some (.long v1), none, some (.long v3), none], [.int 0], (110, x), m)
        exact mj_pret hC rfl hR
      · rw [if_neg c3] at hR
        refine mj_gcp hC 2 ?_
        show P (135, [some (.int v0), some (.long v1), none, some (.long v3), none], [.int 1], (110, x), m)
        exact mj_pret hC rfl hR
  · rw [if_neg c1] at hR
    refine mj_psw (fun c4 => ?_) (fun c4 => ?_)
    · rw [if_pos c4] at hR
      refine mj_gcp hC 4 ?_
      show P (mj_pick 106 112 ((lg_cmp v1 0) = 0), [some (.int v0), some (.long v1), none, some (.long v3), none], [], (110, x), m)
      refine mj_pbr (fun c5 => ?_) (fun c5 => ?_)
      · rw [if_pos c5] at hR
        refine mj_gcp hC 4 ?_
        show P (mj_pick 116 112 ((lg_cmp v3 0) = 0), [some (.int v0), some (.long v1), none, some (.long v3), none], [], (110, x), m)
        refine mj_pbr (fun c6 => ?_) (fun c6 => ?_)
        · rw [if_pos c6] at hR
          refine mj_gcp hC 1 ?_
          show P (117, [some (.int v0), some (.long v1), none, some (.long v3), none], [.int 0], (110, x), m)
          exact mj_pret hC rfl hR
        · rw [if_neg c6] at hR
          refine mj_gcp hC 2 ?_
          show P (117, [some (.int v0), some (.long v1), none, some (.long v3), none], [.int 1], (110, x), m)
          exact mj_pret hC rfl hR
      · rw [if_neg c5] at hR
        refine mj_gcp hC 2 ?_
        show P (117, [some (.int v0), some (.long v1), none, some (.long v3), none], [.int 1], (110, x), m)
        exact mj_pret hC rfl hR
    · rw [if_neg c4] at hR
      refine mj_psw (fun c7 => ?_) (fun c7 => ?_)
      · rw [if_pos c7] at hR
        exact mj_less hC (L0 := [none, some (.long v1), none, some (.long v3), none]) (And.intro rfl (And.intro rfl trivial)) (rk_holds_j196_x hC hd hR)
      · rw [if_neg c7] at hR
        refine mj_psw (fun c9 => ?_) (fun c9 => ?_)
        · rw [if_pos c9] at hR
          exact mj_less hC (L0 := [none, some (.long v1), none, some (.long v3), none]) (And.intro rfl (And.intro rfl trivial)) (rk_holds_j196_x hC hd hR)
        · rw [if_neg c9] at hR
          refine mj_psw (fun c10 => ?_) (fun c10 => ?_)
          · rw [if_pos c10] at hR
            exact mj_less hC (L0 := [none, some (.long v1), none, some (.long v3), none]) (And.intro rfl (And.intro rfl trivial)) (rk_holds_j196_x hC hd hR)
          · rw [if_neg c10] at hR
            refine mj_psw (fun c11 => ?_) (fun c11 => ?_)
            · rw [if_pos c11] at hR
              exact mj_less hC (L0 := [none, some (.long v1), none, some (.long v3), none]) (And.intro rfl (And.intro rfl trivial)) (rk_holds_j196_x hC hd hR)
            · rw [if_neg c11] at hR
              refine mj_psw (fun c12 => ?_) (fun c12 => ?_)
              · rw [if_pos c12] at hR
                exact mj_less hC (L0 := [none, some (.long v1), none, some (.long v3), none]) (And.intro rfl (And.intro rfl trivial)) (rk_holds_j196_x hC hd hR)
              · rw [if_neg c12] at hR
                refine mj_psw (fun c13 => ?_) (fun c13 => ?_)
                · rw [if_pos c13] at hR
                  exact mj_less hC (L0 := [none, some (.long v1), none, some (.long v3), none]) (And.intro rfl (And.intro rfl trivial)) (rk_holds_j196_x hC hd hR)
                · rw [if_neg c13] at hR
                  refine mj_psw (fun c14 => ?_) (fun c14 => ?_)
                  · rw [if_pos c14] at hR
                    exact mj_less hC (L0 := [none, some (.long v1), none, some (.long v3), none]) (And.intro rfl (And.intro rfl trivial)) (rk_holds_j196_x hC hd hR)
                  · rw [if_neg c14] at hR
                    refine mj_psw (fun c15 => ?_) (fun c15 => ?_)
                    · rw [if_pos c15] at hR
                      exact mj_less hC (L0 := [none, some (.long v1), none, some (.long v3), none]) (And.intro rfl (And.intro rfl trivial)) (rk_holds_j196_x hC hd hR)
                    · rw [if_neg c15] at hR
                      refine mj_psw (fun c16 => ?_) (fun c16 => ?_)
                      · rw [if_pos c16] at hR
                        exact mj_less hC (L0 := [none, some (.long v1), none, some (.long v3), none]) (And.intro rfl (And.intro rfl trivial)) (rk_holds_j196_x hC hd hR)
                      · rw [if_neg c16] at hR
                        refine mj_psw (fun c17 => ?_) (fun c17 => ?_)
                        · rw [if_pos c17] at hR
                          exact mj_less hC (L0 := [none, some (.long v1), none, some (.long v3), none]) (And.intro rfl (And.intro rfl trivial)) (rk_holds_j196_x hC hd hR)
                        · rw [if_neg c17] at hR
                          refine mj_psw (fun c18 => ?_) (fun c18 => ?_)
                          · rw [if_pos c18] at hR
                            exact mj_less hC (L0 := [none, some (.long v1), none, some (.long v3), none]) (And.intro rfl (And.intro rfl trivial)) (rk_holds_j196_x hC hd hR)
                          · rw [if_neg c18] at hR
                            refine mj_psw (fun c19 => ?_) (fun c19 => ?_)
                            · rw [if_pos c19] at hR
                              exact mj_less hC (L0 := [none, some (.long v1), none, some (.long v3), none]) (And.intro rfl (And.intro rfl trivial)) (rk_holds_j196_x hC hd hR)
                            · rw [if_neg c19] at hR
                              refine mj_psw (fun c20 => ?_) (fun c20 => ?_)
                              · rw [if_pos c20] at hR
                                exact mj_less hC (L0 := [none, some (.long v1), none, some (.long v3), none]) (And.intro rfl (And.intro rfl trivial)) (rk_holds_j196_x hC hd hR)
                              · rw [if_neg c20] at hR
                                refine mj_psw (fun c21 => ?_) (fun c21 => ?_)
                                · rw [if_pos c21] at hR
                                  exact mj_less hC (L0 := [none, some (.long v1), none, some (.long v3), none]) (And.intro rfl (And.intro rfl trivial)) (rk_holds_j196_x hC hd hR)
                                · rw [if_neg c21] at hR
                                  refine mj_psw (fun c22 => ?_) (fun c22 => ?_)
                                  · rw [if_pos c22] at hR
                                    refine mj_gcp hC 4 ?_
                                    show P (mj_pick 146 142 (0 ≤ (lg_cmp v1 v3)), [some (.int v0), some (.long v1), none, some (.long v3), none], [], (110, x), m)
                                    refine mj_pbr (fun c23 => ?_) (fun c23 => ?_)
                                    · rw [if_pos c23] at hR
                                      refine mj_gcp hC 1 ?_
                                      show P (147, [some (.int v0), some (.long v1), none, some (.long v3), none], [.int 0], (110, x), m)
                                      exact mj_pret hC rfl hR
                                    · rw [if_neg c23] at hR
                                      refine mj_gcp hC 2 ?_
                                      show P (147, [some (.int v0), some (.long v1), none, some (.long v3), none], [.int 1], (110, x), m)
                                      exact mj_pret hC rfl hR
                                  · rw [if_neg c22] at hR
                                    refine mj_psw (fun c24 => ?_) (fun c24 => ?_)
                                    · rw [if_pos c24] at hR
                                      refine mj_gcp hC 4 ?_
                                      show P (mj_pick 158 154 (0 < (lg_cmp v1 v3)), [some (.int v0), some (.long v1), none, some (.long v3), none], [], (110, x), m)
                                      refine mj_pbr (fun c25 => ?_) (fun c25 => ?_)
                                      · rw [if_pos c25] at hR
                                        refine mj_gcp hC 1 ?_
                                        show P (159, [some (.int v0), some (.long v1), none, some (.long v3), none], [.int 0], (110, x), m)
                                        exact mj_pret hC rfl hR
                                      · rw [if_neg c25] at hR
                                        refine mj_gcp hC 2 ?_
                                        show P (159, [some (.int v0), some (.long v1), none, some (.long v3), none], [.int 1], (110, x), m)
                                        exact mj_pret hC rfl hR
                                    · rw [if_neg c24] at hR
                                      refine mj_psw (fun c26 => ?_) (fun c26 => ?_)
                                      · rw [if_pos c26] at hR
                                        refine mj_gcp hC 4 ?_
                                        show P (mj_pick 166 170 ((lg_cmp v1 v3) = 0), [some (.int v0), some (.long v1), none, some (.long v3), none], [], (110, x), m)
                                        refine mj_pbr (fun c27 => ?_) (fun c27 => ?_)
                                        · rw [if_pos c27] at hR
                                          refine mj_gcp hC 2 ?_
                                          show P (171, [some (.int v0), some (.long v1), none, some (.long v3), none], [.int 1], (110, x), m)
                                          exact mj_pret hC rfl hR
                                        · rw [if_neg c27] at hR
                                          refine mj_gcp hC 1 ?_
                                          show P (171, [some (.int v0), some (.long v1), none, some (.long v3), none], [.int 0], (110, x), m)
                                          exact mj_pret hC rfl hR
                                      · rw [if_neg c26] at hR
                                        refine mj_psw (fun c28 => ?_) (fun c28 => ?_)
                                        · rw [if_pos c28] at hR
                                          refine mj_gcp hC 4 ?_
                                          show P (mj_pick 182 178 ((lg_cmp v1 v3) = 0), [some (.int v0), some (.long v1), none, some (.long v3), none], [], (110, x), m)
                                          refine mj_pbr (fun c29 => ?_) (fun c29 => ?_)
                                          · rw [if_pos c29] at hR
                                            refine mj_gcp hC 1 ?_
                                            show P (183, [some (.int v0), some (.long v1), none, some (.long v3), none], [.int 0], (110, x), m)
                                            exact mj_pret hC rfl hR
                                          · rw [if_neg c29] at hR
                                            refine mj_gcp hC 2 ?_
                                            show P (183, [some (.int v0), some (.long v1), none, some (.long v3), none], [.int 1], (110, x), m)
                                            exact mj_pret hC rfl hR
                                        · rw [if_neg c28] at hR
                                          refine mj_psw (fun c30 => ?_) (fun c30 => ?_)
                                          · rw [if_pos c30] at hR
                                            refine mj_gcp hC 4 ?_
                                            show P (mj_pick 194 190 ((lg_cmp v1 v3) < 0), [some (.int v0), some (.long v1), none, some (.long v3), none], [], (110, x), m)
                                            refine mj_pbr (fun c31 => ?_) (fun c31 => ?_)
                                            · rw [if_pos c31] at hR
                                              refine mj_gcp hC 1 ?_
                                              show P (195, [some (.int v0), some (.long v1), none, some (.long v3), none], [.int 0], (110, x), m)
                                              exact mj_pret hC rfl hR
                                            · rw [if_neg c31] at hR
                                              refine mj_gcp hC 2 ?_
                                              show P (195, [some (.int v0), some (.long v1), none, some (.long v3), none], [.int 1], (110, x), m)
                                              exact mj_pret hC rfl hR
                                          · rw [if_neg c30] at hR
                                            show P (196, [some (.int v0), some (.long v1), none, some (.long v3), none], [], (110, x), m)
                                            exact mj_less hC (L0 := [none, some (.long v1), none, some (.long v3), none]) (And.intro rfl (And.intro rfl trivial)) (rk_holds_j196_x hC hd hR)
set_option maxRecDepth 20000 in
theorem rk_holds_x {Ls tp ip x d : Nat} {Z : mj_X} (hd : 1 ≤ d) {v0 : Int32} {v1 : Int64} {v3 : Int64} {m : mj_M}  : mj_Ex false (mj_sh Ls) (mj_rf tp ip) Z d 129 [.int v0, .long v1, .long v3] (110, x) m (some (.int (rk_holds v0 v1 v3 m))) (110, x) m := by
  exact mj_Ex_of (cd := mj_cd_129) (L := [some (.int v0), some (.long v1), none, some (.long v3), none]) (by omega) (by decide) rfl (Nat.le_of_ble_eq_true rfl) rfl (fun P hC => rk_holds_p hC (by omega) ⟨rfl, rfl, rfl⟩)
def sa_begin_l72 (q : Nat) (sp : Nat)  (s72 : (Int32 × mj_M)) : Option (Nat × (Int32 × mj_M)) :=
  (if (mj_I (s72.2 q 5)) ≤ s72.1 then some (1, (s72.1, s72.2)) else
  some (0, ((s72.1 + 1), (fx_put s72.2 (sp + 3) s72.1 (fx_at s72.2 (q + 7) s72.1)))))
def sa_begin (q : Nat) (sp : Nat)  (m : mj_M) : Option mj_M :=
  (mj_loop (sa_begin_l72 q sp) mj_F (0, (fx_fill (fx_fill (fx_fill (fx_fill (mj_up (mj_up (mj_up (mj_up (mj_up m sp 0 (.int 0)) sp 1 (.int (mj_I (m q 13)))) sp 2 (.int 0)) sp 3 (.int (mj_I (m q 15)))) sp 4 (.int (((1 : Int32) <<< ((mj_I (m q 0)) &&& 31)) - 1))) (sp + 1) 0) (sp + 2) 0) (sp + 3) 0) (sp + 4) (-1)))).bind fun q2 =>
  some (mj_up (mj_up q2.2.2 sp 9 (.int 0)) sp 10 (.int 0))
set_option maxRecDepth 20000 in
theorem sa_begin_l72_x {Ls tp ip x d : Nat} {Z : mj_X} {R : Option Value → mj_G → mj_M → Prop} {P : mj_K → Prop} (hC : mj_cls false (mj_sh Ls) (mj_rf tp ip) mj_dv mj_cd_131 (mj_Ex false (mj_sh Ls) (mj_rf tp ip) Z d) R P) (hd : 1 ≤ d) {q sp : Nat} (hq : q = 3 ∨ q = 17) (hsp : sp = 42 ∨ sp = 47 ∨ sp = 52)  (s72 : (Int32 × mj_M)) {t : Nat} {w : (Int32 × mj_M)} (h : sa_begin_l72 q sp s72 = some (t, w)) (h0 : t = 0 → P (72, [some (.ref sp), some (.ref q), some (.int w.1)], [], (110, x), w.2)) (h1 : t = 1 → P (102, [some (.ref sp), none, none], [], (110, x), w.2)) : P (72, [some (.ref sp), some (.ref q), some (.int s72.1)], [], (110, x), s72.2) := by
  unfold sa_begin_l72 at h
  rcases hq with rfl | rfl <;> rcases hsp with rfl | rfl | rfl
  all_goals
    refine mj_gcp hC 4 ?_
    show P (mj_pick 102 80 ((mj_I (s72.2 _ 5)) ≤ s72.1), [some (.ref _), some (.ref _), some (.int s72.1)], [], (110, x), s72.2)
    refine mj_pbr (fun c1 => ?_) (fun c1 => ?_)
    · rw [if_pos c1] at h
      cases h
      exact mj_less hC (L0 := [some (.ref _), none, none]) (And.intro rfl trivial) (h1 rfl)
    · rw [if_neg c1] at h
      refine mj_gcp hC 6 ?_
      show P (90, [some (.ref _), some (.ref _), some (.int s72.1)], [.int s72.1, .ref _, .int s72.1, .ref _], (110, x), s72.2)
      refine mj_pcall hC rfl (bp_at_x (Nat.le_trans (by decide) hd) (by decide)) ?_
      show P (93, [some (.ref _), some (.ref _), some (.int s72.1)], [.int (fx_at s72.2 _ s72.1), .int s72.1, .ref _], (110, x), s72.2)
      refine mj_pcall hC rfl (bp_put_x (Nat.le_trans (by decide) hd) (by decide)) ?_
      show P (96, [some (.ref _), some (.ref _), some (.int s72.1)], [], (110, x), (fx_put s72.2 _ s72.1 (fx_at s72.2 _ s72.1)))
      refine mj_gcp hC 2 ?_
      show P (72, [some (.ref _), some (.ref _), some (.int (s72.1 + 1))], [], (110, x), (fx_put s72.2 _ s72.1 (fx_at s72.2 _ s72.1)))
      cases h
      exact mj_less hC (L0 := [some (.ref _), some (.ref _), some (.int (s72.1 + 1))]) (And.intro rfl (And.intro rfl (And.intro rfl trivial))) (h0 rfl)
set_option maxRecDepth 20000 in
theorem sa_begin_p {Ls tp ip x d : Nat} {Z : mj_X} {R : Option Value → mj_G → mj_M → Prop} {P : mj_K → Prop} (hC : mj_cls false (mj_sh Ls) (mj_rf tp ip) mj_dv mj_cd_131 (mj_Ex false (mj_sh Ls) (mj_rf tp ip) Z d) R P) (hd : 1 ≤ d) {q sp : Nat} (hq : q = 3 ∨ q = 17) (hsp : sp = 42 ∨ sp = 47 ∨ sp = 52)  {m : mj_M} {r : mj_M} (h : sa_begin q sp m = some r) (hR : R none (110, x) r) : P (0, [some (.ref sp), some (.ref q), none], [], (110, x), m) := by
  unfold sa_begin at h
  rcases hq with rfl | rfl <;> rcases hsp with rfl | rfl | rfl
  all_goals
    refine mj_gcp hC 25 ?_
    show P (43, [some (.ref _), some (.ref _), none], [.int 0, .ref _], (110, x), (mj_up (mj_up (mj_up (mj_up (mj_up m _ 0 (.int 0)) _ 1 (.int (mj_I (m _ 13)))) _ 2 (.int 0)) _ 3 (.int (mj_I (m _ 15)))) _ 4 (.int (((1 : Int32) <<< ((mj_I (m _ 0)) &&& 31)) - 1))))
    refine mj_pcall hC rfl (bp_fill_x (Nat.le_trans (by decide) hd) (by decide)) ?_
    show P (46, [some (.ref _), some (.ref _), none], [], (110, x), (fx_fill (mj_up (mj_up (mj_up (mj_up (mj_up m _ 0 (.int 0)) _ 1 (.int (mj_I (m _ 13)))) _ 2 (.int 0)) _ 3 (.int (mj_I (m _ 15)))) _ 4 (.int (((1 : Int32) <<< ((mj_I (m _ 0)) &&& 31)) - 1))) _ 0))
    refine mj_gcp hC 3 ?_
    show P (51, [some (.ref _), some (.ref _), none], [.int 0, .ref _], (110, x), (fx_fill (mj_up (mj_up (mj_up (mj_up (mj_up m _ 0 (.int 0)) _ 1 (.int (mj_I (m _ 13)))) _ 2 (.int 0)) _ 3 (.int (mj_I (m _ 15)))) _ 4 (.int (((1 : Int32) <<< ((mj_I (m _ 0)) &&& 31)) - 1))) _ 0))
    refine mj_pcall hC rfl (bp_fill_x (Nat.le_trans (by decide) hd) (by decide)) ?_
    show P (54, [some (.ref _), some (.ref _), none], [], (110, x), (fx_fill (fx_fill (mj_up (mj_up (mj_up (mj_up (mj_up m _ 0 (.int 0)) _ 1 (.int (mj_I (m _ 13)))) _ 2 (.int 0)) _ 3 (.int (mj_I (m _ 15)))) _ 4 (.int (((1 : Int32) <<< ((mj_I (m _ 0)) &&& 31)) - 1))) _ 0) _ 0))
    refine mj_gcp hC 3 ?_
    show P (59, [some (.ref _), some (.ref _), none], [.int 0, .ref _], (110, x), (fx_fill (fx_fill (mj_up (mj_up (mj_up (mj_up (mj_up m _ 0 (.int 0)) _ 1 (.int (mj_I (m _ 13)))) _ 2 (.int 0)) _ 3 (.int (mj_I (m _ 15)))) _ 4 (.int (((1 : Int32) <<< ((mj_I (m _ 0)) &&& 31)) - 1))) _ 0) _ 0))
    refine mj_pcall hC rfl (bp_fill_x (Nat.le_trans (by decide) hd) (by decide)) ?_
    show P (62, [some (.ref _), some (.ref _), none], [], (110, x), (fx_fill (fx_fill (fx_fill (mj_up (mj_up (mj_up (mj_up (mj_up m _ 0 (.int 0)) _ 1 (.int (mj_I (m _ 13)))) _ 2 (.int 0)) _ 3 (.int (mj_I (m _ 15)))) _ 4 (.int (((1 : Int32) <<< ((mj_I (m _ 0)) &&& 31)) - 1))) _ 0) _ 0) _ 0))
    refine mj_gcp hC 3 ?_
    show P (67, [some (.ref _), some (.ref _), none], [.int (-1), .ref _], (110, x), (fx_fill (fx_fill (fx_fill (mj_up (mj_up (mj_up (mj_up (mj_up m _ 0 (.int 0)) _ 1 (.int (mj_I (m _ 13)))) _ 2 (.int 0)) _ 3 (.int (mj_I (m _ 15)))) _ 4 (.int (((1 : Int32) <<< ((mj_I (m _ 0)) &&& 31)) - 1))) _ 0) _ 0) _ 0))
    refine mj_pcall hC rfl (bp_fill_x (Nat.le_trans (by decide) hd) (by decide)) ?_
    show P (70, [some (.ref _), some (.ref _), none], [], (110, x), (fx_fill (fx_fill (fx_fill (fx_fill (mj_up (mj_up (mj_up (mj_up (mj_up m _ 0 (.int 0)) _ 1 (.int (mj_I (m _ 13)))) _ 2 (.int 0)) _ 3 (.int (mj_I (m _ 15)))) _ 4 (.int (((1 : Int32) <<< ((mj_I (m _ 0)) &&& 31)) - 1))) _ 0) _ 0) _ 0) _ (-1)))
    refine mj_gcp hC 2 ?_
    show P (72, [some (.ref _), some (.ref _), some (.int 0)], [], (110, x), (fx_fill (fx_fill (fx_fill (fx_fill (mj_up (mj_up (mj_up (mj_up (mj_up m _ 0 (.int 0)) _ 1 (.int (mj_I (m _ 13)))) _ 2 (.int 0)) _ 3 (.int (mj_I (m _ 15)))) _ 4 (.int (((1 : Int32) <<< ((mj_I (m _ 0)) &&& 31)) - 1))) _ 0) _ 0) _ 0) _ (-1)))
    obtain ⟨q2, eq2, h⟩ := mj_bnd h
    refine mj_less hC (L0 := [some (.ref _), some (.ref _), some (.int 0)]) (And.intro rfl (And.intro rfl (And.intro rfl trivial))) ?_
    refine mj_loop_P (A := fun z72 => P (72, [some (.ref _), some (.ref _), some (.int z72.1)], [], (110, x), z72.2)) (E := fun _ z72 => P (102, [some (.ref _), none, none], [], (110, x), z72.2)) (fun zz t w hb h0 h1 => sa_begin_l72_x hC hd (by decide) (by decide) zz hb h0 (fun ht => h1 0 ht)) mj_F _ q2 eq2 ?_
    refine mj_gcp hC 6 ?_
    show P (112, [some (.ref _), none, none], [], (110, x), (mj_up (mj_up q2.2.2 _ 9 (.int 0)) _ 10 (.int 0)))
    cases h
    exact mj_pret hC rfl hR
set_option maxRecDepth 20000 in
theorem sa_begin_x {Ls tp ip x d : Nat} {Z : mj_X} (hd : 2 ≤ d) {q sp : Nat} (hq : q = 3 ∨ q = 17) (hsp : sp = 42 ∨ sp = 47 ∨ sp = 52)  {m : mj_M} {r : mj_M} (h : sa_begin q sp m = some r) : mj_Ex false (mj_sh Ls) (mj_rf tp ip) Z d 131 [.ref sp, .ref q] (110, x) m none (110, x) r := by
  exact mj_Ex_of (cd := mj_cd_131) (L := [some (.ref sp), some (.ref q), none]) (by omega) (by decide) rfl (Nat.le_of_ble_eq_true rfl) rfl (fun P hC => sa_begin_p hC (by omega) hq hsp h ⟨rfl, rfl, rfl⟩)
def sa_copy (sp : Nat) (sp2 : Nat)  (m : mj_M) : Option mj_M :=
  some (mj_up (mj_up (fx_copy (fx_copy (fx_copy (fx_copy (mj_up (mj_up (mj_up (mj_up (mj_up m sp 0 (.int (mj_I (m sp2 0)))) sp 1 (.int (mj_I (m sp2 1)))) sp 2 (.int (mj_I (m sp2 2)))) sp 3 (.int (mj_I (m sp2 3)))) sp 4 (.int (mj_I (m sp2 4)))) (sp2 + 1) (sp + 1)) (sp2 + 2) (sp + 2)) (sp2 + 3) (sp + 3)) (sp2 + 4) (sp + 4)) sp 9 (.int (mj_I (m sp2 9)))) sp 10 (.int (mj_I (m sp2 10))))
set_option maxRecDepth 20000 in
theorem sa_copy_p {Ls tp ip x d : Nat} {Z : mj_X} {R : Option Value → mj_G → mj_M → Prop} {P : mj_K → Prop} (hC : mj_cls false (mj_sh Ls) (mj_rf tp ip) mj_dv mj_cd_132 (mj_Ex false (mj_sh Ls) (mj_rf tp ip) Z d) R P) (hd : 1 ≤ d) {sp sp2 : Nat} (hsp : sp = 47 ∧ sp2 = 42 ∨ sp = 52 ∧ sp2 = 42 ∨ sp = 42 ∧ sp2 = 52)  {m : mj_M} {r : mj_M} (h : sa_copy sp sp2 m = some r) (hR : R none (110, x) r) : P (0, [some (.ref sp), some (.ref sp2)], [], (110, x), m) := by
  unfold sa_copy at h
  rcases hsp with ⟨rfl, rfl⟩ | ⟨rfl, rfl⟩ | ⟨rfl, rfl⟩
  all_goals
    refine mj_gcp hC 24 ?_
    show P (48, [some (.ref _), some (.ref _)], [.ref _, .ref _], (110, x), (mj_up (mj_up (mj_up (mj_up (mj_up m _ 0 (.int (mj_I (m _ 0)))) _ 1 (.int (mj_I (m _ 1)))) _ 2 (.int (mj_I (m _ 2)))) _ 3 (.int (mj_I (m _ 3)))) _ 4 (.int (mj_I (m _ 4)))))
    refine mj_pcall hC rfl (bp_copyRow_x (Nat.le_trans (by decide) hd) (by decide) (by decide)) ?_
    show P (51, [some (.ref _), some (.ref _)], [], (110, x), (fx_copy (mj_up (mj_up (mj_up (mj_up (mj_up m _ 0 (.int (mj_I (m _ 0)))) _ 1 (.int (mj_I (m _ 1)))) _ 2 (.int (mj_I (m _ 2)))) _ 3 (.int (mj_I (m _ 3)))) _ 4 (.int (mj_I (m _ 4)))) _ _))
    refine mj_gcp hC 4 ?_
    show P (59, [some (.ref _), some (.ref _)], [.ref _, .ref _], (110, x), (fx_copy (mj_up (mj_up (mj_up (mj_up (mj_up m _ 0 (.int (mj_I (m _ 0)))) _ 1 (.int (mj_I (m _ 1)))) _ 2 (.int (mj_I (m _ 2)))) _ 3 (.int (mj_I (m _ 3)))) _ 4 (.int (mj_I (m _ 4)))) _ _))
    refine mj_pcall hC rfl (bp_copyRow_x (Nat.le_trans (by decide) hd) (by decide) (by decide)) ?_
    show P (62, [some (.ref _), some (.ref _)], [], (110, x), (fx_copy (fx_copy (mj_up (mj_up (mj_up (mj_up (mj_up m _ 0 (.int (mj_I (m _ 0)))) _ 1 (.int (mj_I (m _ 1)))) _ 2 (.int (mj_I (m _ 2)))) _ 3 (.int (mj_I (m _ 3)))) _ 4 (.int (mj_I (m _ 4)))) _ _) _ _))
    refine mj_gcp hC 4 ?_
    show P (70, [some (.ref _), some (.ref _)], [.ref _, .ref _], (110, x), (fx_copy (fx_copy (mj_up (mj_up (mj_up (mj_up (mj_up m _ 0 (.int (mj_I (m _ 0)))) _ 1 (.int (mj_I (m _ 1)))) _ 2 (.int (mj_I (m _ 2)))) _ 3 (.int (mj_I (m _ 3)))) _ 4 (.int (mj_I (m _ 4)))) _ _) _ _))
    refine mj_pcall hC rfl (bp_copyRow_x (Nat.le_trans (by decide) hd) (by decide) (by decide)) ?_
    show P (73, [some (.ref _), some (.ref _)], [], (110, x), (fx_copy (fx_copy (fx_copy (mj_up (mj_up (mj_up (mj_up (mj_up m _ 0 (.int (mj_I (m _ 0)))) _ 1 (.int (mj_I (m _ 1)))) _ 2 (.int (mj_I (m _ 2)))) _ 3 (.int (mj_I (m _ 3)))) _ 4 (.int (mj_I (m _ 4)))) _ _) _ _) _ _))
    refine mj_gcp hC 4 ?_
    show P (81, [some (.ref _), some (.ref _)], [.ref _, .ref _], (110, x), (fx_copy (fx_copy (fx_copy (mj_up (mj_up (mj_up (mj_up (mj_up m _ 0 (.int (mj_I (m _ 0)))) _ 1 (.int (mj_I (m _ 1)))) _ 2 (.int (mj_I (m _ 2)))) _ 3 (.int (mj_I (m _ 3)))) _ 4 (.int (mj_I (m _ 4)))) _ _) _ _) _ _))
    refine mj_pcall hC rfl (bp_copyRow_x (Nat.le_trans (by decide) hd) (by decide) (by decide)) ?_
    show P (84, [some (.ref _), some (.ref _)], [], (110, x), (fx_copy (fx_copy (fx_copy (fx_copy (mj_up (mj_up (mj_up (mj_up (mj_up m _ 0 (.int (mj_I (m _ 0)))) _ 1 (.int (mj_I (m _ 1)))) _ 2 (.int (mj_I (m _ 2)))) _ 3 (.int (mj_I (m _ 3)))) _ 4 (.int (mj_I (m _ 4)))) _ _) _ _) _ _) _ _))
    refine mj_gcp hC 8 ?_
    show P (100, [some (.ref _), some (.ref _)], [], (110, x), (mj_up (mj_up (fx_copy (fx_copy (fx_copy (fx_copy (mj_up (mj_up (mj_up (mj_up (mj_up m _ 0 (.int (mj_I (m _ 0)))) _ 1 (.int (mj_I (m _ 1)))) _ 2 (.int (mj_I (m _ 2)))) _ 3 (.int (mj_I (m _ 3)))) _ 4 (.int (mj_I (m _ 4)))) _ _) _ _) _ _) _ _) _ 9 (.int (mj_I (m _ 9)))) _ 10 (.int (mj_I (m _ 10)))))
    cases h
    exact mj_pret hC rfl hR
set_option maxRecDepth 20000 in
theorem sa_copy_x {Ls tp ip x d : Nat} {Z : mj_X} (hd : 2 ≤ d) {sp sp2 : Nat} (hsp : sp = 47 ∧ sp2 = 42 ∨ sp = 52 ∧ sp2 = 42 ∨ sp = 42 ∧ sp2 = 52)  {m : mj_M} {r : mj_M} (h : sa_copy sp sp2 m = some r) : mj_Ex false (mj_sh Ls) (mj_rf tp ip) Z d 132 [.ref sp, .ref sp2] (110, x) m none (110, x) r := by
  exact mj_Ex_of (cd := mj_cd_132) (L := [some (.ref sp), some (.ref sp2)]) (by omega) (by decide) rfl (Nat.le_of_ble_eq_true rfl) rfl (fun P hC => sa_copy_p hC (by omega) hsp h ⟨rfl, rfl, rfl⟩)
def sa_isDone (sp : Nat) (v1 : Int32) (m : mj_M) : Int32 :=
  (if (fx_at m (sp + 3) v1) = 0 then 1 else
  0)
set_option maxRecDepth 20000 in
theorem sa_isDone_p {Ls tp ip x d : Nat} {Z : mj_X} {R : Option Value → mj_G → mj_M → Prop} {P : mj_K → Prop} (hC : mj_cls false (mj_sh Ls) (mj_rf tp ip) mj_dv mj_cd_133 (mj_Ex false (mj_sh Ls) (mj_rf tp ip) Z d) R P) (hd : 1 ≤ d) {sp : Nat} (hsp : sp = 42 ∨ sp = 47 ∨ sp = 52) {v1 : Int32} {m : mj_M} (hR : R (some (.int (sa_isDone sp v1 m))) (110, x) m) : P (0, [some (.ref sp), some (.int v1)], [], (110, x), m) := by
  unfold sa_isDone at hR
  rcases hsp with rfl | rfl | rfl
  all_goals
    refine mj_gcp hC 3 ?_
    show P (5, [some (.ref _), some (.int v1)], [.int v1, .ref _], (110, x), m)
    refine mj_pcall hC rfl (bp_at_x (Nat.le_trans (by decide) hd) (by decide)) ?_
    show P (8, [some (.ref _), some (.int v1)], [.int (fx_at m _ v1)], (110, x), m)
    refine mj_gcp hC 1 ?_
    show P (mj_pick 11 15 ((fx_at m _ v1) = 0), [some (.ref _), some (.int v1)], [], (110, x), m)
    refine mj_pbr (fun c1 => ?_) (fun c1 => ?_)
    · rw [if_pos c1] at hR
      refine mj_gcp hC 2 ?_
      show P (16, [some (.ref _), some (.int v1)], [.int 1], (110, x), m)
      exact mj_pret hC rfl hR
    · rw [if_neg c1] at hR
      refine mj_gcp hC 1 ?_
      show P (16, [some (.ref _), some (.int v1)], [.int 0], (110, x), m)
      exact mj_pret hC rfl hR
set_option maxRecDepth 20000 in
theorem sa_isDone_x {Ls tp ip x d : Nat} {Z : mj_X} (hd : 2 ≤ d) {sp : Nat} (hsp : sp = 42 ∨ sp = 47 ∨ sp = 52) {v1 : Int32} {m : mj_M}  : mj_Ex false (mj_sh Ls) (mj_rf tp ip) Z d 133 [.ref sp, .int v1] (110, x) m (some (.int (sa_isDone sp v1 m))) (110, x) m := by
  exact mj_Ex_of (cd := mj_cd_133) (L := [some (.ref sp), some (.int v1)]) (by omega) (by decide) rfl (Nat.le_of_ble_eq_true rfl) rfl (fun P hC => sa_isDone_p hC (by omega) hsp ⟨rfl, rfl, rfl⟩)
def sa_isFree (sp : Nat) (v1 : Int32) (m : mj_M) : Int32 :=
  (if (bp_has (mj_I (m sp 4)) v1 m) = 0 then 0 else
  (if (fx_at m (sp + 2) v1) = 0 then 1 else
  0))
set_option maxRecDepth 20000 in
theorem sa_isFree_p {Ls tp ip x d : Nat} {Z : mj_X} {R : Option Value → mj_G → mj_M → Prop} {P : mj_K → Prop} (hC : mj_cls false (mj_sh Ls) (mj_rf tp ip) mj_dv mj_cd_134 (mj_Ex false (mj_sh Ls) (mj_rf tp ip) Z d) R P) (hd : 1 ≤ d) {sp : Nat} (hsp : sp = 42 ∨ sp = 47 ∨ sp = 52) {v1 : Int32} {m : mj_M} (hR : R (some (.int (sa_isFree sp v1 m))) (110, x) m) : P (0, [some (.ref sp), some (.int v1)], [], (110, x), m) := by
  unfold sa_isFree at hR
  rcases hsp with rfl | rfl | rfl
  all_goals
    refine mj_gcp hC 3 ?_
    show P (5, [some (.ref _), some (.int v1)], [.int v1, .int (mj_I (m _ 4))], (110, x), m)
    refine mj_pcall hC rfl (bp_has_x (Nat.le_trans (by decide) hd)) ?_
    show P (8, [some (.ref _), some (.int v1)], [.int (bp_has (mj_I (m _ 4)) v1 m)], (110, x), m)
    refine mj_gcp hC 1 ?_
    show P (mj_pick 26 11 ((bp_has (mj_I (m _ 4)) v1 m) = 0), [some (.ref _), some (.int v1)], [], (110, x), m)
    refine mj_pbr (fun c1 => ?_) (fun c1 => ?_)
    · rw [if_pos c1] at hR
      refine mj_gcp hC 1 ?_
      show P (27, [some (.ref _), some (.int v1)], [.int 0], (110, x), m)
      exact mj_pret hC rfl hR
    · rw [if_neg c1] at hR
      refine mj_gcp hC 3 ?_
      show P (16, [some (.ref _), some (.int v1)], [.int v1, .ref _], (110, x), m)
      refine mj_pcall hC rfl (bp_at_x (Nat.le_trans (by decide) hd) (by decide)) ?_
      show P (19, [some (.ref _), some (.int v1)], [.int (fx_at m _ v1)], (110, x), m)
      refine mj_gcp hC 1 ?_
      show P (mj_pick 22 26 ((fx_at m _ v1) = 0), [some (.ref _), some (.int v1)], [], (110, x), m)
      refine mj_pbr (fun c2 => ?_) (fun c2 => ?_)
      · rw [if_pos c2] at hR
        refine mj_gcp hC 2 ?_
        show P (27, [some (.ref _), some (.int v1)], [.int 1], (110, x), m)
        exact mj_pret hC rfl hR
      · rw [if_neg c2] at hR
        refine mj_gcp hC 1 ?_
        show P (27, [some (.ref _), some (.int v1)], [.int 0], (110, x), m)
        exact mj_pret hC rfl hR
set_option maxRecDepth 20000 in
theorem sa_isFree_x {Ls tp ip x d : Nat} {Z : mj_X} (hd : 2 ≤ d) {sp : Nat} (hsp : sp = 42 ∨ sp = 47 ∨ sp = 52) {v1 : Int32} {m : mj_M}  : mj_Ex false (mj_sh Ls) (mj_rf tp ip) Z d 134 [.ref sp, .int v1] (110, x) m (some (.int (sa_isFree sp v1 m))) (110, x) m := by
  exact mj_Ex_of (cd := mj_cd_134) (L := [some (.ref sp), some (.int v1)]) (by omega) (by decide) rfl (Nat.le_of_ble_eq_true rfl) rfl (fun P hC => sa_isFree_p hC (by omega) hsp ⟨rfl, rfl, rfl⟩)
def sa_sendAway (sp : Nat) (v1 : Int32) (m : mj_M) : Option mj_M :=
  some (fx_put (mj_up m sp 4 (.int ((mj_I (m sp 4)) &&& (((1 : Int32) <<< (v1 &&& 31)) ^^^ (-1))))) (sp + 2) v1 0)
set_option maxRecDepth 20000 in
theorem sa_sendAway_p {Ls tp ip x d : Nat} {Z : mj_X} {R : Option Value → mj_G → mj_M → Prop} {P : mj_K → Prop} (hC : mj_cls false (mj_sh Ls) (mj_rf tp ip) mj_dv mj_cd_135 (mj_Ex false (mj_sh Ls) (mj_rf tp ip) Z d) R P) (hd : 1 ≤ d) {sp : Nat} (hsp : sp = 42 ∨ sp = 47 ∨ sp = 52) {v1 : Int32} {m : mj_M} {r : mj_M} (h : sa_sendAway sp v1 m = some r) (hR : R none (110, x) r) : P (0, [some (.ref sp), some (.int v1)], [], (110, x), m) := by
  unfold sa_sendAway at h
  rcases hsp with rfl | rfl | rfl
  all_goals
    refine mj_gcp hC 14 ?_
    show P (20, [some (.ref _), some (.int v1)], [.int 0, .int v1, .ref _], (110, x), (mj_up m _ 4 (.int ((mj_I (m _ 4)) &&& (((1 : Int32) <<< (v1 &&& 31)) ^^^ (-1))))))
    refine mj_pcall hC rfl (bp_put_x (Nat.le_trans (by decide) hd) (by decide)) ?_
    show P (23, [some (.ref _), some (.int v1)], [], (110, x), (fx_put (mj_up m _ 4 (.int ((mj_I (m _ 4)) &&& (((1 : Int32) <<< (v1 &&& 31)) ^^^ (-1))))) _ v1 0))
    cases h
    exact mj_pret hC rfl hR
set_option maxRecDepth 20000 in
theorem sa_sendAway_x {Ls tp ip x d : Nat} {Z : mj_X} (hd : 2 ≤ d) {sp : Nat} (hsp : sp = 42 ∨ sp = 47 ∨ sp = 52) {v1 : Int32} {m : mj_M} {r : mj_M} (h : sa_sendAway sp v1 m = some r) : mj_Ex false (mj_sh Ls) (mj_rf tp ip) Z d 135 [.ref sp, .int v1] (110, x) m none (110, x) r := by
  exact mj_Ex_of (cd := mj_cd_135) (L := [some (.ref sp), some (.int v1)]) (by omega) (by decide) rfl (Nat.le_of_ble_eq_true rfl) rfl (fun P hC => sa_sendAway_p hC (by omega) hsp h ⟨rfl, rfl, rfl⟩)
def sa_doneBits_j23l4 (sp : Nat)  (v1 : Int32) (v2 : Int32) (v3 : Int32)  (m : mj_M) : Option (Nat × (Int32 × Int32)) :=
  some (0, (v2, (v3 + 1)))
def sa_doneBits_l4 (sp : Nat) (v1 : Int32) (m : mj_M) (s4 : (Int32 × Int32)) : Option (Nat × (Int32 × Int32)) :=
  (if v1 ≤ s4.2 then some (1, (s4.1, s4.2)) else
  (if (sa_isDone sp s4.2 m) = 0 then sa_doneBits_j23l4 sp v1 s4.1 s4.2 m else
  sa_doneBits_j23l4 sp v1 (s4.1 ||| ((1 : Int32) <<< (s4.2 &&& 31))) s4.2 m))
def sa_doneBits (sp : Nat) (v1 : Int32) (m : mj_M) : Option Int32 :=
  (mj_loop (sa_doneBits_l4 sp v1 m) mj_F (0, 0)).bind fun q3 =>
  some q3.2.1
set_option maxRecDepth 20000 in
theorem sa_doneBits_j23l4_x {Ls tp ip x d : Nat} {Z : mj_X} {R : Option Value → mj_G → mj_M → Prop} {P : mj_K → Prop} (hC : mj_cls false (mj_sh Ls) (mj_rf tp ip) mj_dv mj_cd_136 (mj_Ex false (mj_sh Ls) (mj_rf tp ip) Z d) R P) (hd : 2 ≤ d) {sp : Nat} (hsp : sp = 42 ∨ sp = 47 ∨ sp = 52)  {v1 : Int32} {v2 : Int32} {v3 : Int32}  {m : mj_M} {t : Nat} {w : (Int32 × Int32)} (h : sa_doneBits_j23l4 sp  v1 v2 v3 m = some (t, w)) (h0 : t = 0 → P (4, [some (.ref sp), some (.int v1), some (.int w.1), some (.int w.2)], [], (110, x), m)) (h1 : t = 1 → P (29, [none, none, some (.int w.1), none], [], (110, x), m)) : P (23, [some (.ref sp), some (.int v1), some (.int v2), some (.int v3)], [], (110, x), m) := by
  unfold sa_doneBits_j23l4 at h
  rcases hsp with rfl | rfl | rfl
  all_goals
    refine mj_gcp hC 2 ?_
    show P (4, [some (.ref _), some (.int v1), some (.int v2), some (.int (v3 + 1))], [], (110, x), m)
    cases h
    exact mj_less hC (L0 := [some (.ref _), some (.int v1), some (.int v2), some (.int (v3 + 1))]) (And.intro rfl (And.intro rfl (And.intro rfl (And.intro rfl trivial)))) (h0 rfl)
set_option maxRecDepth 20000 in
theorem sa_doneBits_l4_x {Ls tp ip x d : Nat} {Z : mj_X} {R : Option Value → mj_G → mj_M → Prop} {P : mj_K → Prop} (hC : mj_cls false (mj_sh Ls) (mj_rf tp ip) mj_dv mj_cd_136 (mj_Ex false (mj_sh Ls) (mj_rf tp ip) Z d) R P) (hd : 2 ≤ d) {sp : Nat} (hsp : sp = 42 ∨ sp = 47 ∨ sp = 52) {v1 : Int32} {m : mj_M} (s4 : (Int32 × Int32)) {t : Nat} {w : (Int32 × Int32)} (h : sa_doneBits_l4 sp v1 m s4 = some (t, w)) (h0 : t = 0 → P (4, [some (.ref sp), some (.int v1), some (.int w.1), some (.int w.2)], [], (110, x), m)) (h1 : t = 1 → P (29, [none, none, some (.int w.1), none], [], (110, x), m)) : P (4, [some (.ref sp), some (.int v1), some (.int s4.1), some (.int s4.2)], [], (110, x), m) := by
  unfold sa_doneBits_l4 at h
  rcases hsp with rfl | rfl | rfl
  all_goals
    refine mj_gcp hC 3 ?_
    show P (mj_pick 29 9 (v1 ≤ s4.2), [some (.ref _), some (.int v1), some (.int s4.1), some (.int s4.2)], [], (110, x), m)
    refine mj_pbr (fun c1 => ?_) (fun c1 => ?_)
    · rw [if_pos c1] at h
      cases h
      exact mj_less hC (L0 := [none, none, some (.int s4.1), none]) (And.intro rfl trivial) (h1 rfl)
    · rw [if_neg c1] at h
      refine mj_gcp hC 2 ?_
      show P (11, [some (.ref _), some (.int v1), some (.int s4.1), some (.int s4.2)], [.int s4.2, .ref _], (110, x), m)
      refine mj_pcall hC rfl (sa_isDone_x (Nat.le_trans (by decide) hd) (by decide)) ?_
      show P (14, [some (.ref _), some (.int v1), some (.int s4.1), some (.int s4.2)], [.int (sa_isDone _ s4.2 m)], (110, x), m)
      refine mj_gcp hC 1 ?_
      show P (mj_pick 23 17 ((sa_isDone _ s4.2 m) = 0), [some (.ref _), some (.int v1), some (.int s4.1), some (.int s4.2)], [], (110, x), m)
      refine mj_pbr (fun c2 => ?_) (fun c2 => ?_)
      · rw [if_pos c2] at h
        exact mj_less hC (L0 := [some (.ref _), some (.int v1), some (.int s4.1), some (.int s4.2)]) (And.intro rfl (And.intro rfl (And.intro rfl (And.intro rfl trivial)))) (sa_doneBits_j23l4_x hC hd (by decide) h h0 h1)
      · rw [if_neg c2] at h
        refine mj_gcp hC 6 ?_
        show P (23, [some (.ref _), some (.int v1), some (.int (s4.1 ||| ((1 : Int32) <<< (s4.2 &&& 31)))), some (.int s4.2)], [], (110, x), m)
        exact mj_less hC (L0 := [some (.ref _), some (.int v1), some (.int (s4.1 ||| ((1 : Int32) <<< (s4.2 &&& 31)))), some (.int s4.2)]) (And.intro rfl (And.intro rfl (And.intro rfl (And.intro rfl trivial)))) (sa_doneBits_j23l4_x hC hd (by decide) h h0 h1)
set_option maxRecDepth 20000 in
theorem sa_doneBits_p {Ls tp ip x d : Nat} {Z : mj_X} {R : Option Value → mj_G → mj_M → Prop} {P : mj_K → Prop} (hC : mj_cls false (mj_sh Ls) (mj_rf tp ip) mj_dv mj_cd_136 (mj_Ex false (mj_sh Ls) (mj_rf tp ip) Z d) R P) (hd : 2 ≤ d) {sp : Nat} (hsp : sp = 42 ∨ sp = 47 ∨ sp = 52) {v1 : Int32} {m : mj_M} {r : Int32} (h : sa_doneBits sp v1 m = some r) (hR : R (some (.int r)) (110, x) m) : P (0, [some (.ref sp), some (.int v1), none, none], [], (110, x), m) := by
  unfold sa_doneBits at h
  rcases hsp with rfl | rfl | rfl
  all_goals
    refine mj_gcp hC 4 ?_
    show P (4, [some (.ref _), some (.int v1), some (.int 0), some (.int 0)], [], (110, x), m)
    obtain ⟨q3, eq3, h⟩ := mj_bnd h
    refine mj_less hC (L0 := [some (.ref _), some (.int v1), some (.int 0), some (.int 0)]) (And.intro rfl (And.intro rfl (And.intro rfl (And.intro rfl trivial)))) ?_
    refine mj_loop_P (A := fun z4 => P (4, [some (.ref _), some (.int v1), some (.int z4.1), some (.int z4.2)], [], (110, x), m)) (E := fun _ z4 => P (29, [none, none, some (.int z4.1), none], [], (110, x), m)) (fun zz t w hb h0 h1 => sa_doneBits_l4_x hC hd (by decide) zz hb h0 (fun ht => h1 0 ht)) mj_F _ q3 eq3 ?_
    refine mj_gcp hC 1 ?_
    show P (30, [none, none, some (.int q3.2.1), none], [.int q3.2.1], (110, x), m)
    cases h
    exact mj_pret hC rfl hR
set_option maxRecDepth 20000 in
theorem sa_doneBits_x {Ls tp ip x d : Nat} {Z : mj_X} (hd : 3 ≤ d) {sp : Nat} (hsp : sp = 42 ∨ sp = 47 ∨ sp = 52) {v1 : Int32} {m : mj_M} {r : Int32} (h : sa_doneBits sp v1 m = some r) : mj_Ex false (mj_sh Ls) (mj_rf tp ip) Z d 136 [.ref sp, .int v1] (110, x) m (some (.int r)) (110, x) m := by
  exact mj_Ex_of (cd := mj_cd_136) (L := [some (.ref sp), some (.int v1), none, none]) (by omega) (by decide) rfl (Nat.le_of_ble_eq_true rfl) rfl (fun P hC => sa_doneBits_p hC (by omega) hsp h ⟨rfl, rfl, rfl⟩)
def sa_allSlips_l4 (sp : Nat)  (m : mj_M) (s4 : (Int32 × Int32)) : Option (Nat × (Int32 × Int32)) :=
  (if (Int32.ofNat 6) ≤ s4.2 then some (1, (s4.1, s4.2)) else
  (if s4.2 < 0 ∨ 6 ≤ (s4.2 : Int32).toNatClampNeg then none else
  some (0, ((s4.1 + (mj_I (m (sp + 1) s4.2.toNatClampNeg))), (s4.2 + 1)))))
def sa_allSlips (sp : Nat)  (m : mj_M) : Option Int32 :=
  (mj_loop (sa_allSlips_l4 sp m) mj_F (0, 0)).bind fun q3 =>
  some q3.2.1
set_option maxRecDepth 20000 in
theorem sa_allSlips_l4_x {Ls tp ip x d : Nat} {Z : mj_X} {R : Option Value → mj_G → mj_M → Prop} {P : mj_K → Prop} (hC : mj_cls false (mj_sh Ls) (mj_rf tp ip) mj_dv mj_cd_138 (mj_Ex false (mj_sh Ls) (mj_rf tp ip) Z d) R P) (hd : 0 ≤ d) {sp : Nat} (hsp : sp = 42 ∨ sp = 47 ∨ sp = 52)  {m : mj_M} (s4 : (Int32 × Int32)) {t : Nat} {w : (Int32 × Int32)} (h : sa_allSlips_l4 sp m s4 = some (t, w)) (h0 : t = 0 → P (4, [some (.ref sp), some (.int w.1), some (.int w.2)], [], (110, x), m)) (h1 : t = 1 → P (28, [none, some (.int w.1), none], [], (110, x), m)) : P (4, [some (.ref sp), some (.int s4.1), some (.int s4.2)], [], (110, x), m) := by
  unfold sa_allSlips_l4 at h
  rcases hsp with rfl | rfl | rfl
  all_goals
    refine mj_gcp hC 5 ?_
    show P (mj_pick 28 13 ((Int32.ofNat 6) ≤ s4.2), [some (.ref _), some (.int s4.1), some (.int s4.2)], [], (110, x), m)
    refine mj_pbr (fun c1 => ?_) (fun c1 => ?_)
    · rw [if_pos c1] at h
      cases h
      exact mj_less hC (L0 := [none, some (.int s4.1), none]) (And.intro rfl trivial) (h1 rfl)
    · rw [if_neg c1] at h
      obtain ⟨k2, h⟩ := mj_ifn h
      refine mj_gcp hC 9 ?_
      show _ ∧ (P (4, [some (.ref _), some (.int (s4.1 + (mj_I (m _ s4.2.toNatClampNeg)))), some (.int (s4.2 + 1))], [], (110, x), m))
      refine And.intro k2 (?_)
      cases h
      exact mj_less hC (L0 := [some (.ref _), some (.int (s4.1 + (mj_I (m _ s4.2.toNatClampNeg)))), some (.int (s4.2 + 1))]) (And.intro rfl (And.intro rfl (And.intro rfl trivial))) (h0 rfl)
set_option maxRecDepth 20000 in
theorem sa_allSlips_p {Ls tp ip x d : Nat} {Z : mj_X} {R : Option Value → mj_G → mj_M → Prop} {P : mj_K → Prop} (hC : mj_cls false (mj_sh Ls) (mj_rf tp ip) mj_dv mj_cd_138 (mj_Ex false (mj_sh Ls) (mj_rf tp ip) Z d) R P) (hd : 0 ≤ d) {sp : Nat} (hsp : sp = 42 ∨ sp = 47 ∨ sp = 52)  {m : mj_M} {r : Int32} (h : sa_allSlips sp m = some r) (hR : R (some (.int r)) (110, x) m) : P (0, [some (.ref sp), none, none], [], (110, x), m) := by
  unfold sa_allSlips at h
  rcases hsp with rfl | rfl | rfl
  all_goals
    refine mj_gcp hC 4 ?_
    show P (4, [some (.ref _), some (.int 0), some (.int 0)], [], (110, x), m)
    obtain ⟨q3, eq3, h⟩ := mj_bnd h
    refine mj_less hC (L0 := [some (.ref _), some (.int 0), some (.int 0)]) (And.intro rfl (And.intro rfl (And.intro rfl trivial))) ?_
    refine mj_loop_P (A := fun z4 => P (4, [some (.ref _), some (.int z4.1), some (.int z4.2)], [], (110, x), m)) (E := fun _ z4 => P (28, [none, some (.int z4.1), none], [], (110, x), m)) (fun zz t w hb h0 h1 => sa_allSlips_l4_x hC hd (by decide) zz hb h0 (fun ht => h1 0 ht)) mj_F _ q3 eq3 ?_
    refine mj_gcp hC 1 ?_
    show P (29, [none, some (.int q3.2.1), none], [.int q3.2.1], (110, x), m)
    cases h
    exact mj_pret hC rfl hR
set_option maxRecDepth 20000 in
theorem sa_allSlips_x {Ls tp ip x d : Nat} {Z : mj_X} (hd : 1 ≤ d) {sp : Nat} (hsp : sp = 42 ∨ sp = 47 ∨ sp = 52)  {m : mj_M} {r : Int32} (h : sa_allSlips sp m = some r) : mj_Ex false (mj_sh Ls) (mj_rf tp ip) Z d 138 [.ref sp] (110, x) m (some (.int r)) (110, x) m := by
  exact mj_Ex_of (cd := mj_cd_138) (L := [some (.ref sp), none, none]) (by omega) (by decide) rfl (Nat.le_of_ble_eq_true rfl) rfl (fun P hC => sa_allSlips_p hC (by omega) hsp h ⟨rfl, rfl, rfl⟩)
def sa_hiccupping_j25l4 (sp : Nat)  (v1 : Int32) (v2 : Int32)  (m : mj_M) : Option (Nat × (Int32 × Int32)) :=
  some (0, (v1, (v2 + 1)))
def sa_hiccupping_l4 (sp : Nat)  (m : mj_M) (s4 : (Int32 × Int32)) : Option (Nat × (Int32 × Int32)) :=
  (if (Int32.ofNat 6) ≤ s4.2 then some (1, (s4.1, s4.2)) else
  (if s4.2 < 0 ∨ 6 ≤ (s4.2 : Int32).toNatClampNeg then none else
  (if (mj_I (m (sp + 2) s4.2.toNatClampNeg)) ≤ 0 then sa_hiccupping_j25l4 sp s4.1 s4.2 m else
  sa_hiccupping_j25l4 sp (s4.1 + 1) s4.2 m)))
def sa_hiccupping (sp : Nat)  (m : mj_M) : Option Int32 :=
  (mj_loop (sa_hiccupping_l4 sp m) mj_F (0, 0)).bind fun q4 =>
  some q4.2.1
set_option maxRecDepth 20000 in
theorem sa_hiccupping_j25l4_x {Ls tp ip x d : Nat} {Z : mj_X} {R : Option Value → mj_G → mj_M → Prop} {P : mj_K → Prop} (hC : mj_cls false (mj_sh Ls) (mj_rf tp ip) mj_dv mj_cd_139 (mj_Ex false (mj_sh Ls) (mj_rf tp ip) Z d) R P) (hd : 0 ≤ d) {sp : Nat} (hsp : sp = 42 ∨ sp = 47 ∨ sp = 52)  {v1 : Int32} {v2 : Int32}  {m : mj_M} {t : Nat} {w : (Int32 × Int32)} (h : sa_hiccupping_j25l4 sp  v1 v2 m = some (t, w)) (h0 : t = 0 → P (4, [some (.ref sp), some (.int w.1), some (.int w.2)], [], (110, x), m)) (h1 : t = 1 → P (31, [none, some (.int w.1), none], [], (110, x), m)) : P (25, [some (.ref sp), some (.int v1), some (.int v2)], [], (110, x), m) := by
  unfold sa_hiccupping_j25l4 at h
  rcases hsp with rfl | rfl | rfl
  all_goals
    refine mj_gcp hC 2 ?_
    show P (4, [some (.ref _), some (.int v1), some (.int (v2 + 1))], [], (110, x), m)
    cases h
    exact mj_less hC (L0 := [some (.ref _), some (.int v1), some (.int (v2 + 1))]) (And.intro rfl (And.intro rfl (And.intro rfl trivial))) (h0 rfl)
set_option maxRecDepth 20000 in
theorem sa_hiccupping_l4_x {Ls tp ip x d : Nat} {Z : mj_X} {R : Option Value → mj_G → mj_M → Prop} {P : mj_K → Prop} (hC : mj_cls false (mj_sh Ls) (mj_rf tp ip) mj_dv mj_cd_139 (mj_Ex false (mj_sh Ls) (mj_rf tp ip) Z d) R P) (hd : 0 ≤ d) {sp : Nat} (hsp : sp = 42 ∨ sp = 47 ∨ sp = 52)  {m : mj_M} (s4 : (Int32 × Int32)) {t : Nat} {w : (Int32 × Int32)} (h : sa_hiccupping_l4 sp m s4 = some (t, w)) (h0 : t = 0 → P (4, [some (.ref sp), some (.int w.1), some (.int w.2)], [], (110, x), m)) (h1 : t = 1 → P (31, [none, some (.int w.1), none], [], (110, x), m)) : P (4, [some (.ref sp), some (.int s4.1), some (.int s4.2)], [], (110, x), m) := by
  unfold sa_hiccupping_l4 at h
  rcases hsp with rfl | rfl | rfl
  all_goals
    refine mj_gcp hC 5 ?_
    show P (mj_pick 31 13 ((Int32.ofNat 6) ≤ s4.2), [some (.ref _), some (.int s4.1), some (.int s4.2)], [], (110, x), m)
    refine mj_pbr (fun c1 => ?_) (fun c1 => ?_)
    · rw [if_pos c1] at h
      cases h
      exact mj_less hC (L0 := [none, some (.int s4.1), none]) (And.intro rfl trivial) (h1 rfl)
    · rw [if_neg c1] at h
      obtain ⟨k2, h⟩ := mj_ifn h
      refine mj_gcp hC 5 ?_
      show _ ∧ (P (mj_pick 25 22 ((mj_I (m _ s4.2.toNatClampNeg)) ≤ 0), [some (.ref _), some (.int s4.1), some (.int s4.2)], [], (110, x), m))
      refine And.intro k2 (?_)
      refine mj_pbr (fun c3 => ?_) (fun c3 => ?_)
      · rw [if_pos c3] at h
        exact mj_less hC (L0 := [some (.ref _), some (.int s4.1), some (.int s4.2)]) (And.intro rfl (And.intro rfl (And.intro rfl trivial))) (sa_hiccupping_j25l4_x hC hd (by decide) h h0 h1)
      · rw [if_neg c3] at h
        refine mj_gcp hC 1 ?_
        show P (25, [some (.ref _), some (.int (s4.1 + 1)), some (.int s4.2)], [], (110, x), m)
        exact mj_less hC (L0 := [some (.ref _), some (.int (s4.1 + 1)), some (.int s4.2)]) (And.intro rfl (And.intro rfl (And.intro rfl trivial))) (sa_hiccupping_j25l4_x hC hd (by decide) h h0 h1)
set_option maxRecDepth 20000 in
theorem sa_hiccupping_p {Ls tp ip x d : Nat} {Z : mj_X} {R : Option Value → mj_G → mj_M → Prop} {P : mj_K → Prop} (hC : mj_cls false (mj_sh Ls) (mj_rf tp ip) mj_dv mj_cd_139 (mj_Ex false (mj_sh Ls) (mj_rf tp ip) Z d) R P) (hd : 0 ≤ d) {sp : Nat} (hsp : sp = 42 ∨ sp = 47 ∨ sp = 52)  {m : mj_M} {r : Int32} (h : sa_hiccupping sp m = some r) (hR : R (some (.int r)) (110, x) m) : P (0, [some (.ref sp), none, none], [], (110, x), m) := by
  unfold sa_hiccupping at h
  rcases hsp with rfl | rfl | rfl
  all_goals
    refine mj_gcp hC 4 ?_
    show P (4, [some (.ref _), some (.int 0), some (.int 0)], [], (110, x), m)
    obtain ⟨q4, eq4, h⟩ := mj_bnd h
    refine mj_less hC (L0 := [some (.ref _), some (.int 0), some (.int 0)]) (And.intro rfl (And.intro rfl (And.intro rfl trivial))) ?_
    refine mj_loop_P (A := fun z4 => P (4, [some (.ref _), some (.int z4.1), some (.int z4.2)], [], (110, x), m)) (E := fun _ z4 => P (31, [none, some (.int z4.1), none], [], (110, x), m)) (fun zz t w hb h0 h1 => sa_hiccupping_l4_x hC hd (by decide) zz hb h0 (fun ht => h1 0 ht)) mj_F _ q4 eq4 ?_
    refine mj_gcp hC 1 ?_
    show P (32, [none, some (.int q4.2.1), none], [.int q4.2.1], (110, x), m)
    cases h
    exact mj_pret hC rfl hR
set_option maxRecDepth 20000 in
theorem sa_hiccupping_x {Ls tp ip x d : Nat} {Z : mj_X} (hd : 1 ≤ d) {sp : Nat} (hsp : sp = 42 ∨ sp = 47 ∨ sp = 52)  {m : mj_M} {r : Int32} (h : sa_hiccupping sp m = some r) : mj_Ex false (mj_sh Ls) (mj_rf tp ip) Z d 139 [.ref sp] (110, x) m (some (.int r)) (110, x) m := by
  exact mj_Ex_of (cd := mj_cd_139) (L := [some (.ref sp), none, none]) (by omega) (by decide) rfl (Nat.le_of_ble_eq_true rfl) rfl (fun P hC => sa_hiccupping_p hC (by omega) hsp h ⟨rfl, rfl, rfl⟩)
def de_forget   (m : mj_M) : Option mj_M :=
  some (mj_up m 57 0 (.int 0))
set_option maxRecDepth 20000 in
theorem de_forget_p {Ls tp ip x d : Nat} {Z : mj_X} {R : Option Value → mj_G → mj_M → Prop} {P : mj_K → Prop} (hC : mj_cls false (mj_sh Ls) (mj_rf tp ip) mj_dv mj_cd_141 (mj_Ex false (mj_sh Ls) (mj_rf tp ip) Z d) R P) (hd : 0 ≤ d)  {m : mj_M} {r : mj_M} (h : de_forget m = some r) (hR : R none (110, x) r) : P (0, [some (.ref 57)], [], (110, x), m) := by
  unfold de_forget at h
  refine mj_gcp hC 3 ?_
  show P (5, [some (.ref 57)], [], (110, x), (mj_up m 57 0 (.int 0)))
  cases h
  exact mj_pret hC rfl hR
set_option maxRecDepth 20000 in
theorem de_forget_x {Ls tp ip x d : Nat} {Z : mj_X} (hd : 1 ≤ d)  {m : mj_M} {r : mj_M} (h : de_forget m = some r) : mj_Ex false (mj_sh Ls) (mj_rf tp ip) Z d 141 [.ref 57] (110, x) m none (110, x) r := by
  exact mj_Ex_of (cd := mj_cd_141) (L := [some (.ref 57)]) (by omega) (by decide) rfl (Nat.le_of_ble_eq_true rfl) rfl (fun P hC => de_forget_p hC (by omega) h ⟨rfl, rfl, rfl⟩)
def de_dropOldest_l2   (s2 : (Int32 × mj_M)) : Option (Nat × (Int32 × mj_M)) :=
  (if (mj_I (s2.2 57 0)) ≤ s2.1 then some (1, (s2.1, s2.2)) else
  some (0, ((s2.1 + 1), (fx_put (fx_put (fx_put s2.2 58 (s2.1 - 1) (fx_at s2.2 58 s2.1)) 59 (s2.1 - 1) (fx_at (fx_put s2.2 58 (s2.1 - 1) (fx_at s2.2 58 s2.1)) 59 s2.1)) 60 (s2.1 - 1) (fx_at (fx_put (fx_put s2.2 58 (s2.1 - 1) (fx_at s2.2 58 s2.1)) 59 (s2.1 - 1) (fx_at (fx_put s2.2 58 (s2.1 - 1) (fx_at s2.2 58 s2.1)) 59 s2.1)) 60 s2.1)))))
def de_dropOldest   (m : mj_M) : Option mj_M :=
  (mj_loop (de_dropOldest_l2) mj_F (1, m)).bind fun q2 =>
  some (mj_up q2.2.2 57 0 (.int ((mj_I (q2.2.2 57 0)) - 1)))
set_option maxRecDepth 20000 in
theorem de_dropOldest_l2_x {Ls tp ip x d : Nat} {Z : mj_X} {R : Option Value → mj_G → mj_M → Prop} {P : mj_K → Prop} (hC : mj_cls false (mj_sh Ls) (mj_rf tp ip) mj_dv mj_cd_143 (mj_Ex false (mj_sh Ls) (mj_rf tp ip) Z d) R P) (hd : 1 ≤ d)  (s2 : (Int32 × mj_M)) {t : Nat} {w : (Int32 × mj_M)} (h : de_dropOldest_l2 s2 = some (t, w)) (h0 : t = 0 → P (2, [some (.ref 57), some (.int w.1)], [], (110, x), w.2)) (h1 : t = 1 → P (70, [some (.ref 57), none], [], (110, x), w.2)) : P (2, [some (.ref 57), some (.int s2.1)], [], (110, x), s2.2) := by
  unfold de_dropOldest_l2 at h
  refine mj_gcp hC 4 ?_
  show P (mj_pick 70 10 ((mj_I (s2.2 57 0)) ≤ s2.1), [some (.ref 57), some (.int s2.1)], [], (110, x), s2.2)
  refine mj_pbr (fun c1 => ?_) (fun c1 => ?_)
  · rw [if_pos c1] at h
    cases h
    exact mj_less hC (L0 := [some (.ref 57), none]) (And.intro rfl trivial) (h1 rfl)
  · rw [if_neg c1] at h
    refine mj_gcp hC 8 ?_
    show P (22, [some (.ref 57), some (.int s2.1)], [.int s2.1, .ref 58, .int (s2.1 - 1), .ref 58], (110, x), s2.2)
    refine mj_pcall hC rfl (bp_at_x (Nat.le_trans (by decide) hd) (by decide)) ?_
    show P (25, [some (.ref 57), some (.int s2.1)], [.int (fx_at s2.2 58 s2.1), .int (s2.1 - 1), .ref 58], (110, x), s2.2)
    refine mj_pcall hC rfl (bp_put_x (Nat.le_trans (by decide) hd) (by decide)) ?_
    show P (28, [some (.ref 57), some (.int s2.1)], [], (110, x), (fx_put s2.2 58 (s2.1 - 1) (fx_at s2.2 58 s2.1)))
    refine mj_gcp hC 8 ?_
    show P (40, [some (.ref 57), some (.int s2.1)], [.int s2.1, .ref 59, .int (s2.1 - 1), .ref 59], (110, x), (fx_put s2.2 58 (s2.1 - 1) (fx_at s2.2 58 s2.1)))
    refine mj_pcall hC rfl (bp_at_x (Nat.le_trans (by decide) hd) (by decide)) ?_
    show P (43, [some (.ref 57), some (.int s2.1)], [.int (fx_at (fx_put s2.2 58 (s2.1 - 1) (fx_at s2.2 58 s2.1)) 59 s2.1), .int (s2.1 - 1), .ref 59], (110, x), (fx_put s2.2 58 (s2.1 - 1) (fx_at s2.2 58 s2.1)))
    refine mj_pcall hC rfl (bp_put_x (Nat.le_trans (by decide) hd) (by decide)) ?_
    show P (46, [some (.ref 57), some (.int s2.1)], [], (110, x), (fx_put (fx_put s2.2 58 (s2.1 - 1) (fx_at s2.2 58 s2.1)) 59 (s2.1 - 1) (fx_at (fx_put s2.2 58 (s2.1 - 1) (fx_at s2.2 58 s2.1)) 59 s2.1)))
    refine mj_gcp hC 8 ?_
    show P (58, [some (.ref 57), some (.int s2.1)], [.int s2.1, .ref 60, .int (s2.1 - 1), .ref 60], (110, x), (fx_put (fx_put s2.2 58 (s2.1 - 1) (fx_at s2.2 58 s2.1)) 59 (s2.1 - 1) (fx_at (fx_put s2.2 58 (s2.1 - 1) (fx_at s2.2 58 s2.1)) 59 s2.1)))
    refine mj_pcall hC rfl (bp_at_x (Nat.le_trans (by decide) hd) (by decide)) ?_
    show P (61, [some (.ref 57), some (.int s2.1)], [.int (fx_at (fx_put (fx_put s2.2 58 (s2.1 - 1) (fx_at s2.2 58 s2.1)) 59 (s2.1 - 1) (fx_at (fx_put s2.2 58 (s2.1 - 1) (fx_at s2.2 58 s2.1)) 59 s2.1)) 60 s2.1), .int (s2.1 - 1), .ref 60], (110, x), (fx_put (fx_put s2.2 58 (s2.1 - 1) (fx_at s2.2 58 s2.1)) 59 (s2.1 - 1) (fx_at (fx_put s2.2 58 (s2.1 - 1) (fx_at s2.2 58 s2.1)) 59 s2.1)))
    refine mj_pcall hC rfl (bp_put_x (Nat.le_trans (by decide) hd) (by decide)) ?_
    show P (64, [some (.ref 57), some (.int s2.1)], [], (110, x), (fx_put (fx_put (fx_put s2.2 58 (s2.1 - 1) (fx_at s2.2 58 s2.1)) 59 (s2.1 - 1) (fx_at (fx_put s2.2 58 (s2.1 - 1) (fx_at s2.2 58 s2.1)) 59 s2.1)) 60 (s2.1 - 1) (fx_at (fx_put (fx_put s2.2 58 (s2.1 - 1) (fx_at s2.2 58 s2.1)) 59 (s2.1 - 1) (fx_at (fx_put s2.2 58 (s2.1 - 1) (fx_at s2.2 58 s2.1)) 59 s2.1)) 60 s2.1)))
    refine mj_gcp hC 2 ?_
    show P (2, [some (.ref 57), some (.int (s2.1 + 1))], [], (110, x), (fx_put (fx_put (fx_put s2.2 58 (s2.1 - 1) (fx_at s2.2 58 s2.1)) 59 (s2.1 - 1) (fx_at (fx_put s2.2 58 (s2.1 - 1) (fx_at s2.2 58 s2.1)) 59 s2.1)) 60 (s2.1 - 1) (fx_at (fx_put (fx_put s2.2 58 (s2.1 - 1) (fx_at s2.2 58 s2.1)) 59 (s2.1 - 1) (fx_at (fx_put s2.2 58 (s2.1 - 1) (fx_at s2.2 58 s2.1)) 59 s2.1)) 60 s2.1)))
    cases h
    exact mj_less hC (L0 := [some (.ref 57), some (.int (s2.1 + 1))]) (And.intro rfl (And.intro rfl trivial)) (h0 rfl)
set_option maxRecDepth 20000 in
theorem de_dropOldest_p {Ls tp ip x d : Nat} {Z : mj_X} {R : Option Value → mj_G → mj_M → Prop} {P : mj_K → Prop} (hC : mj_cls false (mj_sh Ls) (mj_rf tp ip) mj_dv mj_cd_143 (mj_Ex false (mj_sh Ls) (mj_rf tp ip) Z d) R P) (hd : 1 ≤ d)  {m : mj_M} {r : mj_M} (h : de_dropOldest m = some r) (hR : R none (110, x) r) : P (0, [some (.ref 57), none], [], (110, x), m) := by
  unfold de_dropOldest at h
  refine mj_gcp hC 2 ?_
  show P (2, [some (.ref 57), some (.int 1)], [], (110, x), m)
  obtain ⟨q2, eq2, h⟩ := mj_bnd h
  refine mj_less hC (L0 := [some (.ref 57), some (.int 1)]) (And.intro rfl (And.intro rfl trivial)) ?_
  refine mj_loop_P (A := fun z2 => P (2, [some (.ref 57), some (.int z2.1)], [], (110, x), z2.2)) (E := fun _ z2 => P (70, [some (.ref 57), none], [], (110, x), z2.2)) (fun zz t w hb h0 h1 => de_dropOldest_l2_x hC hd zz hb h0 (fun ht => h1 0 ht)) mj_F _ q2 eq2 ?_
  refine mj_gcp hC 6 ?_
  show P (80, [some (.ref 57), none], [], (110, x), (mj_up q2.2.2 57 0 (.int ((mj_I (q2.2.2 57 0)) - 1))))
  cases h
  exact mj_pret hC rfl hR
set_option maxRecDepth 20000 in
theorem de_dropOldest_x {Ls tp ip x d : Nat} {Z : mj_X} (hd : 2 ≤ d)  {m : mj_M} {r : mj_M} (h : de_dropOldest m = some r) : mj_Ex false (mj_sh Ls) (mj_rf tp ip) Z d 143 [.ref 57] (110, x) m none (110, x) r := by
  exact mj_Ex_of (cd := mj_cd_143) (L := [some (.ref 57), none]) (by omega) (by decide) rfl (Nat.le_of_ble_eq_true rfl) rfl (fun P hC => de_dropOldest_p hC (by omega) h ⟨rfl, rfl, rfl⟩)
def de_takeBack (sp : Nat)  (m : mj_M) : Option (Int32 × mj_M) :=
  (if 1 ≤ (mj_I (m 57 0)) then (if (fx_at (mj_up m 57 0 (.int ((mj_I (m 57 0)) - 1))) 58 ((mj_I (m 57 0)) - 1)) = 0 then some (((mj_I (m 57 0)) - 1), (mj_up (mj_up m 57 0 (.int ((mj_I (m 57 0)) - 1))) sp 2 (.int (fx_at (mj_up m 57 0 (.int ((mj_I (m 57 0)) - 1))) 60 ((mj_I (m 57 0)) - 1))))) else
  (if (fx_at (mj_up m 57 0 (.int ((mj_I (m 57 0)) - 1))) 58 ((mj_I (m 57 0)) - 1)) = 1 then some (((mj_I (m 57 0)) - 1), (mj_up (mj_up m 57 0 (.int ((mj_I (m 57 0)) - 1))) sp 1 (.int (fx_at (mj_up m 57 0 (.int ((mj_I (m 57 0)) - 1))) 60 ((mj_I (m 57 0)) - 1))))) else
  (if (fx_at (mj_up m 57 0 (.int ((mj_I (m 57 0)) - 1))) 58 ((mj_I (m 57 0)) - 1)) = 2 then some (((mj_I (m 57 0)) - 1), (fx_put (mj_up m 57 0 (.int ((mj_I (m 57 0)) - 1))) (sp + 2) (fx_at (mj_up m 57 0 (.int ((mj_I (m 57 0)) - 1))) 59 ((mj_I (m 57 0)) - 1)) (fx_at (mj_up m 57 0 (.int ((mj_I (m 57 0)) - 1))) 60 ((mj_I (m 57 0)) - 1)))) else
  (if (fx_at (mj_up m 57 0 (.int ((mj_I (m 57 0)) - 1))) 58 ((mj_I (m 57 0)) - 1)) = 3 then some (((mj_I (m 57 0)) - 1), (fx_put (mj_up (mj_up m 57 0 (.int ((mj_I (m 57 0)) - 1))) sp 4 (.int ((mj_I (m sp 4)) ||| ((1 : Int32) <<< ((fx_at (mj_up m 57 0 (.int ((mj_I (m 57 0)) - 1))) 59 ((mj_I (m 57 0)) - 1)) &&& 31))))) (sp + 2) (fx_at (mj_up m 57 0 (.int ((mj_I (m 57 0)) - 1))) 59 ((mj_I (m 57 0)) - 1)) (fx_at (mj_up m 57 0 (.int ((mj_I (m 57 0)) - 1))) 60 ((mj_I (m 57 0)) - 1)))) else
  (sa_sendAway sp (fx_at (mj_up m 57 0 (.int ((mj_I (m 57 0)) - 1))) 59 ((mj_I (m 57 0)) - 1)) (mj_up m 57 0 (.int ((mj_I (m 57 0)) - 1)))).bind fun q6 =>
  some ((mj_I (q6 57 0)), q6))))) else
  some ((-1), m))
set_option maxRecDepth 20000 in
theorem de_takeBack_p {Ls tp ip x d : Nat} {Z : mj_X} {R : Option Value → mj_G → mj_M → Prop} {P : mj_K → Prop} (hC : mj_cls false (mj_sh Ls) (mj_rf tp ip) mj_dv mj_cd_144 (mj_Ex false (mj_sh Ls) (mj_rf tp ip) Z d) R P) (hd : 2 ≤ d) {sp : Nat} (hsp : sp = 42 ∨ sp = 47 ∨ sp = 52)  {m : mj_M} {r : (Int32 × mj_M)} (h : de_takeBack sp m = some r) (hR : R (some (.int r.1)) (110, x) r.2) : P (0, [some (.ref 57), some (.ref sp), none, none], [], (110, x), m) := by
  unfold de_takeBack at h
  rcases hsp with rfl | rfl | rfl
  all_goals
    refine mj_gcp hC 4 ?_
    show P (mj_pick 10 8 (1 ≤ (mj_I (m 57 0))), [some (.ref 57), some (.ref _), none, none], [], (110, x), m)
    refine mj_pbr (fun c1 => ?_) (fun c1 => ?_)
    · rw [if_pos c1] at h
      refine mj_gcp hC 10 ?_
      show P (28, [some (.ref 57), some (.ref _), none, none], [.int ((mj_I (m 57 0)) - 1), .ref 59], (110, x), (mj_up m 57 0 (.int ((mj_I (m 57 0)) - 1))))
      refine mj_pcall hC rfl (bp_at_x (Nat.le_trans (by decide) hd) (by decide)) ?_
      show P (31, [some (.ref 57), some (.ref _), none, none], [.int (fx_at (mj_up m 57 0 (.int ((mj_I (m 57 0)) - 1))) 59 ((mj_I (m 57 0)) - 1))], (110, x), (mj_up m 57 0 (.int ((mj_I (m 57 0)) - 1))))
      refine mj_gcp hC 5 ?_
      show P (40, [some (.ref 57), some (.ref _), some (.int (fx_at (mj_up m 57 0 (.int ((mj_I (m 57 0)) - 1))) 59 ((mj_I (m 57 0)) - 1))), none], [.int ((mj_I (m 57 0)) - 1), .ref 60], (110, x), (mj_up m 57 0 (.int ((mj_I (m 57 0)) - 1))))
      refine mj_pcall hC rfl (bp_at_x (Nat.le_trans (by decide) hd) (by decide)) ?_
      show P (43, [some (.ref 57), some (.ref _), some (.int (fx_at (mj_up m 57 0 (.int ((mj_I (m 57 0)) - 1))) 59 ((mj_I (m 57 0)) - 1))), none], [.int (fx_at (mj_up m 57 0 (.int ((mj_I (m 57 0)) - 1))) 60 ((mj_I (m 57 0)) - 1))], (110, x), (mj_up m 57 0 (.int ((mj_I (m 57 0)) - 1))))
      refine mj_gcp hC 5 ?_
      show P (52, [some (.ref 57), some (.ref _), some (.int (fx_at (mj_up m 57 0 (.int ((mj_I (m 57 0)) - 1))) 59 ((mj_I (m 57 0)) - 1))), some (.int (fx_at (mj_up m 57 0 (.int ((mj_I (m 57 0)) - 1))) 60 ((mj_I (m 57 0)) - 1)))], [.int ((mj_I (m 57 0)) - 1), .ref 58], (110, x), (mj_up m 57 0 (.int ((mj_I (m 57 0)) - 1))))
      refine mj_pcall hC rfl (bp_at_x (Nat.le_trans (by decide) hd) (by decide)) ?_
      show P (55, [some (.ref 57), some (.ref _), some (.int (fx_at (mj_up m 57 0 (.int ((mj_I (m 57 0)) - 1))) 59 ((mj_I (m 57 0)) - 1))), some (.int (fx_at (mj_up m 57 0 (.int ((mj_I (m 57 0)) - 1))) 60 ((mj_I (m 57 0)) - 1)))], [.int (fx_at (mj_up m 57 0 (.int ((mj_I (m 57 0)) - 1))) 58 ((mj_I (m 57 0)) - 1))], (110, x), (mj_up m 57 0 (.int ((mj_I (m 57 0)) - 1))))
      refine mj_gcp hC 1 ?_
      show P ((mj_sw (fx_at (mj_up m 57 0 (.int ((mj_I (m 57 0)) - 1))) 58 ((mj_I (m 57 0)) - 1)) [(0, 84), (1, 92), (2, 100), (3, 112)] 136), [some (.ref 57), some (.ref _), some (.int (fx_at (mj_up m 57 0 (.int ((mj_I (m 57 0)) - 1))) 59 ((mj_I (m 57 0)) - 1))), some (.int (fx_at (mj_up m 57 0 (.int ((mj_I (m 57 0)) - 1))) 60 ((mj_I (m 57 0)) - 1)))], [], (110, x), (mj_up m 57 0 (.int ((mj_I (m 57 0)) - 1))))
      refine mj_psw (fun c2 => ?_) (fun c2 => ?_)
      · rw [if_pos c2] at h
        refine mj_gcp hC 4 ?_
        show P (141, [some (.ref 57), some (.ref _), some (.int (fx_at (mj_up m 57 0 (.int ((mj_I (m 57 0)) - 1))) 59 ((mj_I (m 57 0)) - 1))), some (.int (fx_at (mj_up m 57 0 (.int ((mj_I (m 57 0)) - 1))) 60 ((mj_I (m 57 0)) - 1)))], [], (110, x), (mj_up (mj_up m 57 0 (.int ((mj_I (m 57 0)) - 1))) _ 2 (.int (fx_at (mj_up m 57 0 (.int ((mj_I (m 57 0)) - 1))) 60 ((mj_I (m 57 0)) - 1)))))
        refine mj_gcp hC 2 ?_
        show P (145, [some (.ref 57), some (.ref _), some (.int (fx_at (mj_up m 57 0 (.int ((mj_I (m 57 0)) - 1))) 59 ((mj_I (m 57 0)) - 1))), some (.int (fx_at (mj_up m 57 0 (.int ((mj_I (m 57 0)) - 1))) 60 ((mj_I (m 57 0)) - 1)))], [.int ((mj_I (m 57 0)) - 1)], (110, x), (mj_up (mj_up m 57 0 (.int ((mj_I (m 57 0)) - 1))) _ 2 (.int (fx_at (mj_up m 57 0 (.int ((mj_I (m 57 0)) - 1))) 60 ((mj_I (m 57 0)) - 1)))))
        cases h
        exact mj_pret hC rfl hR
      · rw [if_neg c2] at h
        refine mj_psw (fun c3 => ?_) (fun c3 => ?_)
        · rw [if_pos c3] at h
          refine mj_gcp hC 4 ?_
          show P (141, [some (.ref 57), some (.ref _), some (.int (fx_at (mj_up m 57 0 (.int ((mj_I (m 57 0)) - 1))) 59 ((mj_I (m 57 0)) - 1))), some (.int (fx_at (mj_up m 57 0 (.int ((mj_I (m 57 0)) - 1))) 60 ((mj_I (m 57 0)) - 1)))], [], (110, x), (mj_up (mj_up m 57 0 (.int ((mj_I (m 57 0)) - 1))) _ 1 (.int (fx_at (mj_up m 57 0 (.int ((mj_I (m 57 0)) - 1))) 60 ((mj_I (m 57 0)) - 1)))))
          refine mj_gcp hC 2 ?_
          show P (145, [some (.ref 57), some (.ref _), some (.int (fx_at (mj_up m 57 0 (.int ((mj_I (m 57 0)) - 1))) 59 ((mj_I (m 57 0)) - 1))), some (.int (fx_at (mj_up m 57 0 (.int ((mj_I (m 57 0)) - 1))) 60 ((mj_I (m 57 0)) - 1)))], [.int ((mj_I (m 57 0)) - 1)], (110, x), (mj_up (mj_up m 57 0 (.int ((mj_I (m 57 0)) - 1))) _ 1 (.int (fx_at (mj_up m 57 0 (.int ((mj_I (m 57 0)) - 1))) 60 ((mj_I (m 57 0)) - 1)))))
          cases h
          exact mj_pret hC rfl hR
        · rw [if_neg c3] at h
          refine mj_psw (fun c4 => ?_) (fun c4 => ?_)
          · rw [if_pos c4] at h
            refine mj_gcp hC 4 ?_
            show P (106, [some (.ref 57), some (.ref _), some (.int (fx_at (mj_up m 57 0 (.int ((mj_I (m 57 0)) - 1))) 59 ((mj_I (m 57 0)) - 1))), some (.int (fx_at (mj_up m 57 0 (.int ((mj_I (m 57 0)) - 1))) 60 ((mj_I (m 57 0)) - 1)))], [.int (fx_at (mj_up m 57 0 (.int ((mj_I (m 57 0)) - 1))) 60 ((mj_I (m 57 0)) - 1)), .int (fx_at (mj_up m 57 0 (.int ((mj_I (m 57 0)) - 1))) 59 ((mj_I (m 57 0)) - 1)), .ref _], (110, x), (mj_up m 57 0 (.int ((mj_I (m 57 0)) - 1))))
            refine mj_pcall hC rfl (bp_put_x (Nat.le_trans (by decide) hd) (by decide)) ?_
            show P (109, [some (.ref 57), some (.ref _), some (.int (fx_at (mj_up m 57 0 (.int ((mj_I (m 57 0)) - 1))) 59 ((mj_I (m 57 0)) - 1))), some (.int (fx_at (mj_up m 57 0 (.int ((mj_I (m 57 0)) - 1))) 60 ((mj_I (m 57 0)) - 1)))], [], (110, x), (fx_put (mj_up m 57 0 (.int ((mj_I (m 57 0)) - 1))) _ (fx_at (mj_up m 57 0 (.int ((mj_I (m 57 0)) - 1))) 59 ((mj_I (m 57 0)) - 1)) (fx_at (mj_up m 57 0 (.int ((mj_I (m 57 0)) - 1))) 60 ((mj_I (m 57 0)) - 1))))
            refine mj_gcp hC 1 ?_
            show P (141, [some (.ref 57), some (.ref _), some (.int (fx_at (mj_up m 57 0 (.int ((mj_I (m 57 0)) - 1))) 59 ((mj_I (m 57 0)) - 1))), some (.int (fx_at (mj_up m 57 0 (.int ((mj_I (m 57 0)) - 1))) 60 ((mj_I (m 57 0)) - 1)))], [], (110, x), (fx_put (mj_up m 57 0 (.int ((mj_I (m 57 0)) - 1))) _ (fx_at (mj_up m 57 0 (.int ((mj_I (m 57 0)) - 1))) 59 ((mj_I (m 57 0)) - 1)) (fx_at (mj_up m 57 0 (.int ((mj_I (m 57 0)) - 1))) 60 ((mj_I (m 57 0)) - 1))))
            refine mj_gcp hC 2 ?_
            show P (145, [some (.ref 57), some (.ref _), some (.int (fx_at (mj_up m 57 0 (.int ((mj_I (m 57 0)) - 1))) 59 ((mj_I (m 57 0)) - 1))), some (.int (fx_at (mj_up m 57 0 (.int ((mj_I (m 57 0)) - 1))) 60 ((mj_I (m 57 0)) - 1)))], [.int ((mj_I (m 57 0)) - 1)], (110, x), (fx_put (mj_up m 57 0 (.int ((mj_I (m 57 0)) - 1))) _ (fx_at (mj_up m 57 0 (.int ((mj_I (m 57 0)) - 1))) 59 ((mj_I (m 57 0)) - 1)) (fx_at (mj_up m 57 0 (.int ((mj_I (m 57 0)) - 1))) 60 ((mj_I (m 57 0)) - 1))))
            cases h
            exact mj_pret hC rfl hR
          · rw [if_neg c4] at h
            refine mj_psw (fun c5 => ?_) (fun c5 => ?_)
            · rw [if_pos c5] at h
              refine mj_gcp hC 12 ?_
              show P (130, [some (.ref 57), some (.ref _), some (.int (fx_at (mj_up m 57 0 (.int ((mj_I (m 57 0)) - 1))) 59 ((mj_I (m 57 0)) - 1))), some (.int (fx_at (mj_up m 57 0 (.int ((mj_I (m 57 0)) - 1))) 60 ((mj_I (m 57 0)) - 1)))], [.int (fx_at (mj_up m 57 0 (.int ((mj_I (m 57 0)) - 1))) 60 ((mj_I (m 57 0)) - 1)), .int (fx_at (mj_up m 57 0 (.int ((mj_I (m 57 0)) - 1))) 59 ((mj_I (m 57 0)) - 1)), .ref _], (110, x), (mj_up (mj_up m 57 0 (.int ((mj_I (m 57 0)) - 1))) _ 4 (.int ((mj_I (m _ 4)) ||| ((1 : Int32) <<< ((fx_at (mj_up m 57 0 (.int ((mj_I (m 57 0)) - 1))) 59 ((mj_I (m 57 0)) - 1)) &&& 31))))))
              refine mj_pcall hC rfl (bp_put_x (Nat.le_trans (by decide) hd) (by decide)) ?_
              show P (133, [some (.ref 57), some (.ref _), some (.int (fx_at (mj_up m 57 0 (.int ((mj_I (m 57 0)) - 1))) 59 ((mj_I (m 57 0)) - 1))), some (.int (fx_at (mj_up m 57 0 (.int ((mj_I (m 57 0)) - 1))) 60 ((mj_I (m 57 0)) - 1)))], [], (110, x), (fx_put (mj_up (mj_up m 57 0 (.int ((mj_I (m 57 0)) - 1))) _ 4 (.int ((mj_I (m _ 4)) ||| ((1 : Int32) <<< ((fx_at (mj_up m 57 0 (.int ((mj_I (m 57 0)) - 1))) 59 ((mj_I (m 57 0)) - 1)) &&& 31))))) _ (fx_at (mj_up m 57 0 (.int ((mj_I (m 57 0)) - 1))) 59 ((mj_I (m 57 0)) - 1)) (fx_at (mj_up m 57 0 (.int ((mj_I (m 57 0)) - 1))) 60 ((mj_I (m 57 0)) - 1))))
              refine mj_gcp hC 1 ?_
              show P (141, [some (.ref 57), some (.ref _), some (.int (fx_at (mj_up m 57 0 (.int ((mj_I (m 57 0)) - 1))) 59 ((mj_I (m 57 0)) - 1))), some (.int (fx_at (mj_up m 57 0 (.int ((mj_I (m 57 0)) - 1))) 60 ((mj_I (m 57 0)) - 1)))], [], (110, x), (fx_put (mj_up (mj_up m 57 0 (.int ((mj_I (m 57 0)) - 1))) _ 4 (.int ((mj_I (m _ 4)) ||| ((1 : Int32) <<< ((fx_at (mj_up m 57 0 (.int ((mj_I (m 57 0)) - 1))) 59 ((mj_I (m 57 0)) - 1)) &&& 31))))) _ (fx_at (mj_up m 57 0 (.int ((mj_I (m 57 0)) - 1))) 59 ((mj_I (m 57 0)) - 1)) (fx_at (mj_up m 57 0 (.int ((mj_I (m 57 0)) - 1))) 60 ((mj_I (m 57 0)) - 1))))
              refine mj_gcp hC 2 ?_
              show P (145, [some (.ref 57), some (.ref _), some (.int (fx_at (mj_up m 57 0 (.int ((mj_I (m 57 0)) - 1))) 59 ((mj_I (m 57 0)) - 1))), some (.int (fx_at (mj_up m 57 0 (.int ((mj_I (m 57 0)) - 1))) 60 ((mj_I (m 57 0)) - 1)))], [.int ((mj_I (m 57 0)) - 1)], (110, x), (fx_put (mj_up (mj_up m 57 0 (.int ((mj_I (m 57 0)) - 1))) _ 4 (.int ((mj_I (m _ 4)) ||| ((1 : Int32) <<< ((fx_at (mj_up m 57 0 (.int ((mj_I (m 57 0)) - 1))) 59 ((mj_I (m 57 0)) - 1)) &&& 31))))) _ (fx_at (mj_up m 57 0 (.int ((mj_I (m 57 0)) - 1))) 59 ((mj_I (m 57 0)) - 1)) (fx_at (mj_up m 57 0 (.int ((mj_I (m 57 0)) - 1))) 60 ((mj_I (m 57 0)) - 1))))
              cases h
              exact mj_pret hC rfl hR
            · rw [if_neg c5] at h
              show P (136, [some (.ref 57), some (.ref _), some (.int (fx_at (mj_up m 57 0 (.int ((mj_I (m 57 0)) - 1))) 59 ((mj_I (m 57 0)) - 1))), some (.int (fx_at (mj_up m 57 0 (.int ((mj_I (m 57 0)) - 1))) 60 ((mj_I (m 57 0)) - 1)))], [], (110, x), (mj_up m 57 0 (.int ((mj_I (m 57 0)) - 1))))
              refine mj_gcp hC 2 ?_
              show P (138, [some (.ref 57), some (.ref _), some (.int (fx_at (mj_up m 57 0 (.int ((mj_I (m 57 0)) - 1))) 59 ((mj_I (m 57 0)) - 1))), some (.int (fx_at (mj_up m 57 0 (.int ((mj_I (m 57 0)) - 1))) 60 ((mj_I (m 57 0)) - 1)))], [.int (fx_at (mj_up m 57 0 (.int ((mj_I (m 57 0)) - 1))) 59 ((mj_I (m 57 0)) - 1)), .ref _], (110, x), (mj_up m 57 0 (.int ((mj_I (m 57 0)) - 1))))
              obtain ⟨q6, eq6, h⟩ := mj_bnd h
              refine mj_pcall hC rfl (sa_sendAway_x (Nat.le_trans (by decide) hd) (by decide) eq6) ?_
              show P (141, [some (.ref 57), some (.ref _), some (.int (fx_at (mj_up m 57 0 (.int ((mj_I (m 57 0)) - 1))) 59 ((mj_I (m 57 0)) - 1))), some (.int (fx_at (mj_up m 57 0 (.int ((mj_I (m 57 0)) - 1))) 60 ((mj_I (m 57 0)) - 1)))], [], (110, x), q6)
              refine mj_gcp hC 2 ?_
              show P (145, [some (.ref 57), some (.ref _), some (.int (fx_at (mj_up m 57 0 (.int ((mj_I (m 57 0)) - 1))) 59 ((mj_I (m 57 0)) - 1))), some (.int (fx_at (mj_up m 57 0 (.int ((mj_I (m 57 0)) - 1))) 60 ((mj_I (m 57 0)) - 1)))], [.int (mj_I (q6 57 0))], (110, x), q6)
              cases h
              exact mj_pret hC rfl hR
    · rw [if_neg c1] at h
      refine mj_gcp hC 1 ?_
      show P (9, [some (.ref 57), some (.ref _), none, none], [.int (-1)], (110, x), m)
      cases h
      exact mj_pret hC rfl hR
set_option maxRecDepth 20000 in
theorem de_takeBack_x {Ls tp ip x d : Nat} {Z : mj_X} (hd : 3 ≤ d) {sp : Nat} (hsp : sp = 42 ∨ sp = 47 ∨ sp = 52)  {m : mj_M} {r : (Int32 × mj_M)} (h : de_takeBack sp m = some r) : mj_Ex false (mj_sh Ls) (mj_rf tp ip) Z d 144 [.ref 57, .ref sp] (110, x) m (some (.int r.1)) (110, x) r.2 := by
  exact mj_Ex_of (cd := mj_cd_144) (L := [some (.ref 57), some (.ref sp), none, none]) (by omega) (by decide) rfl (Nat.le_of_ble_eq_true rfl) rfl (fun P hC => de_takeBack_p hC (by omega) hsp h ⟨rfl, rfl, rfl⟩)
def si_forget   (m : mj_M) : Option mj_M :=
  some (mj_up (mj_up (mj_up m 61 0 (.int 0)) 61 1 (.int (-1))) 61 6 (.int 0))
set_option maxRecDepth 20000 in
theorem si_forget_p {Ls tp ip x d : Nat} {Z : mj_X} {R : Option Value → mj_G → mj_M → Prop} {P : mj_K → Prop} (hC : mj_cls false (mj_sh Ls) (mj_rf tp ip) mj_dv mj_cd_146 (mj_Ex false (mj_sh Ls) (mj_rf tp ip) Z d) R P) (hd : 0 ≤ d)  {m : mj_M} {r : mj_M} (h : si_forget m = some r) (hR : R none (110, x) r) : P (0, [some (.ref 61)], [], (110, x), m) := by
  unfold si_forget at h
  refine mj_gcp hC 9 ?_
  show P (15, [some (.ref 61)], [], (110, x), (mj_up (mj_up (mj_up m 61 0 (.int 0)) 61 1 (.int (-1))) 61 6 (.int 0)))
  cases h
  exact mj_pret hC rfl hR
set_option maxRecDepth 20000 in
theorem si_forget_x {Ls tp ip x d : Nat} {Z : mj_X} (hd : 1 ≤ d)  {m : mj_M} {r : mj_M} (h : si_forget m = some r) : mj_Ex false (mj_sh Ls) (mj_rf tp ip) Z d 146 [.ref 61] (110, x) m none (110, x) r := by
  exact mj_Ex_of (cd := mj_cd_146) (L := [some (.ref 61)]) (by omega) (by decide) rfl (Nat.le_of_ble_eq_true rfl) rfl (fun P hC => si_forget_p hC (by omega) h ⟨rfl, rfl, rfl⟩)
def si_knownCount   (m : mj_M) : Int32 :=
  (if (mj_I (m 61 1)) = (-1) then (mj_I (m 61 0)) else
  (mj_I (m 61 1)))
set_option maxRecDepth 20000 in
theorem si_knownCount_p {Ls tp ip x d : Nat} {Z : mj_X} {R : Option Value → mj_G → mj_M → Prop} {P : mj_K → Prop} (hC : mj_cls false (mj_sh Ls) (mj_rf tp ip) mj_dv mj_cd_147 (mj_Ex false (mj_sh Ls) (mj_rf tp ip) Z d) R P) (hd : 0 ≤ d)  {m : mj_M} (hR : R (some (.int (si_knownCount m))) (110, x) m) : P (0, [some (.ref 61)], [], (110, x), m) := by
  unfold si_knownCount at hR
  refine mj_gcp hC 4 ?_
  show P (mj_pick 8 15 ((mj_I (m 61 1)) = (-1)), [some (.ref 61)], [], (110, x), m)
  refine mj_pbr (fun c1 => ?_) (fun c1 => ?_)
  · rw [if_pos c1] at hR
    refine mj_gcp hC 3 ?_
    show P (19, [some (.ref 61)], [.int (mj_I (m 61 0))], (110, x), m)
    exact mj_pret hC rfl hR
  · rw [if_neg c1] at hR
    refine mj_gcp hC 2 ?_
    show P (19, [some (.ref 61)], [.int (mj_I (m 61 1))], (110, x), m)
    exact mj_pret hC rfl hR
set_option maxRecDepth 20000 in
theorem si_knownCount_x {Ls tp ip x d : Nat} {Z : mj_X} (hd : 1 ≤ d)  {m : mj_M}  : mj_Ex false (mj_sh Ls) (mj_rf tp ip) Z d 147 [.ref 61] (110, x) m (some (.int (si_knownCount m))) (110, x) m := by
  exact mj_Ex_of (cd := mj_cd_147) (L := [some (.ref 61)]) (by omega) (by decide) rfl (Nat.le_of_ble_eq_true rfl) rfl (fun P hC => si_knownCount_p hC (by omega) ⟨rfl, rfl, rfl⟩)
def si_add_j79    (m : mj_M) : Option (Int32 × mj_M) :=
  some ((((mj_I (m 61 0)) + 1) - 1), (mj_up m 61 0 (.int ((mj_I (m 61 0)) + 1))))
def si_add  (v1 : Int32) (v2 : Int32) (v3 : Int32) (v4 : Int32) (m : mj_M) : Option (Int32 × mj_M) :=
  (if (mj_I (m 61 0)) < 24 then (if v4 = 0 then si_add_j79 (fx_put (fx_put (fx_put (fx_put m 62 (mj_I (m 61 0)) (-1)) 63 (mj_I (m 61 0)) v1) 64 (mj_I (m 61 0)) v2) 65 (mj_I (m 61 0)) v3) else
  si_add_j79 (mj_up (fx_put (fx_put (fx_put (fx_put m 62 (mj_I (m 61 0)) (-1)) 63 (mj_I (m 61 0)) v1) 64 (mj_I (m 61 0)) v2) 65 (mj_I (m 61 0)) v3) 61 6 (.int ((mj_I (m 61 6)) ||| ((1 : Int32) <<< ((mj_I (m 61 0)) &&& 31)))))) else
  some ((-1), m))
set_option maxRecDepth 20000 in
theorem si_add_j79_x {Ls tp ip x d : Nat} {Z : mj_X} {R : Option Value → mj_G → mj_M → Prop} {P : mj_K → Prop} (hC : mj_cls false (mj_sh Ls) (mj_rf tp ip) mj_dv mj_cd_148 (mj_Ex false (mj_sh Ls) (mj_rf tp ip) Z d) R P) (hd : 1 ≤ d)   {m : mj_M} {r : (Int32 × mj_M)} (h : si_add_j79 m = some r) (hR : R (some (.int r.1)) (110, x) r.2) : P (79, [some (.ref 61), none, none, none, none], [], (110, x), m) := by
  unfold si_add_j79 at h
  refine mj_gcp hC 10 ?_
  show P (95, [some (.ref 61), none, none, none, none], [.int (((mj_I (m 61 0)) + 1) - 1)], (110, x), (mj_up m 61 0 (.int ((mj_I (m 61 0)) + 1))))
  cases h
  exact mj_pret hC rfl hR
set_option maxRecDepth 20000 in
theorem si_add_p {Ls tp ip x d : Nat} {Z : mj_X} {R : Option Value → mj_G → mj_M → Prop} {P : mj_K → Prop} (hC : mj_cls false (mj_sh Ls) (mj_rf tp ip) mj_dv mj_cd_148 (mj_Ex false (mj_sh Ls) (mj_rf tp ip) Z d) R P) (hd : 1 ≤ d) {v1 : Int32} {v2 : Int32} {v3 : Int32} {v4 : Int32} {m : mj_M} {r : (Int32 × mj_M)} (h : si_add v1 v2 v3 v4 m = some r) (hR : R (some (.int r.1)) (110, x) r.2) : P (0, [some (.ref 61), some (.int v1), some (.int v2), some (.int v3), some (.int v4)], [], (110, x), m) := by
  unfold si_add at h
  refine mj_gcp hC 4 ?_
  show P (mj_pick 11 9 ((mj_I (m 61 0)) < 24), [some (.ref 61), some (.int v1), some (.int v2), some (.int v3), some (.int v4)], [], (110, x), m)
  refine mj_pbr (fun c1 => ?_) (fun c1 => ?_)
  · rw [if_pos c1] at h
    refine mj_gcp hC 5 ?_
    show P (20, [some (.ref 61), some (.int v1), some (.int v2), some (.int v3), some (.int v4)], [.int (-1), .int (mj_I (m 61 0)), .ref 62], (110, x), m)
    refine mj_pcall hC rfl (bp_put_x (Nat.le_trans (by decide) hd) (by decide)) ?_
    show P (23, [some (.ref 61), some (.int v1), some (.int v2), some (.int v3), some (.int v4)], [], (110, x), (fx_put m 62 (mj_I (m 61 0)) (-1)))
    refine mj_gcp hC 5 ?_
    show P (32, [some (.ref 61), some (.int v1), some (.int v2), some (.int v3), some (.int v4)], [.int v1, .int (mj_I (m 61 0)), .ref 63], (110, x), (fx_put m 62 (mj_I (m 61 0)) (-1)))
    refine mj_pcall hC rfl (bp_put_x (Nat.le_trans (by decide) hd) (by decide)) ?_
    show P (35, [some (.ref 61), some (.int v1), some (.int v2), some (.int v3), some (.int v4)], [], (110, x), (fx_put (fx_put m 62 (mj_I (m 61 0)) (-1)) 63 (mj_I (m 61 0)) v1))
    refine mj_gcp hC 5 ?_
    show P (44, [some (.ref 61), some (.int v1), some (.int v2), some (.int v3), some (.int v4)], [.int v2, .int (mj_I (m 61 0)), .ref 64], (110, x), (fx_put (fx_put m 62 (mj_I (m 61 0)) (-1)) 63 (mj_I (m 61 0)) v1))
    refine mj_pcall hC rfl (bp_put_x (Nat.le_trans (by decide) hd) (by decide)) ?_
    show P (47, [some (.ref 61), some (.int v1), some (.int v2), some (.int v3), some (.int v4)], [], (110, x), (fx_put (fx_put (fx_put m 62 (mj_I (m 61 0)) (-1)) 63 (mj_I (m 61 0)) v1) 64 (mj_I (m 61 0)) v2))
    refine mj_gcp hC 5 ?_
    show P (56, [some (.ref 61), some (.int v1), some (.int v2), some (.int v3), some (.int v4)], [.int v3, .int (mj_I (m 61 0)), .ref 65], (110, x), (fx_put (fx_put (fx_put m 62 (mj_I (m 61 0)) (-1)) 63 (mj_I (m 61 0)) v1) 64 (mj_I (m 61 0)) v2))
    refine mj_pcall hC rfl (bp_put_x (Nat.le_trans (by decide) hd) (by decide)) ?_
    show P (59, [some (.ref 61), some (.int v1), some (.int v2), some (.int v3), some (.int v4)], [], (110, x), (fx_put (fx_put (fx_put (fx_put m 62 (mj_I (m 61 0)) (-1)) 63 (mj_I (m 61 0)) v1) 64 (mj_I (m 61 0)) v2) 65 (mj_I (m 61 0)) v3))
    refine mj_gcp hC 2 ?_
    show P (mj_pick 79 64 (v4 = 0), [some (.ref 61), some (.int v1), some (.int v2), some (.int v3), some (.int v4)], [], (110, x), (fx_put (fx_put (fx_put (fx_put m 62 (mj_I (m 61 0)) (-1)) 63 (mj_I (m 61 0)) v1) 64 (mj_I (m 61 0)) v2) 65 (mj_I (m 61 0)) v3))
    refine mj_pbr (fun c2 => ?_) (fun c2 => ?_)
    · rw [if_pos c2] at h
      exact mj_less hC (L0 := [some (.ref 61), none, none, none, none]) (And.intro rfl trivial) (si_add_j79_x hC hd h hR)
    · rw [if_neg c2] at h
      refine mj_gcp hC 9 ?_
      show P (79, [some (.ref 61), some (.int v1), some (.int v2), some (.int v3), some (.int v4)], [], (110, x), (mj_up (fx_put (fx_put (fx_put (fx_put m 62 (mj_I (m 61 0)) (-1)) 63 (mj_I (m 61 0)) v1) 64 (mj_I (m 61 0)) v2) 65 (mj_I (m 61 0)) v3) 61 6 (.int ((mj_I (m 61 6)) ||| ((1 : Int32) <<< ((mj_I (m 61 0)) &&& 31))))))
      exact mj_less hC (L0 := [some (.ref 61), none, none, none, none]) (And.intro rfl trivial) (si_add_j79_x hC hd h hR)
  · rw [if_neg c1] at h
    refine mj_gcp hC 1 ?_
    show P (10, [some (.ref 61), some (.int v1), some (.int v2), some (.int v3), some (.int v4)], [.int (-1)], (110, x), m)
    cases h
    exact mj_pret hC rfl hR
set_option maxRecDepth 20000 in
theorem si_add_x {Ls tp ip x d : Nat} {Z : mj_X} (hd : 2 ≤ d) {v1 : Int32} {v2 : Int32} {v3 : Int32} {v4 : Int32} {m : mj_M} {r : (Int32 × mj_M)} (h : si_add v1 v2 v3 v4 m = some r) : mj_Ex false (mj_sh Ls) (mj_rf tp ip) Z d 148 [.ref 61, .int v1, .int v2, .int v3, .int v4] (110, x) m (some (.int r.1)) (110, x) r.2 := by
  exact mj_Ex_of (cd := mj_cd_148) (L := [some (.ref 61), some (.int v1), some (.int v2), some (.int v3), some (.int v4)]) (by omega) (by decide) rfl (Nat.le_of_ble_eq_true rfl) rfl (fun P hC => si_add_p hC (by omega) h ⟨rfl, rfl, rfl⟩)
def si_addStrike  (v1 : Int32) (m : mj_M) : Option (Int32 × mj_M) :=
  (if v1 < 0 then some ((-1), m) else
  (if (mj_I (m 61 0)) ≤ v1 then some ((-1), m) else
  (if (mj_I (m 61 0)) < 24 then some ((((mj_I (m 61 0)) + 1) - 1), (mj_up (fx_put m 62 (mj_I (m 61 0)) v1) 61 0 (.int ((mj_I (m 61 0)) + 1)))) else
  some ((-1), m))))
set_option maxRecDepth 20000 in
theorem si_addStrike_p {Ls tp ip x d : Nat} {Z : mj_X} {R : Option Value → mj_G → mj_M → Prop} {P : mj_K → Prop} (hC : mj_cls false (mj_sh Ls) (mj_rf tp ip) mj_dv mj_cd_149 (mj_Ex false (mj_sh Ls) (mj_rf tp ip) Z d) R P) (hd : 1 ≤ d) {v1 : Int32} {m : mj_M} {r : (Int32 × mj_M)} (h : si_addStrike v1 m = some r) (hR : R (some (.int r.1)) (110, x) r.2) : P (0, [some (.ref 61), some (.int v1)], [], (110, x), m) := by
  unfold si_addStrike at h
  refine mj_gcp hC 2 ?_
  show P (mj_pick 21 4 (v1 < 0), [some (.ref 61), some (.int v1)], [], (110, x), m)
  refine mj_pbr (fun c1 => ?_) (fun c1 => ?_)
  · rw [if_pos c1] at h
    refine mj_gcp hC 1 ?_
    show P (22, [some (.ref 61), some (.int v1)], [.int (-1)], (110, x), m)
    cases h
    exact mj_pret hC rfl hR
  · rw [if_neg c1] at h
    refine mj_gcp hC 4 ?_
    show P (mj_pick 21 12 ((mj_I (m 61 0)) ≤ v1), [some (.ref 61), some (.int v1)], [], (110, x), m)
    refine mj_pbr (fun c2 => ?_) (fun c2 => ?_)
    · rw [if_pos c2] at h
      refine mj_gcp hC 1 ?_
      show P (22, [some (.ref 61), some (.int v1)], [.int (-1)], (110, x), m)
      cases h
      exact mj_pret hC rfl hR
    · rw [if_neg c2] at h
      refine mj_gcp hC 4 ?_
      show P (mj_pick 23 21 ((mj_I (m 61 0)) < 24), [some (.ref 61), some (.int v1)], [], (110, x), m)
      refine mj_pbr (fun c3 => ?_) (fun c3 => ?_)
      · rw [if_pos c3] at h
        refine mj_gcp hC 5 ?_
        show P (32, [some (.ref 61), some (.int v1)], [.int v1, .int (mj_I (m 61 0)), .ref 62], (110, x), m)
        refine mj_pcall hC rfl (bp_put_x (Nat.le_trans (by decide) hd) (by decide)) ?_
        show P (35, [some (.ref 61), some (.int v1)], [], (110, x), (fx_put m 62 (mj_I (m 61 0)) v1))
        refine mj_gcp hC 10 ?_
        show P (51, [some (.ref 61), some (.int v1)], [.int (((mj_I (m 61 0)) + 1) - 1)], (110, x), (mj_up (fx_put m 62 (mj_I (m 61 0)) v1) 61 0 (.int ((mj_I (m 61 0)) + 1))))
        cases h
        exact mj_pret hC rfl hR
      · rw [if_neg c3] at h
        refine mj_gcp hC 1 ?_
        show P (22, [some (.ref 61), some (.int v1)], [.int (-1)], (110, x), m)
        cases h
        exact mj_pret hC rfl hR
set_option maxRecDepth 20000 in
theorem si_addStrike_x {Ls tp ip x d : Nat} {Z : mj_X} (hd : 2 ≤ d) {v1 : Int32} {m : mj_M} {r : (Int32 × mj_M)} (h : si_addStrike v1 m = some r) : mj_Ex false (mj_sh Ls) (mj_rf tp ip) Z d 149 [.ref 61, .int v1] (110, x) m (some (.int r.1)) (110, x) r.2 := by
  exact mj_Ex_of (cd := mj_cd_149) (L := [some (.ref 61), some (.int v1)]) (by omega) (by decide) rfl (Nat.le_of_ble_eq_true rfl) rfl (fun P hC => si_addStrike_p hC (by omega) h ⟨rfl, rfl, rfl⟩)
def si_standing_j55l11   (v1 : Int32) (v2 : Int32) (v3 : Int32)  (m : mj_M) : Option (Nat × (Int32 × Int32 × Int32)) :=
  some (0, (v1, v2, (v3 + (-1))))
def si_standing_l11   (m : mj_M) (s11 : (Int32 × Int32 × Int32)) : Option (Nat × (Int32 × Int32 × Int32)) :=
  (if s11.2.2 < 0 then some (1, (s11.1, s11.2.1, s11.2.2)) else
  (if (bp_has s11.1 s11.2.2 m) = 0 then (if (fx_at m 62 s11.2.2) = (-1) then si_standing_j55l11 s11.1 (s11.2.1 ||| ((1 : Int32) <<< (s11.2.2 &&& 31))) s11.2.2 m else
  si_standing_j55l11 (s11.1 ||| ((1 : Int32) <<< ((fx_at m 62 s11.2.2) &&& 31))) s11.2.1 s11.2.2 m) else
  si_standing_j55l11 s11.1 s11.2.1 s11.2.2 m))
def si_standing   (m : mj_M) : Option Int32 :=
  (mj_loop (si_standing_l11 m) mj_F (0, 0, ((si_knownCount m) - 1))).bind fun q4 =>
  some q4.2.2.1
set_option maxRecDepth 20000 in
theorem si_standing_j55l11_x {Ls tp ip x d : Nat} {Z : mj_X} {R : Option Value → mj_G → mj_M → Prop} {P : mj_K → Prop} (hC : mj_cls false (mj_sh Ls) (mj_rf tp ip) mj_dv mj_cd_150 (mj_Ex false (mj_sh Ls) (mj_rf tp ip) Z d) R P) (hd : 1 ≤ d)  {v1 : Int32} {v2 : Int32} {v3 : Int32}  {m : mj_M} {t : Nat} {w : (Int32 × Int32 × Int32)} (h : si_standing_j55l11  v1 v2 v3 m = some (t, w)) (h0 : t = 0 → P (11, [some (.ref 61), some (.int w.1), some (.int w.2.1), some (.int w.2.2), none], [], (110, x), m)) (h1 : t = 1 → P (61, [none, none, some (.int w.2.1), none, none], [], (110, x), m)) : P (55, [some (.ref 61), some (.int v1), some (.int v2), some (.int v3), none], [], (110, x), m) := by
  unfold si_standing_j55l11 at h
  refine mj_gcp hC 2 ?_
  show P (11, [some (.ref 61), some (.int v1), some (.int v2), some (.int (v3 + (-1))), none], [], (110, x), m)
  generalize (v3 + (-1)) = nz2 at h ⊢
  cases h
  exact mj_less hC (L0 := [some (.ref 61), some (.int v1), some (.int v2), some (.int nz2), none]) (And.intro rfl (And.intro rfl (And.intro rfl (And.intro rfl trivial)))) (h0 rfl)
set_option maxRecDepth 20000 in
theorem si_standing_l11_x {Ls tp ip x d : Nat} {Z : mj_X} {R : Option Value → mj_G → mj_M → Prop} {P : mj_K → Prop} (hC : mj_cls false (mj_sh Ls) (mj_rf tp ip) mj_dv mj_cd_150 (mj_Ex false (mj_sh Ls) (mj_rf tp ip) Z d) R P) (hd : 1 ≤ d)  {m : mj_M} (s11 : (Int32 × Int32 × Int32)) {t : Nat} {w : (Int32 × Int32 × Int32)} (h : si_standing_l11 m s11 = some (t, w)) (h0 : t = 0 → P (11, [some (.ref 61), some (.int w.1), some (.int w.2.1), some (.int w.2.2), none], [], (110, x), m)) (h1 : t = 1 → P (61, [none, none, some (.int w.2.1), none, none], [], (110, x), m)) : P (11, [some (.ref 61), some (.int s11.1), some (.int s11.2.1), some (.int s11.2.2), none], [], (110, x), m) := by
  unfold si_standing_l11 at h
  refine mj_gcp hC 2 ?_
  show P (mj_pick 61 15 (s11.2.2 < 0), [some (.ref 61), some (.int s11.1), some (.int s11.2.1), some (.int s11.2.2), none], [], (110, x), m)
  refine mj_pbr (fun c1 => ?_) (fun c1 => ?_)
  · rw [if_pos c1] at h
    cases h
    exact mj_less hC (L0 := [none, none, some (.int s11.2.1), none, none]) (And.intro rfl trivial) (h1 rfl)
  · rw [if_neg c1] at h
    refine mj_gcp hC 2 ?_
    show P (17, [some (.ref 61), some (.int s11.1), some (.int s11.2.1), some (.int s11.2.2), none], [.int s11.2.2, .int s11.1], (110, x), m)
    refine mj_pcall hC rfl (bp_has_x (Nat.le_trans (by decide) hd)) ?_
    show P (20, [some (.ref 61), some (.int s11.1), some (.int s11.2.1), some (.int s11.2.2), none], [.int (bp_has s11.1 s11.2.2 m)], (110, x), m)
    refine mj_gcp hC 1 ?_
    show P (mj_pick 23 55 ((bp_has s11.1 s11.2.2 m) = 0), [some (.ref 61), some (.int s11.1), some (.int s11.2.1), some (.int s11.2.2), none], [], (110, x), m)
    refine mj_pbr (fun c2 => ?_) (fun c2 => ?_)
    · rw [if_pos c2] at h
      refine mj_gcp hC 3 ?_
      show P (28, [some (.ref 61), some (.int s11.1), some (.int s11.2.1), some (.int s11.2.2), none], [.int s11.2.2, .ref 62], (110, x), m)
      refine mj_pcall hC rfl (bp_at_x (Nat.le_trans (by decide) hd) (by decide)) ?_
      show P (31, [some (.ref 61), some (.int s11.1), some (.int s11.2.1), some (.int s11.2.2), none], [.int (fx_at m 62 s11.2.2)], (110, x), m)
      refine mj_gcp hC 4 ?_
      show P (mj_pick 39 48 ((fx_at m 62 s11.2.2) = (-1)), [some (.ref 61), some (.int s11.1), some (.int s11.2.1), some (.int s11.2.2), some (.int (fx_at m 62 s11.2.2))], [], (110, x), m)
      refine mj_pbr (fun c3 => ?_) (fun c3 => ?_)
      · rw [if_pos c3] at h
        refine mj_gcp hC 7 ?_
        show P (55, [some (.ref 61), some (.int s11.1), some (.int (s11.2.1 ||| ((1 : Int32) <<< (s11.2.2 &&& 31)))), some (.int s11.2.2), some (.int (fx_at m 62 s11.2.2))], [], (110, x), m)
        exact mj_less hC (L0 := [some (.ref 61), some (.int s11.1), some (.int (s11.2.1 ||| ((1 : Int32) <<< (s11.2.2 &&& 31)))), some (.int s11.2.2), none]) (And.intro rfl (And.intro rfl (And.intro rfl (And.intro rfl trivial)))) (si_standing_j55l11_x hC hd h h0 h1)
      · rw [if_neg c3] at h
        refine mj_gcp hC 6 ?_
        show P (55, [some (.ref 61), some (.int (s11.1 ||| ((1 : Int32) <<< ((fx_at m 62 s11.2.2) &&& 31)))), some (.int s11.2.1), some (.int s11.2.2), some (.int (fx_at m 62 s11.2.2))], [], (110, x), m)
        exact mj_less hC (L0 := [some (.ref 61), some (.int (s11.1 ||| ((1 : Int32) <<< ((fx_at m 62 s11.2.2) &&& 31)))), some (.int s11.2.1), some (.int s11.2.2), none]) (And.intro rfl (And.intro rfl (And.intro rfl (And.intro rfl trivial)))) (si_standing_j55l11_x hC hd h h0 h1)
    · rw [if_neg c2] at h
      exact mj_less hC (L0 := [some (.ref 61), some (.int s11.1), some (.int s11.2.1), some (.int s11.2.2), none]) (And.intro rfl (And.intro rfl (And.intro rfl (And.intro rfl trivial)))) (si_standing_j55l11_x hC hd h h0 h1)
set_option maxRecDepth 20000 in
theorem si_standing_p {Ls tp ip x d : Nat} {Z : mj_X} {R : Option Value → mj_G → mj_M → Prop} {P : mj_K → Prop} (hC : mj_cls false (mj_sh Ls) (mj_rf tp ip) mj_dv mj_cd_150 (mj_Ex false (mj_sh Ls) (mj_rf tp ip) Z d) R P) (hd : 1 ≤ d)  {m : mj_M} {r : Int32} (h : si_standing m = some r) (hR : R (some (.int r)) (110, x) m) : P (0, [some (.ref 61), none, none, none, none], [], (110, x), m) := by
  unfold si_standing at h
  refine mj_gcp hC 5 ?_
  show P (5, [some (.ref 61), some (.int 0), some (.int 0), none, none], [.ref 61], (110, x), m)
  refine mj_pcall hC rfl (si_knownCount_x (Nat.le_trans (by decide) hd)) ?_
  show P (8, [some (.ref 61), some (.int 0), some (.int 0), none, none], [.int (si_knownCount m)], (110, x), m)
  refine mj_gcp hC 3 ?_
  show P (11, [some (.ref 61), some (.int 0), some (.int 0), some (.int ((si_knownCount m) - 1)), none], [], (110, x), m)
  obtain ⟨q4, eq4, h⟩ := mj_bnd h
  refine mj_less hC (L0 := [some (.ref 61), some (.int 0), some (.int 0), some (.int ((si_knownCount m) - 1)), none]) (And.intro rfl (And.intro rfl (And.intro rfl (And.intro rfl trivial)))) ?_
  refine mj_loop_P (A := fun z11 => P (11, [some (.ref 61), some (.int z11.1), some (.int z11.2.1), some (.int z11.2.2), none], [], (110, x), m)) (E := fun _ z11 => P (61, [none, none, some (.int z11.2.1), none, none], [], (110, x), m)) (fun zz t w hb h0 h1 => si_standing_l11_x hC hd zz hb h0 (fun ht => h1 0 ht)) mj_F _ q4 eq4 ?_
  refine mj_gcp hC 1 ?_
  show P (62, [none, none, some (.int q4.2.2.1), none, none], [.int q4.2.2.1], (110, x), m)
  cases h
  exact mj_pret hC rfl hR
set_option maxRecDepth 20000 in
theorem si_standing_x {Ls tp ip x d : Nat} {Z : mj_X} (hd : 2 ≤ d)  {m : mj_M} {r : Int32} (h : si_standing m = some r) : mj_Ex false (mj_sh Ls) (mj_rf tp ip) Z d 150 [.ref 61] (110, x) m (some (.int r)) (110, x) m := by
  exact mj_Ex_of (cd := mj_cd_150) (L := [some (.ref 61), none, none, none, none]) (by omega) (by decide) rfl (Nat.le_of_ble_eq_true rfl) rfl (fun P hC => si_standing_p hC (by omega) h ⟨rfl, rfl, rfl⟩)
def si_fit_j81l2 (sp : Nat)  (v2 : Int32) (v3 : Int32)  (m : mj_M) : Option (Nat × Int32) :=
  some (0, (v3 + 1))
def si_fit_j64l2 (sp : Nat)  (v2 : Int32) (v3 : Int32) (s0 : Int32) (m : mj_M) : Option (Nat × Int32) :=
  (if s0 = (bp_has (mj_I (m 61 6)) v3 m) then si_fit_j81l2 sp v2 v3 m else
  some (1, v3))
def si_fit_l2 (sp : Nat) (v2 : Int32) (m : mj_M) (s2 : Int32) : Option (Nat × Int32) :=
  (if (mj_I (m 61 0)) ≤ s2 then some (2, s2) else
  (if (bp_has v2 s2 m) = 0 then si_fit_j81l2 sp v2 s2 m else
  (if (fx_at m 63 s2) = (mj_I (m sp 0)) then (if (fx_at m (sp + 3) (fx_at m 64 s2)) < (fx_at m 65 s2) then si_fit_j64l2 sp v2 s2 0 m else
  si_fit_j64l2 sp v2 s2 1 m) else
  si_fit_j81l2 sp v2 s2 m)))
def si_fit (sp : Nat) (v2 : Int32) (m : mj_M) : Option Int32 :=
  (mj_loop (si_fit_l2 sp v2 m) mj_F 0).bind fun q6 =>
  (if q6.1 = 0 then some 0 else some 1)
set_option maxRecDepth 20000 in
theorem si_fit_j81l2_x {Ls tp ip x d : Nat} {Z : mj_X} {R : Option Value → mj_G → mj_M → Prop} {P : mj_K → Prop} (hC : mj_cls false (mj_sh Ls) (mj_rf tp ip) mj_dv mj_cd_152 (mj_Ex false (mj_sh Ls) (mj_rf tp ip) Z d) R P) (hd : 1 ≤ d) {sp : Nat} (hsp : sp = 42 ∨ sp = 47 ∨ sp = 52)  {v2 : Int32} {v3 : Int32}  {m : mj_M} {t : Nat} {w : Int32} (h : si_fit_j81l2 sp  v2 v3 m = some (t, w)) (h0 : t = 0 → P (2, [some (.ref 61), some (.ref sp), some (.int v2), some (.int w), none], [], (110, x), m)) (h1 : t = 1 → P (79, [none, none, none, none, none], [], (110, x), m)) (h2 : t = 2 → P (87, [none, none, none, none, none], [], (110, x), m)) : P (81, [some (.ref 61), some (.ref sp), some (.int v2), some (.int v3), none], [], (110, x), m) := by
  unfold si_fit_j81l2 at h
  rcases hsp with rfl | rfl | rfl
  all_goals
    refine mj_gcp hC 2 ?_
    show P (2, [some (.ref 61), some (.ref _), some (.int v2), some (.int (v3 + 1)), none], [], (110, x), m)
    cases h
    exact mj_less hC (L0 := [some (.ref 61), some (.ref _), some (.int v2), some (.int (v3 + 1)), none]) (And.intro rfl (And.intro rfl (And.intro rfl (And.intro rfl trivial)))) (h0 rfl)
set_option maxRecDepth 20000 in
theorem si_fit_j64l2_x {Ls tp ip x d : Nat} {Z : mj_X} {R : Option Value → mj_G → mj_M → Prop} {P : mj_K → Prop} (hC : mj_cls false (mj_sh Ls) (mj_rf tp ip) mj_dv mj_cd_152 (mj_Ex false (mj_sh Ls) (mj_rf tp ip) Z d) R P) (hd : 1 ≤ d) {sp : Nat} (hsp : sp = 42 ∨ sp = 47 ∨ sp = 52)  {v2 : Int32} {v3 : Int32} {s0 : Int32} {m : mj_M} {t : Nat} {w : Int32} (h : si_fit_j64l2 sp  v2 v3 s0 m = some (t, w)) (h0 : t = 0 → P (2, [some (.ref 61), some (.ref sp), some (.int v2), some (.int w), none], [], (110, x), m)) (h1 : t = 1 → P (79, [none, none, none, none, none], [], (110, x), m)) (h2 : t = 2 → P (87, [none, none, none, none, none], [], (110, x), m)) : P (64, [some (.ref 61), some (.ref sp), some (.int v2), some (.int v3), none], [.int s0], (110, x), m) := by
  unfold si_fit_j64l2 at h
  rcases hsp with rfl | rfl | rfl
  all_goals
    refine mj_gcp hC 5 ?_
    show P (73, [some (.ref 61), some (.ref _), some (.int v2), some (.int v3), some (.int s0)], [.int v3, .int (mj_I (m 61 6)), .int s0], (110, x), m)
    refine mj_pcall hC rfl (bp_has_x (Nat.le_trans (by decide) hd)) ?_
    show P (76, [some (.ref 61), some (.ref _), some (.int v2), some (.int v3), some (.int s0)], [.int (bp_has (mj_I (m 61 6)) v3 m), .int s0], (110, x), m)
    refine mj_gcp hC 1 ?_
    show P (mj_pick 81 79 (s0 = (bp_has (mj_I (m 61 6)) v3 m)), [some (.ref 61), some (.ref _), some (.int v2), some (.int v3), some (.int s0)], [], (110, x), m)
    refine mj_pbr (fun c5 => ?_) (fun c5 => ?_)
    · rw [if_pos c5] at h
      exact mj_less hC (L0 := [some (.ref 61), some (.ref _), some (.int v2), some (.int v3), none]) (And.intro rfl (And.intro rfl (And.intro rfl (And.intro rfl trivial)))) (si_fit_j81l2_x hC hd (by decide) h h0 h1 h2)
    · rw [if_neg c5] at h
      cases h
      exact mj_less hC (L0 := [none, none, none, none, none]) trivial (h1 rfl)
set_option maxRecDepth 20000 in
theorem si_fit_l2_x {Ls tp ip x d : Nat} {Z : mj_X} {R : Option Value → mj_G → mj_M → Prop} {P : mj_K → Prop} (hC : mj_cls false (mj_sh Ls) (mj_rf tp ip) mj_dv mj_cd_152 (mj_Ex false (mj_sh Ls) (mj_rf tp ip) Z d) R P) (hd : 1 ≤ d) {sp : Nat} (hsp : sp = 42 ∨ sp = 47 ∨ sp = 52) {v2 : Int32} {m : mj_M} (s2 : Int32) {t : Nat} {w : Int32} (h : si_fit_l2 sp v2 m s2 = some (t, w)) (h0 : t = 0 → P (2, [some (.ref 61), some (.ref sp), some (.int v2), some (.int w), none], [], (110, x), m)) (h1 : t = 1 → P (79, [none, none, none, none, none], [], (110, x), m)) (h2 : t = 2 → P (87, [none, none, none, none, none], [], (110, x), m)) : P (2, [some (.ref 61), some (.ref sp), some (.int v2), some (.int s2), none], [], (110, x), m) := by
  unfold si_fit_l2 at h
  rcases hsp with rfl | rfl | rfl
  all_goals
    refine mj_gcp hC 4 ?_
    show P (mj_pick 87 10 ((mj_I (m 61 0)) ≤ s2), [some (.ref 61), some (.ref _), some (.int v2), some (.int s2), none], [], (110, x), m)
    refine mj_pbr (fun c1 => ?_) (fun c1 => ?_)
    · rw [if_pos c1] at h
      cases h
      exact mj_less hC (L0 := [none, none, none, none, none]) trivial (h2 rfl)
    · rw [if_neg c1] at h
      refine mj_gcp hC 2 ?_
      show P (12, [some (.ref 61), some (.ref _), some (.int v2), some (.int s2), none], [.int s2, .int v2], (110, x), m)
      refine mj_pcall hC rfl (bp_has_x (Nat.le_trans (by decide) hd)) ?_
      show P (15, [some (.ref 61), some (.ref _), some (.int v2), some (.int s2), none], [.int (bp_has v2 s2 m)], (110, x), m)
      refine mj_gcp hC 1 ?_
      show P (mj_pick 81 18 ((bp_has v2 s2 m) = 0), [some (.ref 61), some (.ref _), some (.int v2), some (.int s2), none], [], (110, x), m)
      refine mj_pbr (fun c2 => ?_) (fun c2 => ?_)
      · rw [if_pos c2] at h
        exact mj_less hC (L0 := [some (.ref 61), some (.ref _), some (.int v2), some (.int s2), none]) (And.intro rfl (And.intro rfl (And.intro rfl (And.intro rfl trivial)))) (si_fit_j81l2_x hC hd (by decide) h h0 h1 h2)
      · rw [if_neg c2] at h
        refine mj_gcp hC 3 ?_
        show P (23, [some (.ref 61), some (.ref _), some (.int v2), some (.int s2), none], [.int s2, .ref 63], (110, x), m)
        refine mj_pcall hC rfl (bp_at_x (Nat.le_trans (by decide) hd) (by decide)) ?_
        show P (26, [some (.ref 61), some (.ref _), some (.int v2), some (.int s2), none], [.int (fx_at m 63 s2)], (110, x), m)
        refine mj_gcp hC 3 ?_
        show P (mj_pick 33 81 ((fx_at m 63 s2) = (mj_I (m _ 0))), [some (.ref 61), some (.ref _), some (.int v2), some (.int s2), none], [], (110, x), m)
        refine mj_pbr (fun c3 => ?_) (fun c3 => ?_)
        · rw [if_pos c3] at h
          refine mj_gcp hC 5 ?_
          show P (42, [some (.ref 61), some (.ref _), some (.int v2), some (.int s2), none], [.int s2, .ref 64, .ref _], (110, x), m)
          refine mj_pcall hC rfl (bp_at_x (Nat.le_trans (by decide) hd) (by decide)) ?_
          show P (45, [some (.ref 61), some (.ref _), some (.int v2), some (.int s2), none], [.int (fx_at m 64 s2), .ref _], (110, x), m)
          refine mj_pcall hC rfl (bp_at_x (Nat.le_trans (by decide) hd) (by decide)) ?_
          show P (48, [some (.ref 61), some (.ref _), some (.int v2), some (.int s2), none], [.int (fx_at m _ (fx_at m 64 s2))], (110, x), m)
          refine mj_gcp hC 3 ?_
          show P (53, [some (.ref 61), some (.ref _), some (.int v2), some (.int s2), none], [.int s2, .ref 65, .int (fx_at m _ (fx_at m 64 s2))], (110, x), m)
          refine mj_pcall hC rfl (bp_at_x (Nat.le_trans (by decide) hd) (by decide)) ?_
          show P (56, [some (.ref 61), some (.ref _), some (.int v2), some (.int s2), none], [.int (fx_at m 65 s2), .int (fx_at m _ (fx_at m 64 s2))], (110, x), m)
          refine mj_gcp hC 1 ?_
          show P (mj_pick 63 59 ((fx_at m _ (fx_at m 64 s2)) < (fx_at m 65 s2)), [some (.ref 61), some (.ref _), some (.int v2), some (.int s2), none], [], (110, x), m)
          refine mj_pbr (fun c4 => ?_) (fun c4 => ?_)
          · rw [if_pos c4] at h
            refine mj_gcp hC 1 ?_
            show P (64, [some (.ref 61), some (.ref _), some (.int v2), some (.int s2), none], [.int 0], (110, x), m)
            exact mj_less hC (L0 := [some (.ref 61), some (.ref _), some (.int v2), some (.int s2), none]) (And.intro rfl (And.intro rfl (And.intro rfl (And.intro rfl trivial)))) (si_fit_j64l2_x hC hd (by decide) h h0 h1 h2)
          · rw [if_neg c4] at h
            refine mj_gcp hC 2 ?_
            show P (64, [some (.ref 61), some (.ref _), some (.int v2), some (.int s2), none], [.int 1], (110, x), m)
            exact mj_less hC (L0 := [some (.ref 61), some (.ref _), some (.int v2), some (.int s2), none]) (And.intro rfl (And.intro rfl (And.intro rfl (And.intro rfl trivial)))) (si_fit_j64l2_x hC hd (by decide) h h0 h1 h2)
        · rw [if_neg c3] at h
          exact mj_less hC (L0 := [some (.ref 61), some (.ref _), some (.int v2), some (.int s2), none]) (And.intro rfl (And.intro rfl (And.intro rfl (And.intro rfl trivial)))) (si_fit_j81l2_x hC hd (by decide) h h0 h1 h2)
set_option maxRecDepth 20000 in
theorem si_fit_p {Ls tp ip x d : Nat} {Z : mj_X} {R : Option Value → mj_G → mj_M → Prop} {P : mj_K → Prop} (hC : mj_cls false (mj_sh Ls) (mj_rf tp ip) mj_dv mj_cd_152 (mj_Ex false (mj_sh Ls) (mj_rf tp ip) Z d) R P) (hd : 1 ≤ d) {sp : Nat} (hsp : sp = 42 ∨ sp = 47 ∨ sp = 52) {v2 : Int32} {m : mj_M} {r : Int32} (h : si_fit sp v2 m = some r) (hR : R (some (.int r)) (110, x) m) : P (0, [some (.ref 61), some (.ref sp), some (.int v2), none, none], [], (110, x), m) := by
  unfold si_fit at h
  rcases hsp with rfl | rfl | rfl
  all_goals
    refine mj_gcp hC 2 ?_
    show P (2, [some (.ref 61), some (.ref _), some (.int v2), some (.int 0), none], [], (110, x), m)
    obtain ⟨q6, eq6, h⟩ := mj_bnd h
    refine mj_less hC (L0 := [some (.ref 61), some (.ref _), some (.int v2), some (.int 0), none]) (And.intro rfl (And.intro rfl (And.intro rfl (And.intro rfl trivial)))) ?_
    refine mj_loop_P (A := fun z2 => P (2, [some (.ref 61), some (.ref _), some (.int v2), some (.int z2), none], [], (110, x), m)) (E := fun j z2 => (j = 0 → P (79, [none, none, none, none, none], [], (110, x), m)) ∧ (¬ j = 0 → P (87, [none, none, none, none, none], [], (110, x), m))) (fun zz t w hb h0 h1 => si_fit_l2_x hC hd (by decide) zz hb h0 (fun ht => (h1 0 ht).1 rfl) (fun ht => (h1 1 ht).2 (by decide))) mj_F _ q6 eq6 ⟨fun hj => ?_, fun hj => ?_⟩
    · rw [if_pos hj] at h
      refine mj_gcp hC 1 ?_
      show P (80, [none, none, none, none, none], [.int 0], (110, x), m)
      cases h
      exact mj_pret hC rfl hR
    · rw [if_neg hj] at h
      refine mj_gcp hC 1 ?_
      show P (88, [none, none, none, none, none], [.int 1], (110, x), m)
      cases h
      exact mj_pret hC rfl hR
set_option maxRecDepth 20000 in
theorem si_fit_x {Ls tp ip x d : Nat} {Z : mj_X} (hd : 2 ≤ d) {sp : Nat} (hsp : sp = 42 ∨ sp = 47 ∨ sp = 52) {v2 : Int32} {m : mj_M} {r : Int32} (h : si_fit sp v2 m = some r) : mj_Ex false (mj_sh Ls) (mj_rf tp ip) Z d 152 [.ref 61, .ref sp, .int v2] (110, x) m (some (.int r)) (110, x) m := by
  exact mj_Ex_of (cd := mj_cd_152) (L := [some (.ref 61), some (.ref sp), some (.int v2), none, none]) (by omega) (by decide) rfl (Nat.le_of_ble_eq_true rfl) rfl (fun P hC => si_fit_p hC (by omega) hsp h ⟨rfl, rfl, rfl⟩)
