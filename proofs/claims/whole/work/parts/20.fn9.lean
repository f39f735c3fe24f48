/-! FUNCTIONS OUT OF THE INSTRUCTIONS, AND THAT A RUN GIVES THEM (made by wip/whole/emit.py) -/
def bp_tryHours_l2 (tp : Nat) (v1 : Int32) (v2 : Int32) (s2 : (Int32 × mj_M)) : Option (Nat × (Int32 × mj_M)) :=
  (if v1 ≤ s2.1 then some (1, (s2.1, s2.2)) else
  (ck_pass tp 47 v2 s2.2).bind fun q2 =>
  some (0, ((s2.1 + 1), q2)))
def bp_tryHours (tp : Nat) (v1 : Int32) (v2 : Int32) (m : mj_M) : Option mj_M :=
  (mj_loop (bp_tryHours_l2 tp v1 v2) mj_F (0, m)).bind fun q3 =>
  some q3.2.2
set_option maxRecDepth 20000 in
theorem bp_tryHours_l2_x {Ls tp ip x d : Nat} {Z : mj_X} {R : Option Value → mj_G → mj_M → Prop} {P : mj_K → Prop} (hC : mj_cls false (mj_sh Ls) (mj_rf tp ip) mj_dv mj_cd_18 (mj_Ex false (mj_sh Ls) (mj_rf tp ip) Z d) R P) (hd : 6 ≤ d) (htp : tp = 3 ∨ tp = 17) {v1 : Int32} {v2 : Int32} (s2 : (Int32 × mj_M)) {t : Nat} {w : (Int32 × mj_M)} (h : bp_tryHours_l2 tp v1 v2 s2 = some (t, w)) (h0 : t = 0 → P (2, [some (.ref 1), some (.int v1), some (.int v2), some (.int w.1)], [], (110, x), w.2)) (h1 : t = 1 → P (25, [none, none, none, none], [], (110, x), w.2)) : P (2, [some (.ref 1), some (.int v1), some (.int v2), some (.int s2.1)], [], (110, x), s2.2) := by
  unfold bp_tryHours_l2 at h
  rcases htp with rfl | rfl
  all_goals
    refine mj_gcp hC 3 ?_
    show P (mj_pick 25 7 (v1 ≤ s2.1), [some (.ref 1), some (.int v1), some (.int v2), some (.int s2.1)], [], (110, x), s2.2)
    refine mj_pbr (fun c1 => ?_) (fun c1 => ?_)
    · rw [if_pos c1] at h
      cases h
      exact mj_less hC (L0 := [none, none, none, none]) trivial (h1 rfl)
    · rw [if_neg c1] at h
      refine mj_gcp hC 5 ?_
      show P (16, [some (.ref 1), some (.int v1), some (.int v2), some (.int s2.1)], [.int v2, .ref 47, .ref 37], (110, x), s2.2)
      obtain ⟨q2, eq2, h⟩ := mj_bnd h
      refine mj_pcall hC rfl (ck_pass_x (Nat.le_trans (by decide) hd) (by decide) (by decide) eq2) ?_
      show P (19, [some (.ref 1), some (.int v1), some (.int v2), some (.int s2.1)], [], (110, x), q2)
      refine mj_gcp hC 2 ?_
      show P (2, [some (.ref 1), some (.int v1), some (.int v2), some (.int (s2.1 + 1))], [], (110, x), q2)
      cases h
      exact mj_less hC (L0 := [some (.ref 1), some (.int v1), some (.int v2), some (.int (s2.1 + 1))]) (And.intro rfl (And.intro rfl (And.intro rfl (And.intro rfl trivial)))) (h0 rfl)
set_option maxRecDepth 20000 in
theorem bp_tryHours_p {Ls tp ip x d : Nat} {Z : mj_X} {R : Option Value → mj_G → mj_M → Prop} {P : mj_K → Prop} (hC : mj_cls false (mj_sh Ls) (mj_rf tp ip) mj_dv mj_cd_18 (mj_Ex false (mj_sh Ls) (mj_rf tp ip) Z d) R P) (hd : 6 ≤ d) (htp : tp = 3 ∨ tp = 17) {v1 : Int32} {v2 : Int32} {m : mj_M} {r : mj_M} (h : bp_tryHours tp v1 v2 m = some r) (hR : R none (110, x) r) : P (0, [some (.ref 1), some (.int v1), some (.int v2), none], [], (110, x), m) := by
  unfold bp_tryHours at h
  rcases htp with rfl | rfl
  all_goals
    refine mj_gcp hC 2 ?_
    show P (2, [some (.ref 1), some (.int v1), some (.int v2), some (.int 0)], [], (110, x), m)
    obtain ⟨q3, eq3, h⟩ := mj_bnd h
    refine mj_less hC (L0 := [some (.ref 1), some (.int v1), some (.int v2), some (.int 0)]) (And.intro rfl (And.intro rfl (And.intro rfl (And.intro rfl trivial)))) ?_
    refine mj_loop_P (A := fun z2 => P (2, [some (.ref 1), some (.int v1), some (.int v2), some (.int z2.1)], [], (110, x), z2.2)) (E := fun _ z2 => P (25, [none, none, none, none], [], (110, x), z2.2)) (fun zz t w hb h0 h1 => bp_tryHours_l2_x hC hd (by decide) zz hb h0 (fun ht => h1 0 ht)) mj_F _ q3 eq3 ?_
    cases h
    exact mj_pret hC rfl hR
set_option maxRecDepth 20000 in
theorem bp_tryHours_x {Ls tp ip x d : Nat} {Z : mj_X} (hd : 7 ≤ d) (htp : tp = 3 ∨ tp = 17) {v1 : Int32} {v2 : Int32} {m : mj_M} {r : mj_M} (h : bp_tryHours tp v1 v2 m = some r) : mj_Ex false (mj_sh Ls) (mj_rf tp ip) Z d 18 [.ref 1, .int v1, .int v2] (110, x) m none (110, x) r := by
  exact mj_Ex_of (cd := mj_cd_18) (L := [some (.ref 1), some (.int v1), some (.int v2), none]) (by omega) (by decide) rfl (Nat.le_of_ble_eq_true rfl) rfl (fun P hC => bp_tryHours_p hC (by omega) htp h ⟨rfl, rfl, rfl⟩)
def bp_done_l26 (tp : Nat) (v1 : Int32) (s26 : (Int32 × mj_M)) : Option (Nat × (Int32 × mj_M)) :=
  (if 200 < s26.1 then some (2, (s26.1, s26.2)) else
  (if (sa_isDone 47 v1 s26.2) = 0 then (ck_pass tp 47 1 s26.2).bind fun q5 =>
  some (0, ((s26.1 + 1), q5)) else
  some (1, (s26.1, s26.2))))
def bp_done (tp : Nat) (v1 : Int32) (m : mj_M) : Option (Int32 × mj_M) :=
  (if (to_isWork tp v1 m) = 0 then some ((-1), m) else
  (sa_copy 47 42 m).bind fun q2 =>
  (mj_loop (bp_done_l26 tp v1) mj_F (0, q2)).bind fun q6 =>
  (if q6.1 = 0 then some (q6.2.1, q6.2.2) else some ((-2), q6.2.2)))
set_option maxRecDepth 20000 in
theorem bp_done_l26_x {Ls tp ip x d : Nat} {Z : mj_X} {R : Option Value → mj_G → mj_M → Prop} {P : mj_K → Prop} (hC : mj_cls false (mj_sh Ls) (mj_rf tp ip) mj_dv mj_cd_19 (mj_Ex false (mj_sh Ls) (mj_rf tp ip) Z d) R P) (hd : 6 ≤ d) (htp : tp = 3 ∨ tp = 17) {v1 : Int32} (s26 : (Int32 × mj_M)) {t : Nat} {w : (Int32 × mj_M)} (h : bp_done_l26 tp v1 s26 = some (t, w)) (h0 : t = 0 → P (26, [some (.ref 1), some (.int v1), some (.int w.1)], [], (110, x), w.2)) (h1 : t = 1 → P (44, [none, none, some (.int w.1)], [], (110, x), w.2)) (h2 : t = 2 → P (64, [none, none, none], [], (110, x), w.2)) : P (26, [some (.ref 1), some (.int v1), some (.int s26.1)], [], (110, x), s26.2) := by
  unfold bp_done_l26 at h
  rcases htp with rfl | rfl
  all_goals
    refine mj_gcp hC 3 ?_
    show P (mj_pick 64 33 (200 < s26.1), [some (.ref 1), some (.int v1), some (.int s26.1)], [], (110, x), s26.2)
    refine mj_pbr (fun c3 => ?_) (fun c3 => ?_)
    · rw [if_pos c3] at h
      cases h
      exact mj_less hC (L0 := [none, none, none]) trivial (h2 rfl)
    · rw [if_neg c3] at h
      refine mj_gcp hC 3 ?_
      show P (38, [some (.ref 1), some (.int v1), some (.int s26.1)], [.int v1, .ref 47], (110, x), s26.2)
      refine mj_pcall hC rfl (sa_isDone_x (Nat.le_trans (by decide) hd) (by decide)) ?_
      show P (41, [some (.ref 1), some (.int v1), some (.int s26.1)], [.int (sa_isDone 47 v1 s26.2)], (110, x), s26.2)
      refine mj_gcp hC 1 ?_
      show P (mj_pick 46 44 ((sa_isDone 47 v1 s26.2) = 0), [some (.ref 1), some (.int v1), some (.int s26.1)], [], (110, x), s26.2)
      refine mj_pbr (fun c4 => ?_) (fun c4 => ?_)
      · rw [if_pos c4] at h
        refine mj_gcp hC 5 ?_
        show P (55, [some (.ref 1), some (.int v1), some (.int s26.1)], [.int 1, .ref 47, .ref 37], (110, x), s26.2)
        obtain ⟨q5, eq5, h⟩ := mj_bnd h
        refine mj_pcall hC rfl (ck_pass_x (Nat.le_trans (by decide) hd) (by decide) (by decide) eq5) ?_
        show P (58, [some (.ref 1), some (.int v1), some (.int s26.1)], [], (110, x), q5)
        refine mj_gcp hC 2 ?_
        show P (26, [some (.ref 1), some (.int v1), some (.int (s26.1 + 1))], [], (110, x), q5)
        cases h
        exact mj_less hC (L0 := [some (.ref 1), some (.int v1), some (.int (s26.1 + 1))]) (And.intro rfl (And.intro rfl (And.intro rfl trivial))) (h0 rfl)
      · rw [if_neg c4] at h
        cases h
        exact mj_less hC (L0 := [none, none, some (.int s26.1)]) (And.intro rfl trivial) (h1 rfl)
set_option maxRecDepth 20000 in
theorem bp_done_p {Ls tp ip x d : Nat} {Z : mj_X} {R : Option Value → mj_G → mj_M → Prop} {P : mj_K → Prop} (hC : mj_cls false (mj_sh Ls) (mj_rf tp ip) mj_dv mj_cd_19 (mj_Ex false (mj_sh Ls) (mj_rf tp ip) Z d) R P) (hd : 6 ≤ d) (htp : tp = 3 ∨ tp = 17) {v1 : Int32} {m : mj_M} {r : (Int32 × mj_M)} (h : bp_done tp v1 m = some r) (hR : R (some (.int r.1)) (110, x) r.2) : P (0, [some (.ref 1), some (.int v1), none], [], (110, x), m) := by
  unfold bp_done at h
  rcases htp with rfl | rfl
  all_goals
    refine mj_gcp hC 3 ?_
    show P (5, [some (.ref 1), some (.int v1), none], [.int v1, .ref _], (110, x), m)
    refine mj_pcall hC rfl (to_isWork_x (Nat.le_trans (by decide) hd) (by decide)) ?_
    show P (8, [some (.ref 1), some (.int v1), none], [.int (to_isWork _ v1 m)], (110, x), m)
    refine mj_gcp hC 1 ?_
    show P (mj_pick 11 13 ((to_isWork _ v1 m) = 0), [some (.ref 1), some (.int v1), none], [], (110, x), m)
    refine mj_pbr (fun c1 => ?_) (fun c1 => ?_)
    · rw [if_pos c1] at h
      refine mj_gcp hC 1 ?_
      show P (12, [some (.ref 1), some (.int v1), none], [.int (-1)], (110, x), m)
      cases h
      exact mj_pret hC rfl hR
    · rw [if_neg c1] at h
      refine mj_gcp hC 4 ?_
      show P (21, [some (.ref 1), some (.int v1), none], [.ref 42, .ref 47], (110, x), m)
      obtain ⟨q2, eq2, h⟩ := mj_bnd h
      refine mj_pcall hC rfl (sa_copy_x (Nat.le_trans (by decide) hd) (by decide) eq2) ?_
      show P (24, [some (.ref 1), some (.int v1), none], [], (110, x), q2)
      refine mj_gcp hC 2 ?_
      show P (26, [some (.ref 1), some (.int v1), some (.int 0)], [], (110, x), q2)
      obtain ⟨q6, eq6, h⟩ := mj_bnd h
      refine mj_less hC (L0 := [some (.ref 1), some (.int v1), some (.int 0)]) (And.intro rfl (And.intro rfl (And.intro rfl trivial))) ?_
      refine mj_loop_P (A := fun z26 => P (26, [some (.ref 1), some (.int v1), some (.int z26.1)], [], (110, x), z26.2)) (E := fun j z26 => (j = 0 → P (44, [none, none, some (.int z26.1)], [], (110, x), z26.2)) ∧ (¬ j = 0 → P (64, [none, none, none], [], (110, x), z26.2))) (fun zz t w hb h0 h1 => bp_done_l26_x hC hd (by decide) zz hb h0 (fun ht => (h1 0 ht).1 rfl) (fun ht => (h1 1 ht).2 (by decide))) mj_F _ q6 eq6 ⟨fun hj => ?_, fun hj => ?_⟩
      · rw [if_pos hj] at h
        refine mj_gcp hC 1 ?_
        show P (45, [none, none, some (.int q6.2.1)], [.int q6.2.1], (110, x), q6.2.2)
        cases h
        exact mj_pret hC rfl hR
      · rw [if_neg hj] at h
        refine mj_gcp hC 1 ?_
        show P (66, [none, none, none], [.int (-2)], (110, x), q6.2.2)
        cases h
        exact mj_pret hC rfl hR
set_option maxRecDepth 20000 in
theorem bp_done_x {Ls tp ip x d : Nat} {Z : mj_X} (hd : 7 ≤ d) (htp : tp = 3 ∨ tp = 17) {v1 : Int32} {m : mj_M} {r : (Int32 × mj_M)} (h : bp_done tp v1 m = some r) : mj_Ex false (mj_sh Ls) (mj_rf tp ip) Z d 19 [.ref 1, .int v1] (110, x) m (some (.int r.1)) (110, x) r.2 := by
  exact mj_Ex_of (cd := mj_cd_19) (L := [some (.ref 1), some (.int v1), none]) (by omega) (by decide) rfl (Nat.le_of_ble_eq_true rfl) rfl (fun P hC => bp_done_p hC (by omega) htp h ⟨rfl, rfl, rfl⟩)
def bp_stops_l13 (tp : Nat)  (s13 : (Int32 × mj_M)) : Option (Nat × (Int32 × mj_M)) :=
  (if 999 < s13.1 then some (2, (s13.1, s13.2)) else
  (if (mj_I (s13.2 47 1)) = 0 then some (1, (s13.1, s13.2)) else
  (ck_pass tp 47 1 s13.2).bind fun q4 =>
  some (0, ((s13.1 + 1), q4))))
def bp_stops (tp : Nat)  (m : mj_M) : Option (Int32 × mj_M) :=
  (sa_copy 47 42 m).bind fun q1 =>
  (mj_loop (bp_stops_l13 tp) mj_F (0, q1)).bind fun q5 =>
  (if q5.1 = 0 then some (q5.2.1, q5.2.2) else some ((-2), q5.2.2))
set_option maxRecDepth 20000 in
theorem bp_stops_l13_x {Ls tp ip x d : Nat} {Z : mj_X} {R : Option Value → mj_G → mj_M → Prop} {P : mj_K → Prop} (hC : mj_cls false (mj_sh Ls) (mj_rf tp ip) mj_dv mj_cd_20 (mj_Ex false (mj_sh Ls) (mj_rf tp ip) Z d) R P) (hd : 6 ≤ d) (htp : tp = 3 ∨ tp = 17)  (s13 : (Int32 × mj_M)) {t : Nat} {w : (Int32 × mj_M)} (h : bp_stops_l13 tp s13 = some (t, w)) (h0 : t = 0 → P (13, [some (.ref 1), some (.int w.1)], [], (110, x), w.2)) (h1 : t = 1 → P (30, [none, some (.int w.1)], [], (110, x), w.2)) (h2 : t = 2 → P (50, [none, none], [], (110, x), w.2)) : P (13, [some (.ref 1), some (.int s13.1)], [], (110, x), s13.2) := by
  unfold bp_stops_l13 at h
  rcases htp with rfl | rfl
  all_goals
    refine mj_gcp hC 3 ?_
    show P (mj_pick 50 20 (999 < s13.1), [some (.ref 1), some (.int s13.1)], [], (110, x), s13.2)
    refine mj_pbr (fun c2 => ?_) (fun c2 => ?_)
    · rw [if_pos c2] at h
      cases h
      exact mj_less hC (L0 := [none, none]) trivial (h2 rfl)
    · rw [if_neg c2] at h
      refine mj_gcp hC 4 ?_
      show P (mj_pick 30 32 ((mj_I (s13.2 47 1)) = 0), [some (.ref 1), some (.int s13.1)], [], (110, x), s13.2)
      refine mj_pbr (fun c3 => ?_) (fun c3 => ?_)
      · rw [if_pos c3] at h
        cases h
        exact mj_less hC (L0 := [none, some (.int s13.1)]) (And.intro rfl trivial) (h1 rfl)
      · rw [if_neg c3] at h
        refine mj_gcp hC 5 ?_
        show P (41, [some (.ref 1), some (.int s13.1)], [.int 1, .ref 47, .ref 37], (110, x), s13.2)
        obtain ⟨q4, eq4, h⟩ := mj_bnd h
        refine mj_pcall hC rfl (ck_pass_x (Nat.le_trans (by decide) hd) (by decide) (by decide) eq4) ?_
        show P (44, [some (.ref 1), some (.int s13.1)], [], (110, x), q4)
        refine mj_gcp hC 2 ?_
        show P (13, [some (.ref 1), some (.int (s13.1 + 1))], [], (110, x), q4)
        cases h
        exact mj_less hC (L0 := [some (.ref 1), some (.int (s13.1 + 1))]) (And.intro rfl (And.intro rfl trivial)) (h0 rfl)
set_option maxRecDepth 20000 in
theorem bp_stops_p {Ls tp ip x d : Nat} {Z : mj_X} {R : Option Value → mj_G → mj_M → Prop} {P : mj_K → Prop} (hC : mj_cls false (mj_sh Ls) (mj_rf tp ip) mj_dv mj_cd_20 (mj_Ex false (mj_sh Ls) (mj_rf tp ip) Z d) R P) (hd : 6 ≤ d) (htp : tp = 3 ∨ tp = 17)  {m : mj_M} {r : (Int32 × mj_M)} (h : bp_stops tp m = some r) (hR : R (some (.int r.1)) (110, x) r.2) : P (0, [some (.ref 1), none], [], (110, x), m) := by
  unfold bp_stops at h
  rcases htp with rfl | rfl
  all_goals
    refine mj_gcp hC 4 ?_
    show P (8, [some (.ref 1), none], [.ref 42, .ref 47], (110, x), m)
    obtain ⟨q1, eq1, h⟩ := mj_bnd h
    refine mj_pcall hC rfl (sa_copy_x (Nat.le_trans (by decide) hd) (by decide) eq1) ?_
    show P (11, [some (.ref 1), none], [], (110, x), q1)
    refine mj_gcp hC 2 ?_
    show P (13, [some (.ref 1), some (.int 0)], [], (110, x), q1)
    obtain ⟨q5, eq5, h⟩ := mj_bnd h
    refine mj_less hC (L0 := [some (.ref 1), some (.int 0)]) (And.intro rfl (And.intro rfl trivial)) ?_
    refine mj_loop_P (A := fun z13 => P (13, [some (.ref 1), some (.int z13.1)], [], (110, x), z13.2)) (E := fun j z13 => (j = 0 → P (30, [none, some (.int z13.1)], [], (110, x), z13.2)) ∧ (¬ j = 0 → P (50, [none, none], [], (110, x), z13.2))) (fun zz t w hb h0 h1 => bp_stops_l13_x hC hd (by decide) zz hb h0 (fun ht => (h1 0 ht).1 rfl) (fun ht => (h1 1 ht).2 (by decide))) mj_F _ q5 eq5 ⟨fun hj => ?_, fun hj => ?_⟩
    · rw [if_pos hj] at h
      refine mj_gcp hC 1 ?_
      show P (31, [none, some (.int q5.2.1)], [.int q5.2.1], (110, x), q5.2.2)
      cases h
      exact mj_pret hC rfl hR
    · rw [if_neg hj] at h
      refine mj_gcp hC 1 ?_
      show P (52, [none, none], [.int (-2)], (110, x), q5.2.2)
      cases h
      exact mj_pret hC rfl hR
set_option maxRecDepth 20000 in
theorem bp_stops_x {Ls tp ip x d : Nat} {Z : mj_X} (hd : 7 ≤ d) (htp : tp = 3 ∨ tp = 17)  {m : mj_M} {r : (Int32 × mj_M)} (h : bp_stops tp m = some r) : mj_Ex false (mj_sh Ls) (mj_rf tp ip) Z d 20 [.ref 1] (110, x) m (some (.int r.1)) (110, x) r.2 := by
  exact mj_Ex_of (cd := mj_cd_20) (L := [some (.ref 1), none]) (by omega) (by decide) rfl (Nat.le_of_ble_eq_true rfl) rfl (fun P hC => bp_stops_p hC (by omega) htp h ⟨rfl, rfl, rfl⟩)
def bp_tryPace_l21 (tp : Nat) (v1 : Int32) (s21 : (Int32 × mj_M)) : Option (Nat × (Int32 × mj_M)) :=
  (if v1 ≤ s21.1 then some (1, (s21.1, s21.2)) else
  (if (mj_I (s21.2 47 1)) ≤ 0 then some (1, (s21.1, s21.2)) else
  (ck_pass tp 47 1 s21.2).bind fun q4 =>
  some (0, ((s21.1 + 1), q4))))
def bp_tryPace_j54 (tp : Nat)   (m : mj_M) : Option mj_M :=
  some (mj_up m 37 1 (.int 0))
def bp_tryPace (tp : Nat) (v1 : Int32) (v2 : Int32) (m : mj_M) : Option mj_M :=
  (sa_copy 47 42 m).bind fun q1 =>
  (mj_loop (bp_tryPace_l21 tp v1) mj_F (0, (mj_up q1 37 1 (.int v2)))).bind fun q5 =>
  bp_tryPace_j54 tp q5.2.2
set_option maxRecDepth 20000 in
theorem bp_tryPace_l21_x {Ls tp ip x d : Nat} {Z : mj_X} {R : Option Value → mj_G → mj_M → Prop} {P : mj_K → Prop} (hC : mj_cls false (mj_sh Ls) (mj_rf tp ip) mj_dv mj_cd_22 (mj_Ex false (mj_sh Ls) (mj_rf tp ip) Z d) R P) (hd : 6 ≤ d) (htp : tp = 3 ∨ tp = 17) {v1 : Int32} (s21 : (Int32 × mj_M)) {t : Nat} {w : (Int32 × mj_M)} (h : bp_tryPace_l21 tp v1 s21 = some (t, w)) (h0 : t = 0 → P (21, [some (.ref 1), some (.int v1), none, some (.int w.1)], [], (110, x), w.2)) (h1 : t = 1 → P (54, [some (.ref 1), none, none, none], [], (110, x), w.2)) : P (21, [some (.ref 1), some (.int v1), none, some (.int s21.1)], [], (110, x), s21.2) := by
  unfold bp_tryPace_l21 at h
  rcases htp with rfl | rfl
  all_goals
    refine mj_gcp hC 3 ?_
    show P (mj_pick 54 26 (v1 ≤ s21.1), [some (.ref 1), some (.int v1), none, some (.int s21.1)], [], (110, x), s21.2)
    refine mj_pbr (fun c2 => ?_) (fun c2 => ?_)
    · rw [if_pos c2] at h
      cases h
      exact mj_less hC (L0 := [some (.ref 1), none, none, none]) (And.intro rfl trivial) (h1 rfl)
    · rw [if_neg c2] at h
      refine mj_gcp hC 4 ?_
      show P (mj_pick 54 36 ((mj_I (s21.2 47 1)) ≤ 0), [some (.ref 1), some (.int v1), none, some (.int s21.1)], [], (110, x), s21.2)
      refine mj_pbr (fun c3 => ?_) (fun c3 => ?_)
      · rw [if_pos c3] at h
        cases h
        exact mj_less hC (L0 := [some (.ref 1), none, none, none]) (And.intro rfl trivial) (h1 rfl)
      · rw [if_neg c3] at h
        refine mj_gcp hC 5 ?_
        show P (45, [some (.ref 1), some (.int v1), none, some (.int s21.1)], [.int 1, .ref 47, .ref 37], (110, x), s21.2)
        obtain ⟨q4, eq4, h⟩ := mj_bnd h
        refine mj_pcall hC rfl (ck_pass_x (Nat.le_trans (by decide) hd) (by decide) (by decide) eq4) ?_
        show P (48, [some (.ref 1), some (.int v1), none, some (.int s21.1)], [], (110, x), q4)
        refine mj_gcp hC 2 ?_
        show P (21, [some (.ref 1), some (.int v1), none, some (.int (s21.1 + 1))], [], (110, x), q4)
        cases h
        exact mj_less hC (L0 := [some (.ref 1), some (.int v1), none, some (.int (s21.1 + 1))]) (And.intro rfl (And.intro rfl (And.intro rfl trivial))) (h0 rfl)
set_option maxRecDepth 20000 in
theorem bp_tryPace_j54_x {Ls tp ip x d : Nat} {Z : mj_X} {R : Option Value → mj_G → mj_M → Prop} {P : mj_K → Prop} (hC : mj_cls false (mj_sh Ls) (mj_rf tp ip) mj_dv mj_cd_22 (mj_Ex false (mj_sh Ls) (mj_rf tp ip) Z d) R P) (hd : 6 ≤ d) (htp : tp = 3 ∨ tp = 17)   {m : mj_M} {r : mj_M} (h : bp_tryPace_j54 tp m = some r) (hR : R none (110, x) r) : P (54, [some (.ref 1), none, none, none], [], (110, x), m) := by
  unfold bp_tryPace_j54 at h
  rcases htp with rfl | rfl
  all_goals
    refine mj_gcp hC 4 ?_
    show P (62, [some (.ref 1), none, none, none], [], (110, x), (mj_up m 37 1 (.int 0)))
    cases h
    exact mj_pret hC rfl hR
set_option maxRecDepth 20000 in
theorem bp_tryPace_p {Ls tp ip x d : Nat} {Z : mj_X} {R : Option Value → mj_G → mj_M → Prop} {P : mj_K → Prop} (hC : mj_cls false (mj_sh Ls) (mj_rf tp ip) mj_dv mj_cd_22 (mj_Ex false (mj_sh Ls) (mj_rf tp ip) Z d) R P) (hd : 6 ≤ d) (htp : tp = 3 ∨ tp = 17) {v1 : Int32} {v2 : Int32} {m : mj_M} {r : mj_M} (h : bp_tryPace tp v1 v2 m = some r) (hR : R none (110, x) r) : P (0, [some (.ref 1), some (.int v1), some (.int v2), none], [], (110, x), m) := by
  unfold bp_tryPace at h
  rcases htp with rfl | rfl
  all_goals
    refine mj_gcp hC 4 ?_
    show P (8, [some (.ref 1), some (.int v1), some (.int v2), none], [.ref 42, .ref 47], (110, x), m)
    obtain ⟨q1, eq1, h⟩ := mj_bnd h
    refine mj_pcall hC rfl (sa_copy_x (Nat.le_trans (by decide) hd) (by decide) eq1) ?_
    show P (11, [some (.ref 1), some (.int v1), some (.int v2), none], [], (110, x), q1)
    refine mj_gcp hC 6 ?_
    show P (21, [some (.ref 1), some (.int v1), some (.int v2), some (.int 0)], [], (110, x), (mj_up q1 37 1 (.int v2)))
    obtain ⟨q5, eq5, h⟩ := mj_bnd h
    refine mj_less hC (L0 := [some (.ref 1), some (.int v1), none, some (.int 0)]) (And.intro rfl (And.intro rfl (And.intro rfl trivial))) ?_
    refine mj_loop_P (A := fun z21 => P (21, [some (.ref 1), some (.int v1), none, some (.int z21.1)], [], (110, x), z21.2)) (E := fun _ z21 => P (54, [some (.ref 1), none, none, none], [], (110, x), z21.2)) (fun zz t w hb h0 h1 => bp_tryPace_l21_x hC hd (by decide) zz hb h0 (fun ht => h1 0 ht)) mj_F _ q5 eq5 ?_
    exact mj_less hC (L0 := [some (.ref 1), none, none, none]) (And.intro rfl trivial) (bp_tryPace_j54_x hC hd (by decide) h hR)
set_option maxRecDepth 20000 in
theorem bp_tryPace_x {Ls tp ip x d : Nat} {Z : mj_X} (hd : 7 ≤ d) (htp : tp = 3 ∨ tp = 17) {v1 : Int32} {v2 : Int32} {m : mj_M} {r : mj_M} (h : bp_tryPace tp v1 v2 m = some r) : mj_Ex false (mj_sh Ls) (mj_rf tp ip) Z d 22 [.ref 1, .int v1, .int v2] (110, x) m none (110, x) r := by
  exact mj_Ex_of (cd := mj_cd_22) (L := [some (.ref 1), some (.int v1), some (.int v2), none]) (by omega) (by decide) rfl (Nat.le_of_ble_eq_true rfl) rfl (fun P hC => bp_tryPace_p hC (by omega) htp h ⟨rfl, rfl, rfl⟩)
