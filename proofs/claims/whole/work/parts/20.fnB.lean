/-! FUNCTIONS OUT OF THE INSTRUCTIONS, AND THAT A RUN GIVES THEM (made by wip/whole/emit.py) -/
def bp_chance_j93l37 (tp : Nat)  (v2 : Int32) (v3 : Int32) (v4 : Int32) (v5 : Int32) (v6 : Int32)  (m : mj_M) : Option (Nat × (Int32 × Int32 × Int32 × mj_M)) :=
  some (0, (v4, v5, (v6 + 1), m))
def bp_chance_l37 (tp : Nat) (v2 : Int32) (v3 : Int32) (s37 : (Int32 × Int32 × Int32 × mj_M)) : Option (Nat × (Int32 × Int32 × Int32 × mj_M)) :=
  (if 10 ≤ s37.2.2.1 then some (1, (s37.1, s37.2.1, s37.2.2.1, s37.2.2.2)) else
  (sa_copy 47 42 s37.2.2.2).bind fun q6 =>
  (bp_tryHours tp v2 0 (mj_up q6 47 3 (.int s37.1))).bind fun q7 =>
  (if (sa_isDone 47 v3 q7) = 0 then bp_chance_j93l37 tp v2 v3 (mj_I (q7 47 3)) s37.2.1 s37.2.2.1 q7 else
  bp_chance_j93l37 tp v2 v3 (mj_I (q7 47 3)) (s37.2.1 + 1) s37.2.2.1 q7))
def bp_chance (tp : Nat) (v1 : Int32) (v2 : Int32) (v3 : Int32) (m : mj_M) : Option (Int32 × mj_M) :=
  (if v1 < 0 then some ((-1), m) else
  (if v2 < 1 then some ((-1), m) else
  (if 99 < v2 then some ((-1), m) else
  (if (to_isWork tp v3 m) = 0 then some ((-1), m) else
  (mj_loop (bp_chance_l37 tp v2 v3) mj_F (v1, 0, 0, m)).bind fun q9 =>
  some (q9.2.2.1, q9.2.2.2.2)))))
set_option maxRecDepth 20000 in
theorem bp_chance_j93l37_x {Ls tp ip x d : Nat} {Z : mj_X} {R : Option Value → mj_G → mj_M → Prop} {P : mj_K → Prop} (hC : mj_cls false (mj_sh Ls) (mj_rf tp ip) mj_dv mj_cd_47 (mj_Ex false (mj_sh Ls) (mj_rf tp ip) Z d) R P) (hd : 7 ≤ d) (htp : tp = 3 ∨ tp = 17)  {v2 : Int32} {v3 : Int32} {v4 : Int32} {v5 : Int32} {v6 : Int32}  {m : mj_M} {t : Nat} {w : (Int32 × Int32 × Int32 × mj_M)} (h : bp_chance_j93l37 tp  v2 v3 v4 v5 v6 m = some (t, w)) (h0 : t = 0 → P (37, [some (.ref 1), none, some (.int v2), some (.int v3), some (.int w.1), some (.int w.2.1), some (.int w.2.2.1)], [], (110, x), w.2.2.2)) (h1 : t = 1 → P (99, [none, none, none, none, none, some (.int w.2.1), none], [], (110, x), w.2.2.2)) : P (93, [some (.ref 1), none, some (.int v2), some (.int v3), some (.int v4), some (.int v5), some (.int v6)], [], (110, x), m) := by
  unfold bp_chance_j93l37 at h
  rcases htp with rfl | rfl
  all_goals
    refine mj_gcp hC 2 ?_
    show P (37, [some (.ref 1), none, some (.int v2), some (.int v3), some (.int v4), some (.int v5), some (.int (v6 + 1))], [], (110, x), m)
    cases h
    exact mj_less hC (L0 := [some (.ref 1), none, some (.int v2), some (.int v3), some (.int v4), some (.int v5), some (.int (v6 + 1))]) (And.intro rfl (And.intro rfl (And.intro rfl (And.intro rfl (And.intro rfl (And.intro rfl trivial)))))) (h0 rfl)
set_option maxRecDepth 20000 in
theorem bp_chance_l37_x {Ls tp ip x d : Nat} {Z : mj_X} {R : Option Value → mj_G → mj_M → Prop} {P : mj_K → Prop} (hC : mj_cls false (mj_sh Ls) (mj_rf tp ip) mj_dv mj_cd_47 (mj_Ex false (mj_sh Ls) (mj_rf tp ip) Z d) R P) (hd : 7 ≤ d) (htp : tp = 3 ∨ tp = 17) {v2 : Int32} {v3 : Int32} (s37 : (Int32 × Int32 × Int32 × mj_M)) {t : Nat} {w : (Int32 × Int32 × Int32 × mj_M)} (h : bp_chance_l37 tp v2 v3 s37 = some (t, w)) (h0 : t = 0 → P (37, [some (.ref 1), none, some (.int v2), some (.int v3), some (.int w.1), some (.int w.2.1), some (.int w.2.2.1)], [], (110, x), w.2.2.2)) (h1 : t = 1 → P (99, [none, none, none, none, none, some (.int w.2.1), none], [], (110, x), w.2.2.2)) : P (37, [some (.ref 1), none, some (.int v2), some (.int v3), some (.int s37.1), some (.int s37.2.1), some (.int s37.2.2.1)], [], (110, x), s37.2.2.2) := by
  unfold bp_chance_l37 at h
  rcases htp with rfl | rfl
  all_goals
    refine mj_gcp hC 3 ?_
    show P (mj_pick 99 44 (10 ≤ s37.2.2.1), [some (.ref 1), none, some (.int v2), some (.int v3), some (.int s37.1), some (.int s37.2.1), some (.int s37.2.2.1)], [], (110, x), s37.2.2.2)
    refine mj_pbr (fun c5 => ?_) (fun c5 => ?_)
    · rw [if_pos c5] at h
      cases h
      exact mj_less hC (L0 := [none, none, none, none, none, some (.int s37.2.1), none]) (And.intro rfl trivial) (h1 rfl)
    · rw [if_neg c5] at h
      refine mj_gcp hC 4 ?_
      show P (52, [some (.ref 1), none, some (.int v2), some (.int v3), some (.int s37.1), some (.int s37.2.1), some (.int s37.2.2.1)], [.ref 42, .ref 47], (110, x), s37.2.2.2)
      obtain ⟨q6, eq6, h⟩ := mj_bnd h
      refine mj_pcall hC rfl (sa_copy_x (Nat.le_trans (by decide) hd) (by decide) eq6) ?_
      show P (55, [some (.ref 1), none, some (.int v2), some (.int v3), some (.int s37.1), some (.int s37.2.1), some (.int s37.2.2.1)], [], (110, x), q6)
      refine mj_gcp hC 7 ?_
      show P (67, [some (.ref 1), none, some (.int v2), some (.int v3), some (.int s37.1), some (.int s37.2.1), some (.int s37.2.2.1)], [.int 0, .int v2, .ref 1], (110, x), (mj_up q6 47 3 (.int s37.1)))
      obtain ⟨q7, eq7, h⟩ := mj_bnd h
      refine mj_pcall hC rfl (bp_tryHours_x (Nat.le_trans (by decide) hd) (by decide) eq7) ?_
      show P (70, [some (.ref 1), none, some (.int v2), some (.int v3), some (.int s37.1), some (.int s37.2.1), some (.int s37.2.2.1)], [], (110, x), q7)
      refine mj_gcp hC 7 ?_
      show P (84, [some (.ref 1), none, some (.int v2), some (.int v3), some (.int (mj_I (q7 47 3))), some (.int s37.2.1), some (.int s37.2.2.1)], [.int v3, .ref 47], (110, x), q7)
      refine mj_pcall hC rfl (sa_isDone_x (Nat.le_trans (by decide) hd) (by decide)) ?_
      show P (87, [some (.ref 1), none, some (.int v2), some (.int v3), some (.int (mj_I (q7 47 3))), some (.int s37.2.1), some (.int s37.2.2.1)], [.int (sa_isDone 47 v3 q7)], (110, x), q7)
      refine mj_gcp hC 1 ?_
      show P (mj_pick 93 90 ((sa_isDone 47 v3 q7) = 0), [some (.ref 1), none, some (.int v2), some (.int v3), some (.int (mj_I (q7 47 3))), some (.int s37.2.1), some (.int s37.2.2.1)], [], (110, x), q7)
      refine mj_pbr (fun c8 => ?_) (fun c8 => ?_)
      · rw [if_pos c8] at h
        exact mj_less hC (L0 := [some (.ref 1), none, some (.int v2), some (.int v3), some (.int (mj_I (q7 47 3))), some (.int s37.2.1), some (.int s37.2.2.1)]) (And.intro rfl (And.intro rfl (And.intro rfl (And.intro rfl (And.intro rfl (And.intro rfl trivial)))))) (bp_chance_j93l37_x hC hd (by decide) h h0 h1)
      · rw [if_neg c8] at h
        refine mj_gcp hC 1 ?_
        show P (93, [some (.ref 1), none, some (.int v2), some (.int v3), some (.int (mj_I (q7 47 3))), some (.int (s37.2.1 + 1)), some (.int s37.2.2.1)], [], (110, x), q7)
        exact mj_less hC (L0 := [some (.ref 1), none, some (.int v2), some (.int v3), some (.int (mj_I (q7 47 3))), some (.int (s37.2.1 + 1)), some (.int s37.2.2.1)]) (And.intro rfl (And.intro rfl (And.intro rfl (And.intro rfl (And.intro rfl (And.intro rfl trivial)))))) (bp_chance_j93l37_x hC hd (by decide) h h0 h1)
set_option maxRecDepth 20000 in
theorem bp_chance_p {Ls tp ip x d : Nat} {Z : mj_X} {R : Option Value → mj_G → mj_M → Prop} {P : mj_K → Prop} (hC : mj_cls false (mj_sh Ls) (mj_rf tp ip) mj_dv mj_cd_47 (mj_Ex false (mj_sh Ls) (mj_rf tp ip) Z d) R P) (hd : 7 ≤ d) (htp : tp = 3 ∨ tp = 17) {v1 : Int32} {v2 : Int32} {v3 : Int32} {m : mj_M} {r : (Int32 × mj_M)} (h : bp_chance tp v1 v2 v3 m = some r) (hR : R (some (.int r.1)) (110, x) r.2) : P (0, [some (.ref 1), some (.int v1), some (.int v2), some (.int v3), none, none, none], [], (110, x), m) := by
  unfold bp_chance at h
  rcases htp with rfl | rfl
  all_goals
    refine mj_gcp hC 2 ?_
    show P (mj_pick 26 4 (v1 < 0), [some (.ref 1), some (.int v1), some (.int v2), some (.int v3), none, none, none], [], (110, x), m)
    refine mj_pbr (fun c1 => ?_) (fun c1 => ?_)
    · rw [if_pos c1] at h
      refine mj_gcp hC 1 ?_
      show P (27, [some (.ref 1), some (.int v1), some (.int v2), some (.int v3), none, none, none], [.int (-1)], (110, x), m)
      cases h
      exact mj_pret hC rfl hR
    · rw [if_neg c1] at h
      refine mj_gcp hC 3 ?_
      show P (mj_pick 26 9 (v2 < 1), [some (.ref 1), some (.int v1), some (.int v2), some (.int v3), none, none, none], [], (110, x), m)
      refine mj_pbr (fun c2 => ?_) (fun c2 => ?_)
      · rw [if_pos c2] at h
        refine mj_gcp hC 1 ?_
        show P (27, [some (.ref 1), some (.int v1), some (.int v2), some (.int v3), none, none, none], [.int (-1)], (110, x), m)
        cases h
        exact mj_pret hC rfl hR
      · rw [if_neg c2] at h
        refine mj_gcp hC 3 ?_
        show P (mj_pick 26 15 (99 < v2), [some (.ref 1), some (.int v1), some (.int v2), some (.int v3), none, none, none], [], (110, x), m)
        refine mj_pbr (fun c3 => ?_) (fun c3 => ?_)
        · rw [if_pos c3] at h
          refine mj_gcp hC 1 ?_
          show P (27, [some (.ref 1), some (.int v1), some (.int v2), some (.int v3), none, none, none], [.int (-1)], (110, x), m)
          cases h
          exact mj_pret hC rfl hR
        · rw [if_neg c3] at h
          refine mj_gcp hC 3 ?_
          show P (20, [some (.ref 1), some (.int v1), some (.int v2), some (.int v3), none, none, none], [.int v3, .ref _], (110, x), m)
          refine mj_pcall hC rfl (to_isWork_x (Nat.le_trans (by decide) hd) (by decide)) ?_
          show P (23, [some (.ref 1), some (.int v1), some (.int v2), some (.int v3), none, none, none], [.int (to_isWork _ v3 m)], (110, x), m)
          refine mj_gcp hC 1 ?_
          show P (mj_pick 26 28 ((to_isWork _ v3 m) = 0), [some (.ref 1), some (.int v1), some (.int v2), some (.int v3), none, none, none], [], (110, x), m)
          refine mj_pbr (fun c4 => ?_) (fun c4 => ?_)
          · rw [if_pos c4] at h
            refine mj_gcp hC 1 ?_
            show P (27, [some (.ref 1), some (.int v1), some (.int v2), some (.int v3), none, none, none], [.int (-1)], (110, x), m)
            cases h
            exact mj_pret hC rfl hR
          · rw [if_neg c4] at h
            refine mj_gcp hC 6 ?_
            show P (37, [some (.ref 1), some (.int v1), some (.int v2), some (.int v3), some (.int v1), some (.int 0), some (.int 0)], [], (110, x), m)
            obtain ⟨q9, eq9, h⟩ := mj_bnd h
            refine mj_less hC (L0 := [some (.ref 1), none, some (.int v2), some (.int v3), some (.int v1), some (.int 0), some (.int 0)]) (And.intro rfl (And.intro rfl (And.intro rfl (And.intro rfl (And.intro rfl (And.intro rfl trivial)))))) ?_
            refine mj_loop_P (A := fun z37 => P (37, [some (.ref 1), none, some (.int v2), some (.int v3), some (.int z37.1), some (.int z37.2.1), some (.int z37.2.2.1)], [], (110, x), z37.2.2.2)) (E := fun _ z37 => P (99, [none, none, none, none, none, some (.int z37.2.1), none], [], (110, x), z37.2.2.2)) (fun zz t w hb h0 h1 => bp_chance_l37_x hC hd (by decide) zz hb h0 (fun ht => h1 0 ht)) mj_F _ q9 eq9 ?_
            refine mj_gcp hC 1 ?_
            show P (101, [none, none, none, none, none, some (.int q9.2.2.1), none], [.int q9.2.2.1], (110, x), q9.2.2.2.2)
            cases h
            exact mj_pret hC rfl hR
set_option maxRecDepth 20000 in
theorem bp_chance_x {Ls tp ip x d : Nat} {Z : mj_X} (hd : 8 ≤ d) (htp : tp = 3 ∨ tp = 17) {v1 : Int32} {v2 : Int32} {v3 : Int32} {m : mj_M} {r : (Int32 × mj_M)} (h : bp_chance tp v1 v2 v3 m = some r) : mj_Ex false (mj_sh Ls) (mj_rf tp ip) Z d 47 [.ref 1, .int v1, .int v2, .int v3] (110, x) m (some (.int r.1)) (110, x) r.2 := by
  exact mj_Ex_of (cd := mj_cd_47) (L := [some (.ref 1), some (.int v1), some (.int v2), some (.int v3), none, none, none]) (by omega) (by decide) rfl (Nat.le_of_ble_eq_true rfl) rfl (fun P hC => bp_chance_p hC (by omega) htp h ⟨rfl, rfl, rfl⟩)
def bp_tried_j148 (tp : Nat)  (s1 : Int32) (s2 : Int32) (m : mj_M) : Option (Int32 × mj_M) :=
  (bp_tryHours tp s1 s2 m).bind fun q10 =>
  (sa_allSlips 47 q10).bind fun q11 =>
  (sa_allSlips 42 q10).bind fun q12 =>
  some ((q11 - q12), q10)
def bp_tried_j137 (tp : Nat) (v1 : Int32) (v3 : Int32)  (m : mj_M) : Option (Int32 × mj_M) :=
  (if v1 = 0 then bp_tried_j148 tp v3 2 m else
  bp_tried_j148 tp v3 1 m)
def bp_tried_j44 (tp : Nat) (v1 : Int32) (v2 : Int32) (v3 : Int32)  (m : mj_M) : Option (Int32 × mj_M) :=
  (sa_copy 47 42 m).bind fun q7 =>
  (if v1 = 1 then bp_tried_j137 tp v1 v3 (fx_fill q7 49 0) else
  (if v1 = 2 then (sa_sendAway 47 v2 q7).bind fun q14 =>
  bp_tried_j137 tp v1 v3 q14 else
  (if v1 = 3 then bp_tried_j137 tp v1 v3 (mj_up q7 47 1 (.int 999)) else
  (if v1 = 4 then bp_tried_j137 tp v1 v3 (mj_up q7 47 2 (.int 0)) else
  bp_tried_j137 tp v1 v3 q7))))
def bp_tried (tp : Nat) (v1 : Int32) (v2 : Int32) (v3 : Int32) (m : mj_M) : Option (Int32 × mj_M) :=
  (if v1 < 0 then some ((-1), m) else
  (if 4 < v1 then some ((-1), m) else
  (if v3 < 0 then some ((-1), m) else
  (if 99 < v3 then some ((-1), m) else
  (if v1 = 2 then (if (to_isMan tp v2 m) = 0 then some ((-1), m) else
  bp_tried_j44 tp v1 v2 v3 m) else
  (if v2 = 0 then bp_tried_j44 tp v1 v2 v3 m else
  some ((-1), m)))))))
set_option maxRecDepth 20000 in
theorem bp_tried_j148_x {Ls tp ip x d : Nat} {Z : mj_X} {R : Option Value → mj_G → mj_M → Prop} {P : mj_K → Prop} (hC : mj_cls false (mj_sh Ls) (mj_rf tp ip) mj_dv mj_cd_48 (mj_Ex false (mj_sh Ls) (mj_rf tp ip) Z d) R P) (hd : 7 ≤ d) (htp : tp = 3 ∨ tp = 17)  {s1 : Int32} {s2 : Int32} {m : mj_M} {r : (Int32 × mj_M)} (h : bp_tried_j148 tp s1 s2 m = some r) (hR : R (some (.int r.1)) (110, x) r.2) : P (148, [some (.ref 1), none, none, none], [.int s2, .int s1, .ref 1], (110, x), m) := by
  unfold bp_tried_j148 at h
  rcases htp with rfl | rfl
  all_goals
    obtain ⟨q10, eq10, h⟩ := mj_bnd h
    refine mj_pcall hC rfl (bp_tryHours_x (Nat.le_trans (by decide) hd) (by decide) eq10) ?_
    show P (151, [some (.ref 1), none, none, none], [], (110, x), q10)
    refine mj_gcp hC 2 ?_
    show P (155, [some (.ref 1), none, none, none], [.ref 47], (110, x), q10)
    obtain ⟨q11, eq11, h⟩ := mj_bnd h
    refine mj_pcall hC rfl (sa_allSlips_x (Nat.le_trans (by decide) hd) (by decide) eq11) ?_
    show P (158, [some (.ref 1), none, none, none], [.int q11], (110, x), q10)
    refine mj_gcp hC 2 ?_
    show P (162, [some (.ref 1), none, none, none], [.ref 42, .int q11], (110, x), q10)
    obtain ⟨q12, eq12, h⟩ := mj_bnd h
    refine mj_pcall hC rfl (sa_allSlips_x (Nat.le_trans (by decide) hd) (by decide) eq12) ?_
    show P (165, [some (.ref 1), none, none, none], [.int q12, .int q11], (110, x), q10)
    refine mj_gcp hC 1 ?_
    show P (166, [some (.ref 1), none, none, none], [.int (q11 - q12)], (110, x), q10)
    cases h
    exact mj_pret hC rfl hR
set_option maxRecDepth 20000 in
theorem bp_tried_j137_x {Ls tp ip x d : Nat} {Z : mj_X} {R : Option Value → mj_G → mj_M → Prop} {P : mj_K → Prop} (hC : mj_cls false (mj_sh Ls) (mj_rf tp ip) mj_dv mj_cd_48 (mj_Ex false (mj_sh Ls) (mj_rf tp ip) Z d) R P) (hd : 7 ≤ d) (htp : tp = 3 ∨ tp = 17) {v1 : Int32} {v3 : Int32}  {m : mj_M} {r : (Int32 × mj_M)} (h : bp_tried_j137 tp v1 v3 m = some r) (hR : R (some (.int r.1)) (110, x) r.2) : P (137, [some (.ref 1), some (.int v1), none, some (.int v3)], [], (110, x), m) := by
  unfold bp_tried_j137 at h
  rcases htp with rfl | rfl
  all_goals
    refine mj_gcp hC 4 ?_
    show P (mj_pick 143 147 (v1 = 0), [some (.ref 1), some (.int v1), none, some (.int v3)], [.int v3, .ref 1], (110, x), m)
    refine mj_pbr (fun c9 => ?_) (fun c9 => ?_)
    · rw [if_pos c9] at h
      refine mj_gcp hC 2 ?_
      show P (148, [some (.ref 1), some (.int v1), none, some (.int v3)], [.int 2, .int v3, .ref 1], (110, x), m)
      exact mj_less hC (L0 := [some (.ref 1), none, none, none]) (And.intro rfl trivial) (bp_tried_j148_x hC hd (by decide) h hR)
    · rw [if_neg c9] at h
      refine mj_gcp hC 1 ?_
      show P (148, [some (.ref 1), some (.int v1), none, some (.int v3)], [.int 1, .int v3, .ref 1], (110, x), m)
      exact mj_less hC (L0 := [some (.ref 1), none, none, none]) (And.intro rfl trivial) (bp_tried_j148_x hC hd (by decide) h hR)
set_option maxRecDepth 20000 in
theorem bp_tried_j44_x {Ls tp ip x d : Nat} {Z : mj_X} {R : Option Value → mj_G → mj_M → Prop} {P : mj_K → Prop} (hC : mj_cls false (mj_sh Ls) (mj_rf tp ip) mj_dv mj_cd_48 (mj_Ex false (mj_sh Ls) (mj_rf tp ip) Z d) R P) (hd : 7 ≤ d) (htp : tp = 3 ∨ tp = 17) {v1 : Int32} {v2 : Int32} {v3 : Int32}  {m : mj_M} {r : (Int32 × mj_M)} (h : bp_tried_j44 tp v1 v2 v3 m = some r) (hR : R (some (.int r.1)) (110, x) r.2) : P (44, [some (.ref 1), some (.int v1), some (.int v2), some (.int v3)], [], (110, x), m) := by
  unfold bp_tried_j44 at h
  rcases htp with rfl | rfl
  all_goals
    refine mj_gcp hC 4 ?_
    show P (52, [some (.ref 1), some (.int v1), some (.int v2), some (.int v3)], [.ref 42, .ref 47], (110, x), m)
    obtain ⟨q7, eq7, h⟩ := mj_bnd h
    refine mj_pcall hC rfl (sa_copy_x (Nat.le_trans (by decide) hd) (by decide) eq7) ?_
    show P (55, [some (.ref 1), some (.int v1), some (.int v2), some (.int v3)], [], (110, x), q7)
    refine mj_gcp hC 2 ?_
    show P ((mj_sw v1 [(1, 88), (2, 102), (3, 113), (4, 126)] 137), [some (.ref 1), some (.int v1), some (.int v2), some (.int v3)], [], (110, x), q7)
    refine mj_psw (fun c8 => ?_) (fun c8 => ?_)
    · rw [if_pos c8] at h
      refine mj_gcp hC 4 ?_
      show P (96, [some (.ref 1), some (.int v1), some (.int v2), some (.int v3)], [.int 0, .ref 49], (110, x), q7)
      refine mj_pcall hC rfl (bp_fill_x (Nat.le_trans (by decide) hd) (by decide)) ?_
      show P (99, [some (.ref 1), some (.int v1), some (.int v2), some (.int v3)], [], (110, x), (fx_fill q7 49 0))
      refine mj_gcp hC 1 ?_
      show P (137, [some (.ref 1), some (.int v1), some (.int v2), some (.int v3)], [], (110, x), (fx_fill q7 49 0))
      exact mj_less hC (L0 := [some (.ref 1), some (.int v1), none, some (.int v3)]) (And.intro rfl (And.intro rfl (And.intro rfl trivial))) (bp_tried_j137_x hC hd (by decide) h hR)
    · rw [if_neg c8] at h
      refine mj_psw (fun c13 => ?_) (fun c13 => ?_)
      · rw [if_pos c13] at h
        refine mj_gcp hC 3 ?_
        show P (107, [some (.ref 1), some (.int v1), some (.int v2), some (.int v3)], [.int v2, .ref 47], (110, x), q7)
        obtain ⟨q14, eq14, h⟩ := mj_bnd h
        refine mj_pcall hC rfl (sa_sendAway_x (Nat.le_trans (by decide) hd) (by decide) eq14) ?_
        show P (110, [some (.ref 1), some (.int v1), some (.int v2), some (.int v3)], [], (110, x), q14)
        refine mj_gcp hC 1 ?_
        show P (137, [some (.ref 1), some (.int v1), some (.int v2), some (.int v3)], [], (110, x), q14)
        exact mj_less hC (L0 := [some (.ref 1), some (.int v1), none, some (.int v3)]) (And.intro rfl (And.intro rfl (And.intro rfl trivial))) (bp_tried_j137_x hC hd (by decide) h hR)
      · rw [if_neg c13] at h
        refine mj_psw (fun c15 => ?_) (fun c15 => ?_)
        · rw [if_pos c15] at h
          refine mj_gcp hC 5 ?_
          show P (137, [some (.ref 1), some (.int v1), some (.int v2), some (.int v3)], [], (110, x), (mj_up q7 47 1 (.int 999)))
          exact mj_less hC (L0 := [some (.ref 1), some (.int v1), none, some (.int v3)]) (And.intro rfl (And.intro rfl (And.intro rfl trivial))) (bp_tried_j137_x hC hd (by decide) h hR)
        · rw [if_neg c15] at h
          refine mj_psw (fun c16 => ?_) (fun c16 => ?_)
          · rw [if_pos c16] at h
            refine mj_gcp hC 5 ?_
            show P (137, [some (.ref 1), some (.int v1), some (.int v2), some (.int v3)], [], (110, x), (mj_up q7 47 2 (.int 0)))
            exact mj_less hC (L0 := [some (.ref 1), some (.int v1), none, some (.int v3)]) (And.intro rfl (And.intro rfl (And.intro rfl trivial))) (bp_tried_j137_x hC hd (by decide) h hR)
          · rw [if_neg c16] at h
            show P (137, [some (.ref 1), some (.int v1), some (.int v2), some (.int v3)], [], (110, x), q7)
            exact mj_less hC (L0 := [some (.ref 1), some (.int v1), none, some (.int v3)]) (And.intro rfl (And.intro rfl (And.intro rfl trivial))) (bp_tried_j137_x hC hd (by decide) h hR)
set_option maxRecDepth 20000 in
theorem bp_tried_p {Ls tp ip x d : Nat} {Z : mj_X} {R : Option Value → mj_G → mj_M → Prop} {P : mj_K → Prop} (hC : mj_cls false (mj_sh Ls) (mj_rf tp ip) mj_dv mj_cd_48 (mj_Ex false (mj_sh Ls) (mj_rf tp ip) Z d) R P) (hd : 7 ≤ d) (htp : tp = 3 ∨ tp = 17) {v1 : Int32} {v2 : Int32} {v3 : Int32} {m : mj_M} {r : (Int32 × mj_M)} (h : bp_tried tp v1 v2 v3 m = some r) (hR : R (some (.int r.1)) (110, x) r.2) : P (0, [some (.ref 1), some (.int v1), some (.int v2), some (.int v3)], [], (110, x), m) := by
  unfold bp_tried at h
  rcases htp with rfl | rfl
  all_goals
    refine mj_gcp hC 2 ?_
    show P (mj_pick 42 4 (v1 < 0), [some (.ref 1), some (.int v1), some (.int v2), some (.int v3)], [], (110, x), m)
    refine mj_pbr (fun c1 => ?_) (fun c1 => ?_)
    · rw [if_pos c1] at h
      refine mj_gcp hC 1 ?_
      show P (43, [some (.ref 1), some (.int v1), some (.int v2), some (.int v3)], [.int (-1)], (110, x), m)
      cases h
      exact mj_pret hC rfl hR
    · rw [if_neg c1] at h
      refine mj_gcp hC 3 ?_
      show P (mj_pick 42 9 (4 < v1), [some (.ref 1), some (.int v1), some (.int v2), some (.int v3)], [], (110, x), m)
      refine mj_pbr (fun c2 => ?_) (fun c2 => ?_)
      · rw [if_pos c2] at h
        refine mj_gcp hC 1 ?_
        show P (43, [some (.ref 1), some (.int v1), some (.int v2), some (.int v3)], [.int (-1)], (110, x), m)
        cases h
        exact mj_pret hC rfl hR
      · rw [if_neg c2] at h
        refine mj_gcp hC 2 ?_
        show P (mj_pick 42 13 (v3 < 0), [some (.ref 1), some (.int v1), some (.int v2), some (.int v3)], [], (110, x), m)
        refine mj_pbr (fun c3 => ?_) (fun c3 => ?_)
        · rw [if_pos c3] at h
          refine mj_gcp hC 1 ?_
          show P (43, [some (.ref 1), some (.int v1), some (.int v2), some (.int v3)], [.int (-1)], (110, x), m)
          cases h
          exact mj_pret hC rfl hR
        · rw [if_neg c3] at h
          refine mj_gcp hC 3 ?_
          show P (mj_pick 42 19 (99 < v3), [some (.ref 1), some (.int v1), some (.int v2), some (.int v3)], [], (110, x), m)
          refine mj_pbr (fun c4 => ?_) (fun c4 => ?_)
          · rw [if_pos c4] at h
            refine mj_gcp hC 1 ?_
            show P (43, [some (.ref 1), some (.int v1), some (.int v2), some (.int v3)], [.int (-1)], (110, x), m)
            cases h
            exact mj_pret hC rfl hR
          · rw [if_neg c4] at h
            refine mj_gcp hC 3 ?_
            show P (mj_pick 24 38 (v1 = 2), [some (.ref 1), some (.int v1), some (.int v2), some (.int v3)], [], (110, x), m)
            refine mj_pbr (fun c5 => ?_) (fun c5 => ?_)
            · rw [if_pos c5] at h
              refine mj_gcp hC 3 ?_
              show P (29, [some (.ref 1), some (.int v1), some (.int v2), some (.int v3)], [.int v2, .ref _], (110, x), m)
              refine mj_pcall hC rfl (to_isMan_x (Nat.le_trans (by decide) hd) (by decide)) ?_
              show P (32, [some (.ref 1), some (.int v1), some (.int v2), some (.int v3)], [.int (to_isMan _ v2 m)], (110, x), m)
              refine mj_gcp hC 1 ?_
              show P (mj_pick 35 44 ((to_isMan _ v2 m) = 0), [some (.ref 1), some (.int v1), some (.int v2), some (.int v3)], [], (110, x), m)
              refine mj_pbr (fun c6 => ?_) (fun c6 => ?_)
              · rw [if_pos c6] at h
                refine mj_gcp hC 1 ?_
                show P (42, [some (.ref 1), some (.int v1), some (.int v2), some (.int v3)], [], (110, x), m)
                refine mj_gcp hC 1 ?_
                show P (43, [some (.ref 1), some (.int v1), some (.int v2), some (.int v3)], [.int (-1)], (110, x), m)
                cases h
                exact mj_pret hC rfl hR
              · rw [if_neg c6] at h
                exact mj_less hC (L0 := [some (.ref 1), some (.int v1), some (.int v2), some (.int v3)]) (And.intro rfl (And.intro rfl (And.intro rfl (And.intro rfl trivial)))) (bp_tried_j44_x hC hd (by decide) h hR)
            · rw [if_neg c5] at h
              refine mj_gcp hC 2 ?_
              show P (mj_pick 44 42 (v2 = 0), [some (.ref 1), some (.int v1), some (.int v2), some (.int v3)], [], (110, x), m)
              refine mj_pbr (fun c17 => ?_) (fun c17 => ?_)
              · rw [if_pos c17] at h
                exact mj_less hC (L0 := [some (.ref 1), some (.int v1), some (.int v2), some (.int v3)]) (And.intro rfl (And.intro rfl (And.intro rfl (And.intro rfl trivial)))) (bp_tried_j44_x hC hd (by decide) h hR)
              · rw [if_neg c17] at h
                refine mj_gcp hC 1 ?_
                show P (43, [some (.ref 1), some (.int v1), some (.int v2), some (.int v3)], [.int (-1)], (110, x), m)
                cases h
                exact mj_pret hC rfl hR
set_option maxRecDepth 20000 in
theorem bp_tried_x {Ls tp ip x d : Nat} {Z : mj_X} (hd : 8 ≤ d) (htp : tp = 3 ∨ tp = 17) {v1 : Int32} {v2 : Int32} {v3 : Int32} {m : mj_M} {r : (Int32 × mj_M)} (h : bp_tried tp v1 v2 v3 m = some r) : mj_Ex false (mj_sh Ls) (mj_rf tp ip) Z d 48 [.ref 1, .int v1, .int v2, .int v3] (110, x) m (some (.int r.1)) (110, x) r.2 := by
  exact mj_Ex_of (cd := mj_cd_48) (L := [some (.ref 1), some (.int v1), some (.int v2), some (.int v3)]) (by omega) (by decide) rfl (Nat.le_of_ble_eq_true rfl) rfl (fun P hC => bp_tried_p hC (by omega) htp h ⟨rfl, rfl, rfl⟩)
def bp_ahead_j55 (tp : Nat) (v1 : Int32) (v2 : Int32) (v3 : Int32)  (m : mj_M) : Option (Int32 × mj_M) :=
  (sa_copy 47 42 m).bind fun q9 =>
  (bp_tryHours tp v1 1 q9).bind fun q10 =>
  (if v2 = 0 then some ((fx_at q10 50 v3), q10) else
  (if v2 = 1 then some (((fx_at q10 48 v3) - (fx_at q10 43 v3)), q10) else
  (if v2 = 2 then some ((mj_I (q10 47 1)), q10) else
  (sa_doneCount 47 (mj_I (q10 tp 5)) q10).bind fun q14 =>
  (sa_doneCount 42 (mj_I (q10 tp 5)) q10).bind fun q15 =>
  some ((q14 - q15), q10))))
def bp_ahead_j37 (tp : Nat) (v1 : Int32) (v2 : Int32) (v3 : Int32)  (m : mj_M) : Option (Int32 × mj_M) :=
  (if v2 = 1 then (if (to_isMan tp v3 m) = 0 then some ((-1), m) else
  bp_ahead_j55 tp v1 v2 v3 m) else
  bp_ahead_j55 tp v1 v2 v3 m)
def bp_ahead (tp : Nat) (v1 : Int32) (v2 : Int32) (v3 : Int32) (m : mj_M) : Option (Int32 × mj_M) :=
  (if v1 < 0 then some ((-1), m) else
  (if 200 < v1 then some ((-1), m) else
  (if v2 < 0 then some ((-1), m) else
  (if v2 ≤ 3 then (if v2 = 0 then (if (to_isWork tp v3 m) = 0 then some ((-1), m) else
  bp_ahead_j37 tp v1 v2 v3 m) else
  bp_ahead_j37 tp v1 v2 v3 m) else
  some ((-1), m)))))
set_option maxRecDepth 20000 in
theorem bp_ahead_j55_x {Ls tp ip x d : Nat} {Z : mj_X} {R : Option Value → mj_G → mj_M → Prop} {P : mj_K → Prop} (hC : mj_cls false (mj_sh Ls) (mj_rf tp ip) mj_dv mj_cd_17 (mj_Ex false (mj_sh Ls) (mj_rf tp ip) Z d) R P) (hd : 7 ≤ d) (htp : tp = 3 ∨ tp = 17) {v1 : Int32} {v2 : Int32} {v3 : Int32}  {m : mj_M} {r : (Int32 × mj_M)} (h : bp_ahead_j55 tp v1 v2 v3 m = some r) (hR : R (some (.int r.1)) (110, x) r.2) : P (55, [some (.ref 1), some (.int v1), some (.int v2), some (.int v3)], [], (110, x), m) := by
  unfold bp_ahead_j55 at h
  rcases htp with rfl | rfl
  all_goals
    refine mj_gcp hC 4 ?_
    show P (63, [some (.ref 1), some (.int v1), some (.int v2), some (.int v3)], [.ref 42, .ref 47], (110, x), m)
    obtain ⟨q9, eq9, h⟩ := mj_bnd h
    refine mj_pcall hC rfl (sa_copy_x (Nat.le_trans (by decide) hd) (by decide) eq9) ?_
    show P (66, [some (.ref 1), some (.int v1), some (.int v2), some (.int v3)], [], (110, x), q9)
    refine mj_gcp hC 3 ?_
    show P (69, [some (.ref 1), some (.int v1), some (.int v2), some (.int v3)], [.int 1, .int v1, .ref 1], (110, x), q9)
    obtain ⟨q10, eq10, h⟩ := mj_bnd h
    refine mj_pcall hC rfl (bp_tryHours_x (Nat.le_trans (by decide) hd) (by decide) eq10) ?_
    show P (72, [some (.ref 1), some (.int v1), some (.int v2), some (.int v3)], [], (110, x), q10)
    refine mj_gcp hC 2 ?_
    show P ((mj_sw v2 [(0, 100), (1, 112), (2, 136)] 144), [some (.ref 1), some (.int v1), some (.int v2), some (.int v3)], [], (110, x), q10)
    refine mj_psw (fun c11 => ?_) (fun c11 => ?_)
    · rw [if_pos c11] at h
      refine mj_gcp hC 4 ?_
      show P (108, [some (.ref 1), some (.int v1), some (.int v2), some (.int v3)], [.int v3, .ref 50], (110, x), q10)
      refine mj_pcall hC rfl (bp_at_x (Nat.le_trans (by decide) hd) (by decide)) ?_
      show P (111, [some (.ref 1), some (.int v1), some (.int v2), some (.int v3)], [.int (fx_at q10 50 v3)], (110, x), q10)
      cases h
      exact mj_pret hC rfl hR
    · rw [if_neg c11] at h
      refine mj_psw (fun c12 => ?_) (fun c12 => ?_)
      · rw [if_pos c12] at h
        refine mj_gcp hC 4 ?_
        show P (120, [some (.ref 1), some (.int v1), some (.int v2), some (.int v3)], [.int v3, .ref 48], (110, x), q10)
        refine mj_pcall hC rfl (bp_at_x (Nat.le_trans (by decide) hd) (by decide)) ?_
        show P (123, [some (.ref 1), some (.int v1), some (.int v2), some (.int v3)], [.int (fx_at q10 48 v3)], (110, x), q10)
        refine mj_gcp hC 4 ?_
        show P (131, [some (.ref 1), some (.int v1), some (.int v2), some (.int v3)], [.int v3, .ref 43, .int (fx_at q10 48 v3)], (110, x), q10)
        refine mj_pcall hC rfl (bp_at_x (Nat.le_trans (by decide) hd) (by decide)) ?_
        show P (134, [some (.ref 1), some (.int v1), some (.int v2), some (.int v3)], [.int (fx_at q10 43 v3), .int (fx_at q10 48 v3)], (110, x), q10)
        refine mj_gcp hC 1 ?_
        show P (135, [some (.ref 1), some (.int v1), some (.int v2), some (.int v3)], [.int ((fx_at q10 48 v3) - (fx_at q10 43 v3))], (110, x), q10)
        cases h
        exact mj_pret hC rfl hR
      · rw [if_neg c12] at h
        refine mj_psw (fun c13 => ?_) (fun c13 => ?_)
        · rw [if_pos c13] at h
          refine mj_gcp hC 3 ?_
          show P (143, [some (.ref 1), some (.int v1), some (.int v2), some (.int v3)], [.int (mj_I (q10 47 1))], (110, x), q10)
          cases h
          exact mj_pret hC rfl hR
        · rw [if_neg c13] at h
          show P (144, [some (.ref 1), some (.int v1), some (.int v2), some (.int v3)], [], (110, x), q10)
          refine mj_gcp hC 5 ?_
          show P (155, [some (.ref 1), some (.int v1), some (.int v2), some (.int v3)], [.int (mj_I (q10 _ 5)), .ref 47], (110, x), q10)
          obtain ⟨q14, eq14, h⟩ := mj_bnd h
          refine mj_pcall hC rfl (sa_doneCount_x (Nat.le_trans (by decide) hd) (by decide) eq14) ?_
          show P (158, [some (.ref 1), some (.int v1), some (.int v2), some (.int v3)], [.int q14], (110, x), q10)
          refine mj_gcp hC 5 ?_
          show P (169, [some (.ref 1), some (.int v1), some (.int v2), some (.int v3)], [.int (mj_I (q10 _ 5)), .ref 42, .int q14], (110, x), q10)
          obtain ⟨q15, eq15, h⟩ := mj_bnd h
          refine mj_pcall hC rfl (sa_doneCount_x (Nat.le_trans (by decide) hd) (by decide) eq15) ?_
          show P (172, [some (.ref 1), some (.int v1), some (.int v2), some (.int v3)], [.int q15, .int q14], (110, x), q10)
          refine mj_gcp hC 1 ?_
          show P (173, [some (.ref 1), some (.int v1), some (.int v2), some (.int v3)], [.int (q14 - q15)], (110, x), q10)
          cases h
          exact mj_pret hC rfl hR
set_option maxRecDepth 20000 in
theorem bp_ahead_j37_x {Ls tp ip x d : Nat} {Z : mj_X} {R : Option Value → mj_G → mj_M → Prop} {P : mj_K → Prop} (hC : mj_cls false (mj_sh Ls) (mj_rf tp ip) mj_dv mj_cd_17 (mj_Ex false (mj_sh Ls) (mj_rf tp ip) Z d) R P) (hd : 7 ≤ d) (htp : tp = 3 ∨ tp = 17) {v1 : Int32} {v2 : Int32} {v3 : Int32}  {m : mj_M} {r : (Int32 × mj_M)} (h : bp_ahead_j37 tp v1 v2 v3 m = some r) (hR : R (some (.int r.1)) (110, x) r.2) : P (37, [some (.ref 1), some (.int v1), some (.int v2), some (.int v3)], [], (110, x), m) := by
  unfold bp_ahead_j37 at h
  rcases htp with rfl | rfl
  all_goals
    refine mj_gcp hC 3 ?_
    show P (mj_pick 42 55 (v2 = 1), [some (.ref 1), some (.int v1), some (.int v2), some (.int v3)], [], (110, x), m)
    refine mj_pbr (fun c7 => ?_) (fun c7 => ?_)
    · rw [if_pos c7] at h
      refine mj_gcp hC 3 ?_
      show P (47, [some (.ref 1), some (.int v1), some (.int v2), some (.int v3)], [.int v3, .ref _], (110, x), m)
      refine mj_pcall hC rfl (to_isMan_x (Nat.le_trans (by decide) hd) (by decide)) ?_
      show P (50, [some (.ref 1), some (.int v1), some (.int v2), some (.int v3)], [.int (to_isMan _ v3 m)], (110, x), m)
      refine mj_gcp hC 1 ?_
      show P (mj_pick 53 55 ((to_isMan _ v3 m) = 0), [some (.ref 1), some (.int v1), some (.int v2), some (.int v3)], [], (110, x), m)
      refine mj_pbr (fun c8 => ?_) (fun c8 => ?_)
      · rw [if_pos c8] at h
        refine mj_gcp hC 1 ?_
        show P (54, [some (.ref 1), some (.int v1), some (.int v2), some (.int v3)], [.int (-1)], (110, x), m)
        cases h
        exact mj_pret hC rfl hR
      · rw [if_neg c8] at h
        exact mj_less hC (L0 := [some (.ref 1), some (.int v1), some (.int v2), some (.int v3)]) (And.intro rfl (And.intro rfl (And.intro rfl (And.intro rfl trivial)))) (bp_ahead_j55_x hC hd (by decide) h hR)
    · rw [if_neg c7] at h
      exact mj_less hC (L0 := [some (.ref 1), some (.int v1), some (.int v2), some (.int v3)]) (And.intro rfl (And.intro rfl (And.intro rfl (And.intro rfl trivial)))) (bp_ahead_j55_x hC hd (by decide) h hR)
set_option maxRecDepth 20000 in
theorem bp_ahead_p {Ls tp ip x d : Nat} {Z : mj_X} {R : Option Value → mj_G → mj_M → Prop} {P : mj_K → Prop} (hC : mj_cls false (mj_sh Ls) (mj_rf tp ip) mj_dv mj_cd_17 (mj_Ex false (mj_sh Ls) (mj_rf tp ip) Z d) R P) (hd : 7 ≤ d) (htp : tp = 3 ∨ tp = 17) {v1 : Int32} {v2 : Int32} {v3 : Int32} {m : mj_M} {r : (Int32 × mj_M)} (h : bp_ahead tp v1 v2 v3 m = some r) (hR : R (some (.int r.1)) (110, x) r.2) : P (0, [some (.ref 1), some (.int v1), some (.int v2), some (.int v3)], [], (110, x), m) := by
  unfold bp_ahead at h
  rcases htp with rfl | rfl
  all_goals
    refine mj_gcp hC 2 ?_
    show P (mj_pick 20 4 (v1 < 0), [some (.ref 1), some (.int v1), some (.int v2), some (.int v3)], [], (110, x), m)
    refine mj_pbr (fun c1 => ?_) (fun c1 => ?_)
    · rw [if_pos c1] at h
      refine mj_gcp hC 1 ?_
      show P (21, [some (.ref 1), some (.int v1), some (.int v2), some (.int v3)], [.int (-1)], (110, x), m)
      cases h
      exact mj_pret hC rfl hR
    · rw [if_neg c1] at h
      refine mj_gcp hC 3 ?_
      show P (mj_pick 20 11 (200 < v1), [some (.ref 1), some (.int v1), some (.int v2), some (.int v3)], [], (110, x), m)
      refine mj_pbr (fun c2 => ?_) (fun c2 => ?_)
      · rw [if_pos c2] at h
        refine mj_gcp hC 1 ?_
        show P (21, [some (.ref 1), some (.int v1), some (.int v2), some (.int v3)], [.int (-1)], (110, x), m)
        cases h
        exact mj_pret hC rfl hR
      · rw [if_neg c2] at h
        refine mj_gcp hC 2 ?_
        show P (mj_pick 20 15 (v2 < 0), [some (.ref 1), some (.int v1), some (.int v2), some (.int v3)], [], (110, x), m)
        refine mj_pbr (fun c3 => ?_) (fun c3 => ?_)
        · rw [if_pos c3] at h
          refine mj_gcp hC 1 ?_
          show P (21, [some (.ref 1), some (.int v1), some (.int v2), some (.int v3)], [.int (-1)], (110, x), m)
          cases h
          exact mj_pret hC rfl hR
        · rw [if_neg c3] at h
          refine mj_gcp hC 3 ?_
          show P (mj_pick 22 20 (v2 ≤ 3), [some (.ref 1), some (.int v1), some (.int v2), some (.int v3)], [], (110, x), m)
          refine mj_pbr (fun c4 => ?_) (fun c4 => ?_)
          · rw [if_pos c4] at h
            refine mj_gcp hC 2 ?_
            show P (mj_pick 26 37 (v2 = 0), [some (.ref 1), some (.int v1), some (.int v2), some (.int v3)], [], (110, x), m)
            refine mj_pbr (fun c5 => ?_) (fun c5 => ?_)
            · rw [if_pos c5] at h
              refine mj_gcp hC 3 ?_
              show P (31, [some (.ref 1), some (.int v1), some (.int v2), some (.int v3)], [.int v3, .ref _], (110, x), m)
              refine mj_pcall hC rfl (to_isWork_x (Nat.le_trans (by decide) hd) (by decide)) ?_
              show P (34, [some (.ref 1), some (.int v1), some (.int v2), some (.int v3)], [.int (to_isWork _ v3 m)], (110, x), m)
              refine mj_gcp hC 1 ?_
              show P (mj_pick 53 37 ((to_isWork _ v3 m) = 0), [some (.ref 1), some (.int v1), some (.int v2), some (.int v3)], [], (110, x), m)
              refine mj_pbr (fun c6 => ?_) (fun c6 => ?_)
              · rw [if_pos c6] at h
                refine mj_gcp hC 1 ?_
                show P (54, [some (.ref 1), some (.int v1), some (.int v2), some (.int v3)], [.int (-1)], (110, x), m)
                cases h
                exact mj_pret hC rfl hR
              · rw [if_neg c6] at h
                exact mj_less hC (L0 := [some (.ref 1), some (.int v1), some (.int v2), some (.int v3)]) (And.intro rfl (And.intro rfl (And.intro rfl (And.intro rfl trivial)))) (bp_ahead_j37_x hC hd (by decide) h hR)
            · rw [if_neg c5] at h
              exact mj_less hC (L0 := [some (.ref 1), some (.int v1), some (.int v2), some (.int v3)]) (And.intro rfl (And.intro rfl (And.intro rfl (And.intro rfl trivial)))) (bp_ahead_j37_x hC hd (by decide) h hR)
          · rw [if_neg c4] at h
            refine mj_gcp hC 1 ?_
            show P (21, [some (.ref 1), some (.int v1), some (.int v2), some (.int v3)], [.int (-1)], (110, x), m)
            cases h
            exact mj_pret hC rfl hR
set_option maxRecDepth 20000 in
theorem bp_ahead_x {Ls tp ip x d : Nat} {Z : mj_X} (hd : 8 ≤ d) (htp : tp = 3 ∨ tp = 17) {v1 : Int32} {v2 : Int32} {v3 : Int32} {m : mj_M} {r : (Int32 × mj_M)} (h : bp_ahead tp v1 v2 v3 m = some r) : mj_Ex false (mj_sh Ls) (mj_rf tp ip) Z d 17 [.ref 1, .int v1, .int v2, .int v3] (110, x) m (some (.int r.1)) (110, x) r.2 := by
  exact mj_Ex_of (cd := mj_cd_17) (L := [some (.ref 1), some (.int v1), some (.int v2), some (.int v3)]) (by omega) (by decide) rfl (Nat.le_of_ble_eq_true rfl) rfl (fun P hC => bp_ahead_p hC (by omega) htp h ⟨rfl, rfl, rfl⟩)
def bp_pace_j127l33 (tp : Nat)  (v1 : Int32) (v2 : Int32) (v3 : Int32) (v4 : Int32) (v5 : Int32) (v6 : Int32)  (m : mj_M) : Option (Nat × (Int32 × Int32 × Int32 × Int32 × mj_M)) :=
  some (0, (v3, v4, v5, (v6 + 1), m))
def bp_pace_j116l33 (tp : Nat)  (v1 : Int32) (v2 : Int32) (v6 : Int32) (v7 : Int32) (v8 : Int32)  (m : mj_M) : Option (Nat × (Int32 × Int32 × Int32 × Int32 × mj_M)) :=
  bp_pace_j127l33 tp v1 v2 v6 v7 v8 v6 m
def bp_pace_l33 (tp : Nat) (v1 : Int32) (v2 : Int32) (s33 : (Int32 × Int32 × Int32 × Int32 × mj_M)) : Option (Nat × (Int32 × Int32 × Int32 × Int32 × mj_M)) :=
  (if 99 < s33.2.2.2.1 then some (1, (s33.1, s33.2.1, s33.2.2.1, s33.2.2.2.1, s33.2.2.2.2)) else
  (bp_tryPace tp v1 s33.2.2.2.1 s33.2.2.2.2).bind fun q6 =>
  (sa_doneCount 47 (mj_I (q6 tp 5)) q6).bind fun q7 =>
  (sa_doneCount 42 (mj_I (q6 tp 5)) q6).bind fun q8 =>
  (sa_allSlips 47 q6).bind fun q9 =>
  (sa_allSlips 42 q6).bind fun q10 =>
  (if s33.2.1 < (q7 - q8) then bp_pace_j116l33 tp v1 v2 s33.2.2.2.1 (q7 - q8) (q9 - q10) q6 else
  (if (q7 - q8) = s33.2.1 then (if s33.2.2.1 ≤ (q9 - q10) then bp_pace_j127l33 tp v1 v2 s33.1 s33.2.1 s33.2.2.1 s33.2.2.2.1 q6 else
  bp_pace_j116l33 tp v1 v2 s33.2.2.2.1 (q7 - q8) (q9 - q10) q6) else
  bp_pace_j127l33 tp v1 v2 s33.1 s33.2.1 s33.2.2.1 s33.2.2.2.1 q6)))
def bp_pace (tp : Nat) (v1 : Int32) (v2 : Int32) (m : mj_M) : Option (Int32 × mj_M) :=
  (if v1 < 1 then some ((-1), m) else
  (if 60 < v1 then some ((-1), m) else
  (if v2 < 0 then some ((-1), m) else
  (if v2 ≤ 2 then (mj_loop (bp_pace_l33 tp v1 v2) mj_F (0, (-1), 0, 1, m)).bind fun q14 =>
  (if v2 = 0 then some (q14.2.1, q14.2.2.2.2.2) else
  (if v2 = 1 then some (q14.2.2.1, q14.2.2.2.2.2) else
  some (q14.2.2.2.1, q14.2.2.2.2.2))) else
  some ((-1), m)))))
set_option maxRecDepth 20000 in
theorem bp_pace_j127l33_x {Ls tp ip x d : Nat} {Z : mj_X} {R : Option Value → mj_G → mj_M → Prop} {P : mj_K → Prop} (hC : mj_cls false (mj_sh Ls) (mj_rf tp ip) mj_dv mj_cd_21 (mj_Ex false (mj_sh Ls) (mj_rf tp ip) Z d) R P) (hd : 7 ≤ d) (htp : tp = 3 ∨ tp = 17)  {v1 : Int32} {v2 : Int32} {v3 : Int32} {v4 : Int32} {v5 : Int32} {v6 : Int32}  {m : mj_M} {t : Nat} {w : (Int32 × Int32 × Int32 × Int32 × mj_M)} (h : bp_pace_j127l33 tp  v1 v2 v3 v4 v5 v6 m = some (t, w)) (h0 : t = 0 → P (33, [some (.ref 1), some (.int v1), some (.int v2), some (.int w.1), some (.int w.2.1), some (.int w.2.2.1), some (.int w.2.2.2.1), none, none], [], (110, x), w.2.2.2.2)) (h1 : t = 1 → P (133, [none, none, some (.int v2), some (.int w.1), some (.int w.2.1), some (.int w.2.2.1), none, none, none], [], (110, x), w.2.2.2.2)) : P (127, [some (.ref 1), some (.int v1), some (.int v2), some (.int v3), some (.int v4), some (.int v5), some (.int v6), none, none], [], (110, x), m) := by
  unfold bp_pace_j127l33 at h
  rcases htp with rfl | rfl
  all_goals
    refine mj_gcp hC 2 ?_
    show P (33, [some (.ref 1), some (.int v1), some (.int v2), some (.int v3), some (.int v4), some (.int v5), some (.int (v6 + 1)), none, none], [], (110, x), m)
    cases h
    exact mj_less hC (L0 := [some (.ref 1), some (.int v1), some (.int v2), some (.int v3), some (.int v4), some (.int v5), some (.int (v6 + 1)), none, none]) (And.intro rfl (And.intro rfl (And.intro rfl (And.intro rfl (And.intro rfl (And.intro rfl (And.intro rfl trivial))))))) (h0 rfl)
set_option maxRecDepth 20000 in
theorem bp_pace_j116l33_x {Ls tp ip x d : Nat} {Z : mj_X} {R : Option Value → mj_G → mj_M → Prop} {P : mj_K → Prop} (hC : mj_cls false (mj_sh Ls) (mj_rf tp ip) mj_dv mj_cd_21 (mj_Ex false (mj_sh Ls) (mj_rf tp ip) Z d) R P) (hd : 7 ≤ d) (htp : tp = 3 ∨ tp = 17)  {v1 : Int32} {v2 : Int32} {v6 : Int32} {v7 : Int32} {v8 : Int32}  {m : mj_M} {t : Nat} {w : (Int32 × Int32 × Int32 × Int32 × mj_M)} (h : bp_pace_j116l33 tp  v1 v2 v6 v7 v8 m = some (t, w)) (h0 : t = 0 → P (33, [some (.ref 1), some (.int v1), some (.int v2), some (.int w.1), some (.int w.2.1), some (.int w.2.2.1), some (.int w.2.2.2.1), none, none], [], (110, x), w.2.2.2.2)) (h1 : t = 1 → P (133, [none, none, some (.int v2), some (.int w.1), some (.int w.2.1), some (.int w.2.2.1), none, none, none], [], (110, x), w.2.2.2.2)) : P (116, [some (.ref 1), some (.int v1), some (.int v2), none, none, none, some (.int v6), some (.int v7), some (.int v8)], [], (110, x), m) := by
  unfold bp_pace_j116l33 at h
  rcases htp with rfl | rfl
  all_goals
    refine mj_gcp hC 6 ?_
    show P (127, [some (.ref 1), some (.int v1), some (.int v2), some (.int v6), some (.int v7), some (.int v8), some (.int v6), some (.int v7), some (.int v8)], [], (110, x), m)
    exact mj_less hC (L0 := [some (.ref 1), some (.int v1), some (.int v2), some (.int v6), some (.int v7), some (.int v8), some (.int v6), none, none]) (And.intro rfl (And.intro rfl (And.intro rfl (And.intro rfl (And.intro rfl (And.intro rfl (And.intro rfl trivial))))))) (bp_pace_j127l33_x hC hd (by decide) h h0 h1)
set_option maxRecDepth 20000 in
theorem bp_pace_l33_x {Ls tp ip x d : Nat} {Z : mj_X} {R : Option Value → mj_G → mj_M → Prop} {P : mj_K → Prop} (hC : mj_cls false (mj_sh Ls) (mj_rf tp ip) mj_dv mj_cd_21 (mj_Ex false (mj_sh Ls) (mj_rf tp ip) Z d) R P) (hd : 7 ≤ d) (htp : tp = 3 ∨ tp = 17) {v1 : Int32} {v2 : Int32} (s33 : (Int32 × Int32 × Int32 × Int32 × mj_M)) {t : Nat} {w : (Int32 × Int32 × Int32 × Int32 × mj_M)} (h : bp_pace_l33 tp v1 v2 s33 = some (t, w)) (h0 : t = 0 → P (33, [some (.ref 1), some (.int v1), some (.int v2), some (.int w.1), some (.int w.2.1), some (.int w.2.2.1), some (.int w.2.2.2.1), none, none], [], (110, x), w.2.2.2.2)) (h1 : t = 1 → P (133, [none, none, some (.int v2), some (.int w.1), some (.int w.2.1), some (.int w.2.2.1), none, none, none], [], (110, x), w.2.2.2.2)) : P (33, [some (.ref 1), some (.int v1), some (.int v2), some (.int s33.1), some (.int s33.2.1), some (.int s33.2.2.1), some (.int s33.2.2.2.1), none, none], [], (110, x), s33.2.2.2.2) := by
  unfold bp_pace_l33 at h
  rcases htp with rfl | rfl
  all_goals
    refine mj_gcp hC 3 ?_
    show P (mj_pick 133 40 (99 < s33.2.2.2.1), [some (.ref 1), some (.int v1), some (.int v2), some (.int s33.1), some (.int s33.2.1), some (.int s33.2.2.1), some (.int s33.2.2.2.1), none, none], [], (110, x), s33.2.2.2.2)
    refine mj_pbr (fun c5 => ?_) (fun c5 => ?_)
    · rw [if_pos c5] at h
      cases h
      exact mj_less hC (L0 := [none, none, some (.int v2), some (.int s33.1), some (.int s33.2.1), some (.int s33.2.2.1), none, none, none]) (And.intro rfl (And.intro rfl (And.intro rfl (And.intro rfl trivial)))) (h1 rfl)
    · rw [if_neg c5] at h
      refine mj_gcp hC 3 ?_
      show P (44, [some (.ref 1), some (.int v1), some (.int v2), some (.int s33.1), some (.int s33.2.1), some (.int s33.2.2.1), some (.int s33.2.2.2.1), none, none], [.int s33.2.2.2.1, .int v1, .ref 1], (110, x), s33.2.2.2.2)
      obtain ⟨q6, eq6, h⟩ := mj_bnd h
      refine mj_pcall hC rfl (bp_tryPace_x (Nat.le_trans (by decide) hd) (by decide) eq6) ?_
      show P (47, [some (.ref 1), some (.int v1), some (.int v2), some (.int s33.1), some (.int s33.2.1), some (.int s33.2.2.1), some (.int s33.2.2.2.1), none, none], [], (110, x), q6)
      refine mj_gcp hC 5 ?_
      show P (58, [some (.ref 1), some (.int v1), some (.int v2), some (.int s33.1), some (.int s33.2.1), some (.int s33.2.2.1), some (.int s33.2.2.2.1), none, none], [.int (mj_I (q6 _ 5)), .ref 47], (110, x), q6)
      obtain ⟨q7, eq7, h⟩ := mj_bnd h
      refine mj_pcall hC rfl (sa_doneCount_x (Nat.le_trans (by decide) hd) (by decide) eq7) ?_
      show P (61, [some (.ref 1), some (.int v1), some (.int v2), some (.int s33.1), some (.int s33.2.1), some (.int s33.2.2.1), some (.int s33.2.2.2.1), none, none], [.int q7], (110, x), q6)
      refine mj_gcp hC 5 ?_
      show P (72, [some (.ref 1), some (.int v1), some (.int v2), some (.int s33.1), some (.int s33.2.1), some (.int s33.2.2.1), some (.int s33.2.2.2.1), none, none], [.int (mj_I (q6 _ 5)), .ref 42, .int q7], (110, x), q6)
      obtain ⟨q8, eq8, h⟩ := mj_bnd h
      refine mj_pcall hC rfl (sa_doneCount_x (Nat.le_trans (by decide) hd) (by decide) eq8) ?_
      show P (75, [some (.ref 1), some (.int v1), some (.int v2), some (.int s33.1), some (.int s33.2.1), some (.int s33.2.2.1), some (.int s33.2.2.2.1), none, none], [.int q8, .int q7], (110, x), q6)
      refine mj_gcp hC 4 ?_
      show P (82, [some (.ref 1), some (.int v1), some (.int v2), some (.int s33.1), some (.int s33.2.1), some (.int s33.2.2.1), some (.int s33.2.2.2.1), some (.int (q7 - q8)), none], [.ref 47], (110, x), q6)
      obtain ⟨q9, eq9, h⟩ := mj_bnd h
      refine mj_pcall hC rfl (sa_allSlips_x (Nat.le_trans (by decide) hd) (by decide) eq9) ?_
      show P (85, [some (.ref 1), some (.int v1), some (.int v2), some (.int s33.1), some (.int s33.2.1), some (.int s33.2.2.1), some (.int s33.2.2.2.1), some (.int (q7 - q8)), none], [.int q9], (110, x), q6)
      refine mj_gcp hC 2 ?_
      show P (89, [some (.ref 1), some (.int v1), some (.int v2), some (.int s33.1), some (.int s33.2.1), some (.int s33.2.2.1), some (.int s33.2.2.2.1), some (.int (q7 - q8)), none], [.ref 42, .int q9], (110, x), q6)
      obtain ⟨q10, eq10, h⟩ := mj_bnd h
      refine mj_pcall hC rfl (sa_allSlips_x (Nat.le_trans (by decide) hd) (by decide) eq10) ?_
      show P (92, [some (.ref 1), some (.int v1), some (.int v2), some (.int s33.1), some (.int s33.2.1), some (.int s33.2.2.1), some (.int s33.2.2.2.1), some (.int (q7 - q8)), none], [.int q10, .int q9], (110, x), q6)
      refine mj_gcp hC 5 ?_
      show P (mj_pick 116 102 (s33.2.1 < (q7 - q8)), [some (.ref 1), some (.int v1), some (.int v2), some (.int s33.1), some (.int s33.2.1), some (.int s33.2.2.1), some (.int s33.2.2.2.1), some (.int (q7 - q8)), some (.int (q9 - q10))], [], (110, x), q6)
      refine mj_pbr (fun c11 => ?_) (fun c11 => ?_)
      · rw [if_pos c11] at h
        exact mj_less hC (L0 := [some (.ref 1), some (.int v1), some (.int v2), none, none, none, some (.int s33.2.2.2.1), some (.int (q7 - q8)), some (.int (q9 - q10))]) (And.intro rfl (And.intro rfl (And.intro rfl (And.intro rfl (And.intro rfl (And.intro rfl trivial)))))) (bp_pace_j116l33_x hC hd (by decide) h h0 h1)
      · rw [if_neg c11] at h
        refine mj_gcp hC 3 ?_
        show P (mj_pick 109 127 ((q7 - q8) = s33.2.1), [some (.ref 1), some (.int v1), some (.int v2), some (.int s33.1), some (.int s33.2.1), some (.int s33.2.2.1), some (.int s33.2.2.2.1), some (.int (q7 - q8)), some (.int (q9 - q10))], [], (110, x), q6)
        refine mj_pbr (fun c12 => ?_) (fun c12 => ?_)
        · rw [if_pos c12] at h
          refine mj_gcp hC 3 ?_
          show P (mj_pick 127 116 (s33.2.2.1 ≤ (q9 - q10)), [some (.ref 1), some (.int v1), some (.int v2), some (.int s33.1), some (.int s33.2.1), some (.int s33.2.2.1), some (.int s33.2.2.2.1), some (.int (q7 - q8)), some (.int (q9 - q10))], [], (110, x), q6)
          refine mj_pbr (fun c13 => ?_) (fun c13 => ?_)
          · rw [if_pos c13] at h
            exact mj_less hC (L0 := [some (.ref 1), some (.int v1), some (.int v2), some (.int s33.1), some (.int s33.2.1), some (.int s33.2.2.1), some (.int s33.2.2.2.1), none, none]) (And.intro rfl (And.intro rfl (And.intro rfl (And.intro rfl (And.intro rfl (And.intro rfl (And.intro rfl trivial))))))) (bp_pace_j127l33_x hC hd (by decide) h h0 h1)
          · rw [if_neg c13] at h
            exact mj_less hC (L0 := [some (.ref 1), some (.int v1), some (.int v2), none, none, none, some (.int s33.2.2.2.1), some (.int (q7 - q8)), some (.int (q9 - q10))]) (And.intro rfl (And.intro rfl (And.intro rfl (And.intro rfl (And.intro rfl (And.intro rfl trivial)))))) (bp_pace_j116l33_x hC hd (by decide) h h0 h1)
        · rw [if_neg c12] at h
          exact mj_less hC (L0 := [some (.ref 1), some (.int v1), some (.int v2), some (.int s33.1), some (.int s33.2.1), some (.int s33.2.2.1), some (.int s33.2.2.2.1), none, none]) (And.intro rfl (And.intro rfl (And.intro rfl (And.intro rfl (And.intro rfl (And.intro rfl (And.intro rfl trivial))))))) (bp_pace_j127l33_x hC hd (by decide) h h0 h1)
set_option maxRecDepth 20000 in
theorem bp_pace_p {Ls tp ip x d : Nat} {Z : mj_X} {R : Option Value → mj_G → mj_M → Prop} {P : mj_K → Prop} (hC : mj_cls false (mj_sh Ls) (mj_rf tp ip) mj_dv mj_cd_21 (mj_Ex false (mj_sh Ls) (mj_rf tp ip) Z d) R P) (hd : 7 ≤ d) (htp : tp = 3 ∨ tp = 17) {v1 : Int32} {v2 : Int32} {m : mj_M} {r : (Int32 × mj_M)} (h : bp_pace tp v1 v2 m = some r) (hR : R (some (.int r.1)) (110, x) r.2) : P (0, [some (.ref 1), some (.int v1), some (.int v2), none, none, none, none, none, none], [], (110, x), m) := by
  unfold bp_pace at h
  rcases htp with rfl | rfl
  all_goals
    refine mj_gcp hC 3 ?_
    show P (mj_pick 20 5 (v1 < 1), [some (.ref 1), some (.int v1), some (.int v2), none, none, none, none, none, none], [], (110, x), m)
    refine mj_pbr (fun c1 => ?_) (fun c1 => ?_)
    · rw [if_pos c1] at h
      refine mj_gcp hC 1 ?_
      show P (21, [some (.ref 1), some (.int v1), some (.int v2), none, none, none, none, none, none], [.int (-1)], (110, x), m)
      cases h
      exact mj_pret hC rfl hR
    · rw [if_neg c1] at h
      refine mj_gcp hC 3 ?_
      show P (mj_pick 20 11 (60 < v1), [some (.ref 1), some (.int v1), some (.int v2), none, none, none, none, none, none], [], (110, x), m)
      refine mj_pbr (fun c2 => ?_) (fun c2 => ?_)
      · rw [if_pos c2] at h
        refine mj_gcp hC 1 ?_
        show P (21, [some (.ref 1), some (.int v1), some (.int v2), none, none, none, none, none, none], [.int (-1)], (110, x), m)
        cases h
        exact mj_pret hC rfl hR
      · rw [if_neg c2] at h
        refine mj_gcp hC 2 ?_
        show P (mj_pick 20 15 (v2 < 0), [some (.ref 1), some (.int v1), some (.int v2), none, none, none, none, none, none], [], (110, x), m)
        refine mj_pbr (fun c3 => ?_) (fun c3 => ?_)
        · rw [if_pos c3] at h
          refine mj_gcp hC 1 ?_
          show P (21, [some (.ref 1), some (.int v1), some (.int v2), none, none, none, none, none, none], [.int (-1)], (110, x), m)
          cases h
          exact mj_pret hC rfl hR
        · rw [if_neg c3] at h
          refine mj_gcp hC 3 ?_
          show P (mj_pick 22 20 (v2 ≤ 2), [some (.ref 1), some (.int v1), some (.int v2), none, none, none, none, none, none], [], (110, x), m)
          refine mj_pbr (fun c4 => ?_) (fun c4 => ?_)
          · rw [if_pos c4] at h
            refine mj_gcp hC 8 ?_
            show P (33, [some (.ref 1), some (.int v1), some (.int v2), some (.int 0), some (.int (-1)), some (.int 0), some (.int 1), none, none], [], (110, x), m)
            obtain ⟨q14, eq14, h⟩ := mj_bnd h
            refine mj_less hC (L0 := [some (.ref 1), some (.int v1), some (.int v2), some (.int 0), some (.int (-1)), some (.int 0), some (.int 1), none, none]) (And.intro rfl (And.intro rfl (And.intro rfl (And.intro rfl (And.intro rfl (And.intro rfl (And.intro rfl trivial))))))) ?_
            refine mj_loop_P (A := fun z33 => P (33, [some (.ref 1), some (.int v1), some (.int v2), some (.int z33.1), some (.int z33.2.1), some (.int z33.2.2.1), some (.int z33.2.2.2.1), none, none], [], (110, x), z33.2.2.2.2)) (E := fun _ z33 => P (133, [none, none, some (.int v2), some (.int z33.1), some (.int z33.2.1), some (.int z33.2.2.1), none, none, none], [], (110, x), z33.2.2.2.2)) (fun zz t w hb h0 h1 => bp_pace_l33_x hC hd (by decide) zz hb h0 (fun ht => h1 0 ht)) mj_F _ q14 eq14 ?_
            refine mj_gcp hC 2 ?_
            show P (mj_pick 137 141 (v2 = 0), [none, none, some (.int v2), some (.int q14.2.1), some (.int q14.2.2.1), some (.int q14.2.2.2.1), none, none, none], [], (110, x), q14.2.2.2.2.2)
            refine mj_pbr (fun c15 => ?_) (fun c15 => ?_)
            · rw [if_pos c15] at h
              refine mj_gcp hC 2 ?_
              show P (153, [none, none, some (.int v2), some (.int q14.2.1), some (.int q14.2.2.1), some (.int q14.2.2.2.1), none, none, none], [.int q14.2.1], (110, x), q14.2.2.2.2.2)
              cases h
              exact mj_pret hC rfl hR
            · rw [if_neg c15] at h
              refine mj_gcp hC 3 ?_
              show P (mj_pick 146 151 (v2 = 1), [none, none, some (.int v2), some (.int q14.2.1), some (.int q14.2.2.1), some (.int q14.2.2.2.1), none, none, none], [], (110, x), q14.2.2.2.2.2)
              refine mj_pbr (fun c16 => ?_) (fun c16 => ?_)
              · rw [if_pos c16] at h
                refine mj_gcp hC 2 ?_
                show P (153, [none, none, some (.int v2), some (.int q14.2.1), some (.int q14.2.2.1), some (.int q14.2.2.2.1), none, none, none], [.int q14.2.2.1], (110, x), q14.2.2.2.2.2)
                cases h
                exact mj_pret hC rfl hR
              · rw [if_neg c16] at h
                refine mj_gcp hC 1 ?_
                show P (153, [none, none, some (.int v2), some (.int q14.2.1), some (.int q14.2.2.1), some (.int q14.2.2.2.1), none, none, none], [.int q14.2.2.2.1], (110, x), q14.2.2.2.2.2)
                cases h
                exact mj_pret hC rfl hR
          · rw [if_neg c4] at h
            refine mj_gcp hC 1 ?_
            show P (21, [some (.ref 1), some (.int v1), some (.int v2), none, none, none, none, none, none], [.int (-1)], (110, x), m)
            cases h
            exact mj_pret hC rfl hR
set_option maxRecDepth 20000 in
theorem bp_pace_x {Ls tp ip x d : Nat} {Z : mj_X} (hd : 8 ≤ d) (htp : tp = 3 ∨ tp = 17) {v1 : Int32} {v2 : Int32} {m : mj_M} {r : (Int32 × mj_M)} (h : bp_pace tp v1 v2 m = some r) : mj_Ex false (mj_sh Ls) (mj_rf tp ip) Z d 21 [.ref 1, .int v1, .int v2] (110, x) m (some (.int r.1)) (110, x) r.2 := by
  exact mj_Ex_of (cd := mj_cd_21) (L := [some (.ref 1), some (.int v1), some (.int v2), none, none, none, none, none, none]) (by omega) (by decide) rfl (Nat.le_of_ble_eq_true rfl) rfl (fun P hC => bp_pace_p hC (by omega) htp h ⟨rfl, rfl, rfl⟩)
def bp_shifts_j49l22 (tp : Nat)  (v1 : Int32) (v2 : Int32) (v3 : Int32) (v4 : Int32)  (m : mj_M) : Option (Nat × (Int32 × Int32 × mj_M)) :=
  some (0, (v3, (v4 + 1), m))
def bp_shifts_l22 (tp : Nat) (v1 : Int32) (v2 : Int32) (s22 : (Int32 × Int32 × mj_M)) : Option (Nat × (Int32 × Int32 × mj_M)) :=
  (if 10 ≤ s22.2.1 then some (1, (s22.1, s22.2.1, s22.2.2)) else
  (bp_isShiftedBy tp ((3 : Int32) * s22.2.1) v1 v2 s22.2.2).bind fun q4 =>
  (if q4.1 = 0 then bp_shifts_j49l22 tp v1 v2 s22.1 s22.2.1 q4.2 else
  bp_shifts_j49l22 tp v1 v2 (s22.1 ||| ((1 : Int32) <<< (s22.2.1 &&& 31))) s22.2.1 q4.2))
def bp_shifts (tp : Nat)  (m : mj_M) : Option (Int32 × mj_M) :=
  (si_standing m).bind fun q1 =>
  (si_lastHour q1 m).bind fun q2 =>
  (mj_loop (bp_shifts_l22 tp q1 q2) mj_F (0, 0, m)).bind fun q6 =>
  some (q6.2.1, q6.2.2.2)
set_option maxRecDepth 20000 in
theorem bp_shifts_j49l22_x {Ls tp ip x d : Nat} {Z : mj_X} {R : Option Value → mj_G → mj_M → Prop} {P : mj_K → Prop} (hC : mj_cls false (mj_sh Ls) (mj_rf tp ip) mj_dv mj_cd_45 (mj_Ex false (mj_sh Ls) (mj_rf tp ip) Z d) R P) (hd : 7 ≤ d) (htp : tp = 3 ∨ tp = 17)  {v1 : Int32} {v2 : Int32} {v3 : Int32} {v4 : Int32}  {m : mj_M} {t : Nat} {w : (Int32 × Int32 × mj_M)} (h : bp_shifts_j49l22 tp  v1 v2 v3 v4 m = some (t, w)) (h0 : t = 0 → P (22, [some (.ref 1), some (.int v1), some (.int v2), some (.int w.1), some (.int w.2.1)], [], (110, x), w.2.2)) (h1 : t = 1 → P (55, [none, none, none, some (.int w.1), none], [], (110, x), w.2.2)) : P (49, [some (.ref 1), some (.int v1), some (.int v2), some (.int v3), some (.int v4)], [], (110, x), m) := by
  unfold bp_shifts_j49l22 at h
  rcases htp with rfl | rfl
  all_goals
    refine mj_gcp hC 2 ?_
    show P (22, [some (.ref 1), some (.int v1), some (.int v2), some (.int v3), some (.int (v4 + 1))], [], (110, x), m)
    cases h
    exact mj_less hC (L0 := [some (.ref 1), some (.int v1), some (.int v2), some (.int v3), some (.int (v4 + 1))]) (And.intro rfl (And.intro rfl (And.intro rfl (And.intro rfl (And.intro rfl trivial))))) (h0 rfl)
set_option maxRecDepth 20000 in
theorem bp_shifts_l22_x {Ls tp ip x d : Nat} {Z : mj_X} {R : Option Value → mj_G → mj_M → Prop} {P : mj_K → Prop} (hC : mj_cls false (mj_sh Ls) (mj_rf tp ip) mj_dv mj_cd_45 (mj_Ex false (mj_sh Ls) (mj_rf tp ip) Z d) R P) (hd : 7 ≤ d) (htp : tp = 3 ∨ tp = 17) {v1 : Int32} {v2 : Int32} (s22 : (Int32 × Int32 × mj_M)) {t : Nat} {w : (Int32 × Int32 × mj_M)} (h : bp_shifts_l22 tp v1 v2 s22 = some (t, w)) (h0 : t = 0 → P (22, [some (.ref 1), some (.int v1), some (.int v2), some (.int w.1), some (.int w.2.1)], [], (110, x), w.2.2)) (h1 : t = 1 → P (55, [none, none, none, some (.int w.1), none], [], (110, x), w.2.2)) : P (22, [some (.ref 1), some (.int v1), some (.int v2), some (.int s22.1), some (.int s22.2.1)], [], (110, x), s22.2.2) := by
  unfold bp_shifts_l22 at h
  rcases htp with rfl | rfl
  all_goals
    refine mj_gcp hC 3 ?_
    show P (mj_pick 55 29 (10 ≤ s22.2.1), [some (.ref 1), some (.int v1), some (.int v2), some (.int s22.1), some (.int s22.2.1)], [], (110, x), s22.2.2)
    refine mj_pbr (fun c3 => ?_) (fun c3 => ?_)
    · rw [if_pos c3] at h
      cases h
      exact mj_less hC (L0 := [none, none, none, some (.int s22.1), none]) (And.intro rfl trivial) (h1 rfl)
    · rw [if_neg c3] at h
      refine mj_gcp hC 6 ?_
      show P (36, [some (.ref 1), some (.int v1), some (.int v2), some (.int s22.1), some (.int s22.2.1)], [.int v2, .int v1, .int ((3 : Int32) * s22.2.1), .ref 1], (110, x), s22.2.2)
      obtain ⟨q4, eq4, h⟩ := mj_bnd h
      refine mj_pcall hC rfl (bp_isShiftedBy_x (Nat.le_trans (by decide) hd) (by decide) eq4) ?_
      show P (39, [some (.ref 1), some (.int v1), some (.int v2), some (.int s22.1), some (.int s22.2.1)], [.int q4.1], (110, x), q4.2)
      refine mj_gcp hC 1 ?_
      show P (mj_pick 49 42 (q4.1 = 0), [some (.ref 1), some (.int v1), some (.int v2), some (.int s22.1), some (.int s22.2.1)], [], (110, x), q4.2)
      refine mj_pbr (fun c5 => ?_) (fun c5 => ?_)
      · rw [if_pos c5] at h
        exact mj_less hC (L0 := [some (.ref 1), some (.int v1), some (.int v2), some (.int s22.1), some (.int s22.2.1)]) (And.intro rfl (And.intro rfl (And.intro rfl (And.intro rfl (And.intro rfl trivial))))) (bp_shifts_j49l22_x hC hd (by decide) h h0 h1)
      · rw [if_neg c5] at h
        refine mj_gcp hC 6 ?_
        show P (49, [some (.ref 1), some (.int v1), some (.int v2), some (.int (s22.1 ||| ((1 : Int32) <<< (s22.2.1 &&& 31)))), some (.int s22.2.1)], [], (110, x), q4.2)
        exact mj_less hC (L0 := [some (.ref 1), some (.int v1), some (.int v2), some (.int (s22.1 ||| ((1 : Int32) <<< (s22.2.1 &&& 31)))), some (.int s22.2.1)]) (And.intro rfl (And.intro rfl (And.intro rfl (And.intro rfl (And.intro rfl trivial))))) (bp_shifts_j49l22_x hC hd (by decide) h h0 h1)
set_option maxRecDepth 20000 in
theorem bp_shifts_p {Ls tp ip x d : Nat} {Z : mj_X} {R : Option Value → mj_G → mj_M → Prop} {P : mj_K → Prop} (hC : mj_cls false (mj_sh Ls) (mj_rf tp ip) mj_dv mj_cd_45 (mj_Ex false (mj_sh Ls) (mj_rf tp ip) Z d) R P) (hd : 7 ≤ d) (htp : tp = 3 ∨ tp = 17)  {m : mj_M} {r : (Int32 × mj_M)} (h : bp_shifts tp m = some r) (hR : R (some (.int r.1)) (110, x) r.2) : P (0, [some (.ref 1), none, none, none, none], [], (110, x), m) := by
  unfold bp_shifts at h
  rcases htp with rfl | rfl
  all_goals
    refine mj_gcp hC 2 ?_
    show P (4, [some (.ref 1), none, none, none, none], [.ref 61], (110, x), m)
    obtain ⟨q1, eq1, h⟩ := mj_bnd h
    refine mj_pcall hC rfl (si_standing_x (Nat.le_trans (by decide) hd) eq1) ?_
    show P (7, [some (.ref 1), none, none, none, none], [.int q1], (110, x), m)
    refine mj_gcp hC 4 ?_
    show P (13, [some (.ref 1), some (.int q1), none, none, none], [.int q1, .ref 61], (110, x), m)
    obtain ⟨q2, eq2, h⟩ := mj_bnd h
    refine mj_pcall hC rfl (si_lastHour_x (Nat.le_trans (by decide) hd) eq2) ?_
    show P (16, [some (.ref 1), some (.int q1), none, none, none], [.int q2], (110, x), m)
    refine mj_gcp hC 5 ?_
    show P (22, [some (.ref 1), some (.int q1), some (.int q2), some (.int 0), some (.int 0)], [], (110, x), m)
    obtain ⟨q6, eq6, h⟩ := mj_bnd h
    refine mj_less hC (L0 := [some (.ref 1), some (.int q1), some (.int q2), some (.int 0), some (.int 0)]) (And.intro rfl (And.intro rfl (And.intro rfl (And.intro rfl (And.intro rfl trivial))))) ?_
    refine mj_loop_P (A := fun z22 => P (22, [some (.ref 1), some (.int q1), some (.int q2), some (.int z22.1), some (.int z22.2.1)], [], (110, x), z22.2.2)) (E := fun _ z22 => P (55, [none, none, none, some (.int z22.1), none], [], (110, x), z22.2.2)) (fun zz t w hb h0 h1 => bp_shifts_l22_x hC hd (by decide) zz hb h0 (fun ht => h1 0 ht)) mj_F _ q6 eq6 ?_
    refine mj_gcp hC 1 ?_
    show P (56, [none, none, none, some (.int q6.2.1), none], [.int q6.2.1], (110, x), q6.2.2.2)
    cases h
    exact mj_pret hC rfl hR
set_option maxRecDepth 20000 in
theorem bp_shifts_x {Ls tp ip x d : Nat} {Z : mj_X} (hd : 8 ≤ d) (htp : tp = 3 ∨ tp = 17)  {m : mj_M} {r : (Int32 × mj_M)} (h : bp_shifts tp m = some r) : mj_Ex false (mj_sh Ls) (mj_rf tp ip) Z d 45 [.ref 1] (110, x) m (some (.int r.1)) (110, x) r.2 := by
  exact mj_Ex_of (cd := mj_cd_45) (L := [some (.ref 1), none, none, none, none]) (by omega) (by decide) rfl (Nat.le_of_ble_eq_true rfl) rfl (fun P hC => bp_shifts_p hC (by omega) htp h ⟨rfl, rfl, rfl⟩)
