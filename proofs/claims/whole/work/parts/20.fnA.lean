/-! FUNCTIONS OUT OF THE INSTRUCTIONS, AND THAT A RUN GIVES THEM (made by wip/whole/emit.py) -/
def bp_crowd (tp : Nat) (v1 : Int32) (m : mj_M) : Option (Int32 × mj_M) :=
  (if v1 < 0 then some ((-1), m) else
  (if v1 ≤ 200 then (sa_copy 47 42 m).bind fun q3 =>
  (bp_tryHours tp v1 1 q3).bind fun q4 =>
  (sa_doneBits 47 (mj_I (q4 tp 5)) q4).bind fun q5 =>
  (sa_doneBits 42 (mj_I (q4 tp 5)) q4).bind fun q6 =>
  some ((q5 &&& (q6 ^^^ (-1))), q4) else
  some ((-1), m)))
set_option maxRecDepth 20000 in
theorem bp_crowd_p {Ls tp ip x d : Nat} {Z : mj_X} {R : Option Value → mj_G → mj_M → Prop} {P : mj_K → Prop} (hC : mj_cls false (mj_sh Ls) (mj_rf tp ip) mj_dv mj_cd_26 (mj_Ex false (mj_sh Ls) (mj_rf tp ip) Z d) R P) (hd : 7 ≤ d) (htp : tp = 3 ∨ tp = 17) {v1 : Int32} {m : mj_M} {r : (Int32 × mj_M)} (h : bp_crowd tp v1 m = some r) (hR : R (some (.int r.1)) (110, x) r.2) : P (0, [some (.ref 1), some (.int v1)], [], (110, x), m) := by
  unfold bp_crowd at h
  rcases htp with rfl | rfl
  all_goals
    refine mj_gcp hC 2 ?_
    show P (mj_pick 11 4 (v1 < 0), [some (.ref 1), some (.int v1)], [], (110, x), m)
    refine mj_pbr (fun c1 => ?_) (fun c1 => ?_)
    · rw [if_pos c1] at h
      refine mj_gcp hC 1 ?_
      show P (12, [some (.ref 1), some (.int v1)], [.int (-1)], (110, x), m)
      cases h
      exact mj_pret hC rfl hR
    · rw [if_neg c1] at h
      refine mj_gcp hC 3 ?_
      show P (mj_pick 13 11 (v1 ≤ 200), [some (.ref 1), some (.int v1)], [], (110, x), m)
      refine mj_pbr (fun c2 => ?_) (fun c2 => ?_)
      · rw [if_pos c2] at h
        refine mj_gcp hC 4 ?_
        show P (21, [some (.ref 1), some (.int v1)], [.ref 42, .ref 47], (110, x), m)
        obtain ⟨q3, eq3, h⟩ := mj_bnd h
        refine mj_pcall hC rfl (sa_copy_x (Nat.le_trans (by decide) hd) (by decide) eq3) ?_
        show P (24, [some (.ref 1), some (.int v1)], [], (110, x), q3)
        refine mj_gcp hC 3 ?_
        show P (27, [some (.ref 1), some (.int v1)], [.int 1, .int v1, .ref 1], (110, x), q3)
        obtain ⟨q4, eq4, h⟩ := mj_bnd h
        refine mj_pcall hC rfl (bp_tryHours_x (Nat.le_trans (by decide) hd) (by decide) eq4) ?_
        show P (30, [some (.ref 1), some (.int v1)], [], (110, x), q4)
        refine mj_gcp hC 5 ?_
        show P (41, [some (.ref 1), some (.int v1)], [.int (mj_I (q4 _ 5)), .ref 47], (110, x), q4)
        obtain ⟨q5, eq5, h⟩ := mj_bnd h
        refine mj_pcall hC rfl (sa_doneBits_x (Nat.le_trans (by decide) hd) (by decide) eq5) ?_
        show P (44, [some (.ref 1), some (.int v1)], [.int q5], (110, x), q4)
        refine mj_gcp hC 5 ?_
        show P (55, [some (.ref 1), some (.int v1)], [.int (mj_I (q4 _ 5)), .ref 42, .int q5], (110, x), q4)
        obtain ⟨q6, eq6, h⟩ := mj_bnd h
        refine mj_pcall hC rfl (sa_doneBits_x (Nat.le_trans (by decide) hd) (by decide) eq6) ?_
        show P (58, [some (.ref 1), some (.int v1)], [.int q6, .int q5], (110, x), q4)
        refine mj_gcp hC 3 ?_
        show P (61, [some (.ref 1), some (.int v1)], [.int (q5 &&& (q6 ^^^ (-1)))], (110, x), q4)
        cases h
        exact mj_pret hC rfl hR
      · rw [if_neg c2] at h
        refine mj_gcp hC 1 ?_
        show P (12, [some (.ref 1), some (.int v1)], [.int (-1)], (110, x), m)
        cases h
        exact mj_pret hC rfl hR
set_option maxRecDepth 20000 in
theorem bp_crowd_x {Ls tp ip x d : Nat} {Z : mj_X} (hd : 8 ≤ d) (htp : tp = 3 ∨ tp = 17) {v1 : Int32} {m : mj_M} {r : (Int32 × mj_M)} (h : bp_crowd tp v1 m = some r) : mj_Ex false (mj_sh Ls) (mj_rf tp ip) Z d 26 [.ref 1, .int v1] (110, x) m (some (.int r.1)) (110, x) r.2 := by
  exact mj_Ex_of (cd := mj_cd_26) (L := [some (.ref 1), some (.int v1)]) (by omega) (by decide) rfl (Nat.le_of_ble_eq_true rfl) rfl (fun P hC => bp_crowd_p hC (by omega) htp h ⟨rfl, rfl, rfl⟩)
def bp_off_j115l64 (tp : Nat)  (v1 : Int32) (v2 : Int32) (v3 : Int32) (v4 : Int32) (v5 : Int32) (v6 : Int32) (v7 : Int32)  (m : mj_M) : Option (Nat × (Int32 × Int32 × Int32 × mj_M)) :=
  some (0, (v5, v6, (v7 + 1), m))
def bp_off_j99l64 (tp : Nat)  (v1 : Int32) (v2 : Int32) (v3 : Int32) (v4 : Int32) (v5 : Int32) (v6 : Int32) (v7 : Int32)  (m : mj_M) : Option (Nat × (Int32 × Int32 × Int32 × mj_M)) :=
  (if ((mj_I (m 47 9)) &&& v4) = 0 then bp_off_j115l64 tp v1 v2 v3 v4 v5 v6 v7 m else
  bp_off_j115l64 tp v1 v2 v3 v4 v5 (v6 + 1) v7 m)
def bp_off_l64 (tp : Nat) (v1 : Int32) (v2 : Int32) (v3 : Int32) (v4 : Int32) (s64 : (Int32 × Int32 × Int32 × mj_M)) : Option (Nat × (Int32 × Int32 × Int32 × mj_M)) :=
  (if v2 ≤ s64.2.2.1 then some (1, (s64.1, s64.2.1, s64.2.2.1, s64.2.2.2)) else
  (ck_pass tp 47 1 s64.2.2.2).bind fun q9 =>
  (if (bp_has (mj_I (q9 47 10)) v1 q9) = 0 then bp_off_j99l64 tp v1 v2 v3 v4 s64.1 s64.2.1 s64.2.2.1 q9 else
  bp_off_j99l64 tp v1 v2 v3 v4 (s64.1 + 1) s64.2.1 s64.2.2.1 q9))
def bp_off (tp : Nat) (v1 : Int32) (v2 : Int32) (v3 : Int32) (m : mj_M) : Option (Int32 × mj_M) :=
  (if (to_isMan tp v1 m) = 0 then some ((-1), m) else
  (if v2 < 1 then some ((-1), m) else
  (if 200 < v2 then some ((-1), m) else
  (if v3 < 0 then some ((-1), m) else
  (if v3 ≤ 1 then (to_worksOf tp v1 m).bind fun q6 =>
  (sa_copy 47 42 m).bind fun q7 =>
  (mj_loop (bp_off_l64 tp v1 v2 v3 q6) mj_F (0, 0, 0, q7)).bind fun q12 =>
  (bp_gcd q12.2.1 q12.2.2.1 q12.2.2.2.2).bind fun q13 =>
  (if q12.2.2.1 = 0 then some (v3, q12.2.2.2.2) else
  (if q13 = 0 then some (v3, q12.2.2.2.2) else
  (if v3 = 0 then (if (q13 : Int32) = 0 then none else
  some ((q12.2.1 / q13), q12.2.2.2.2)) else
  (if (q13 : Int32) = 0 then none else
  some ((q12.2.2.1 / q13), q12.2.2.2.2))))) else
  some ((-1), m))))))
set_option maxRecDepth 20000 in
theorem bp_off_j115l64_x {Ls tp ip x d : Nat} {Z : mj_X} {R : Option Value → mj_G → mj_M → Prop} {P : mj_K → Prop} (hC : mj_cls false (mj_sh Ls) (mj_rf tp ip) mj_dv mj_cd_27 (mj_Ex false (mj_sh Ls) (mj_rf tp ip) Z d) R P) (hd : 6 ≤ d) (htp : tp = 3 ∨ tp = 17)  {v1 : Int32} {v2 : Int32} {v3 : Int32} {v4 : Int32} {v5 : Int32} {v6 : Int32} {v7 : Int32}  {m : mj_M} {t : Nat} {w : (Int32 × Int32 × Int32 × mj_M)} (h : bp_off_j115l64 tp  v1 v2 v3 v4 v5 v6 v7 m = some (t, w)) (h0 : t = 0 → P (64, [some (.ref 1), some (.int v1), some (.int v2), some (.int v3), some (.int v4), some (.int w.1), some (.int w.2.1), some (.int w.2.2.1)], [], (110, x), w.2.2.2)) (h1 : t = 1 → P (121, [none, none, none, some (.int v3), none, some (.int w.1), some (.int w.2.1), none], [], (110, x), w.2.2.2)) : P (115, [some (.ref 1), some (.int v1), some (.int v2), some (.int v3), some (.int v4), some (.int v5), some (.int v6), some (.int v7)], [], (110, x), m) := by
  unfold bp_off_j115l64 at h
  rcases htp with rfl | rfl
  all_goals
    refine mj_gcp hC 2 ?_
    show P (64, [some (.ref 1), some (.int v1), some (.int v2), some (.int v3), some (.int v4), some (.int v5), some (.int v6), some (.int (v7 + 1))], [], (110, x), m)
    cases h
    exact mj_less hC (L0 := [some (.ref 1), some (.int v1), some (.int v2), some (.int v3), some (.int v4), some (.int v5), some (.int v6), some (.int (v7 + 1))]) (And.intro rfl (And.intro rfl (And.intro rfl (And.intro rfl (And.intro rfl (And.intro rfl (And.intro rfl (And.intro rfl trivial)))))))) (h0 rfl)
set_option maxRecDepth 20000 in
theorem bp_off_j99l64_x {Ls tp ip x d : Nat} {Z : mj_X} {R : Option Value → mj_G → mj_M → Prop} {P : mj_K → Prop} (hC : mj_cls false (mj_sh Ls) (mj_rf tp ip) mj_dv mj_cd_27 (mj_Ex false (mj_sh Ls) (mj_rf tp ip) Z d) R P) (hd : 6 ≤ d) (htp : tp = 3 ∨ tp = 17)  {v1 : Int32} {v2 : Int32} {v3 : Int32} {v4 : Int32} {v5 : Int32} {v6 : Int32} {v7 : Int32}  {m : mj_M} {t : Nat} {w : (Int32 × Int32 × Int32 × mj_M)} (h : bp_off_j99l64 tp  v1 v2 v3 v4 v5 v6 v7 m = some (t, w)) (h0 : t = 0 → P (64, [some (.ref 1), some (.int v1), some (.int v2), some (.int v3), some (.int v4), some (.int w.1), some (.int w.2.1), some (.int w.2.2.1)], [], (110, x), w.2.2.2)) (h1 : t = 1 → P (121, [none, none, none, some (.int v3), none, some (.int w.1), some (.int w.2.1), none], [], (110, x), w.2.2.2)) : P (99, [some (.ref 1), some (.int v1), some (.int v2), some (.int v3), some (.int v4), some (.int v5), some (.int v6), some (.int v7)], [], (110, x), m) := by
  unfold bp_off_j99l64 at h
  rcases htp with rfl | rfl
  all_goals
    refine mj_gcp hC 6 ?_
    show P (mj_pick 115 112 (((mj_I (m 47 9)) &&& v4) = 0), [some (.ref 1), some (.int v1), some (.int v2), some (.int v3), some (.int v4), some (.int v5), some (.int v6), some (.int v7)], [], (110, x), m)
    refine mj_pbr (fun c11 => ?_) (fun c11 => ?_)
    · rw [if_pos c11] at h
      exact mj_less hC (L0 := [some (.ref 1), some (.int v1), some (.int v2), some (.int v3), some (.int v4), some (.int v5), some (.int v6), some (.int v7)]) (And.intro rfl (And.intro rfl (And.intro rfl (And.intro rfl (And.intro rfl (And.intro rfl (And.intro rfl (And.intro rfl trivial)))))))) (bp_off_j115l64_x hC hd (by decide) h h0 h1)
    · rw [if_neg c11] at h
      refine mj_gcp hC 1 ?_
      show P (115, [some (.ref 1), some (.int v1), some (.int v2), some (.int v3), some (.int v4), some (.int v5), some (.int (v6 + 1)), some (.int v7)], [], (110, x), m)
      exact mj_less hC (L0 := [some (.ref 1), some (.int v1), some (.int v2), some (.int v3), some (.int v4), some (.int v5), some (.int (v6 + 1)), some (.int v7)]) (And.intro rfl (And.intro rfl (And.intro rfl (And.intro rfl (And.intro rfl (And.intro rfl (And.intro rfl (And.intro rfl trivial)))))))) (bp_off_j115l64_x hC hd (by decide) h h0 h1)
set_option maxRecDepth 20000 in
theorem bp_off_l64_x {Ls tp ip x d : Nat} {Z : mj_X} {R : Option Value → mj_G → mj_M → Prop} {P : mj_K → Prop} (hC : mj_cls false (mj_sh Ls) (mj_rf tp ip) mj_dv mj_cd_27 (mj_Ex false (mj_sh Ls) (mj_rf tp ip) Z d) R P) (hd : 6 ≤ d) (htp : tp = 3 ∨ tp = 17) {v1 : Int32} {v2 : Int32} {v3 : Int32} {v4 : Int32} (s64 : (Int32 × Int32 × Int32 × mj_M)) {t : Nat} {w : (Int32 × Int32 × Int32 × mj_M)} (h : bp_off_l64 tp v1 v2 v3 v4 s64 = some (t, w)) (h0 : t = 0 → P (64, [some (.ref 1), some (.int v1), some (.int v2), some (.int v3), some (.int v4), some (.int w.1), some (.int w.2.1), some (.int w.2.2.1)], [], (110, x), w.2.2.2)) (h1 : t = 1 → P (121, [none, none, none, some (.int v3), none, some (.int w.1), some (.int w.2.1), none], [], (110, x), w.2.2.2)) : P (64, [some (.ref 1), some (.int v1), some (.int v2), some (.int v3), some (.int v4), some (.int s64.1), some (.int s64.2.1), some (.int s64.2.2.1)], [], (110, x), s64.2.2.2) := by
  unfold bp_off_l64 at h
  rcases htp with rfl | rfl
  all_goals
    refine mj_gcp hC 3 ?_
    show P (mj_pick 121 70 (v2 ≤ s64.2.2.1), [some (.ref 1), some (.int v1), some (.int v2), some (.int v3), some (.int v4), some (.int s64.1), some (.int s64.2.1), some (.int s64.2.2.1)], [], (110, x), s64.2.2.2)
    refine mj_pbr (fun c8 => ?_) (fun c8 => ?_)
    · rw [if_pos c8] at h
      cases h
      exact mj_less hC (L0 := [none, none, none, some (.int v3), none, some (.int s64.1), some (.int s64.2.1), none]) (And.intro rfl (And.intro rfl (And.intro rfl trivial))) (h1 rfl)
    · rw [if_neg c8] at h
      refine mj_gcp hC 5 ?_
      show P (79, [some (.ref 1), some (.int v1), some (.int v2), some (.int v3), some (.int v4), some (.int s64.1), some (.int s64.2.1), some (.int s64.2.2.1)], [.int 1, .ref 47, .ref 37], (110, x), s64.2.2.2)
      obtain ⟨q9, eq9, h⟩ := mj_bnd h
      refine mj_pcall hC rfl (ck_pass_x (Nat.le_trans (by decide) hd) (by decide) (by decide) eq9) ?_
      show P (82, [some (.ref 1), some (.int v1), some (.int v2), some (.int v3), some (.int v4), some (.int s64.1), some (.int s64.2.1), some (.int s64.2.2.1)], [], (110, x), q9)
      refine mj_gcp hC 4 ?_
      show P (90, [some (.ref 1), some (.int v1), some (.int v2), some (.int v3), some (.int v4), some (.int s64.1), some (.int s64.2.1), some (.int s64.2.2.1)], [.int v1, .int (mj_I (q9 47 10))], (110, x), q9)
      refine mj_pcall hC rfl (bp_has_x (Nat.le_trans (by decide) hd)) ?_
      show P (93, [some (.ref 1), some (.int v1), some (.int v2), some (.int v3), some (.int v4), some (.int s64.1), some (.int s64.2.1), some (.int s64.2.2.1)], [.int (bp_has (mj_I (q9 47 10)) v1 q9)], (110, x), q9)
      refine mj_gcp hC 1 ?_
      show P (mj_pick 99 96 ((bp_has (mj_I (q9 47 10)) v1 q9) = 0), [some (.ref 1), some (.int v1), some (.int v2), some (.int v3), some (.int v4), some (.int s64.1), some (.int s64.2.1), some (.int s64.2.2.1)], [], (110, x), q9)
      refine mj_pbr (fun c10 => ?_) (fun c10 => ?_)
      · rw [if_pos c10] at h
        exact mj_less hC (L0 := [some (.ref 1), some (.int v1), some (.int v2), some (.int v3), some (.int v4), some (.int s64.1), some (.int s64.2.1), some (.int s64.2.2.1)]) (And.intro rfl (And.intro rfl (And.intro rfl (And.intro rfl (And.intro rfl (And.intro rfl (And.intro rfl (And.intro rfl trivial)))))))) (bp_off_j99l64_x hC hd (by decide) h h0 h1)
      · rw [if_neg c10] at h
        refine mj_gcp hC 1 ?_
        show P (99, [some (.ref 1), some (.int v1), some (.int v2), some (.int v3), some (.int v4), some (.int (s64.1 + 1)), some (.int s64.2.1), some (.int s64.2.2.1)], [], (110, x), q9)
        exact mj_less hC (L0 := [some (.ref 1), some (.int v1), some (.int v2), some (.int v3), some (.int v4), some (.int (s64.1 + 1)), some (.int s64.2.1), some (.int s64.2.2.1)]) (And.intro rfl (And.intro rfl (And.intro rfl (And.intro rfl (And.intro rfl (And.intro rfl (And.intro rfl (And.intro rfl trivial)))))))) (bp_off_j99l64_x hC hd (by decide) h h0 h1)
set_option maxRecDepth 20000 in
theorem bp_off_p {Ls tp ip x d : Nat} {Z : mj_X} {R : Option Value → mj_G → mj_M → Prop} {P : mj_K → Prop} (hC : mj_cls false (mj_sh Ls) (mj_rf tp ip) mj_dv mj_cd_27 (mj_Ex false (mj_sh Ls) (mj_rf tp ip) Z d) R P) (hd : 6 ≤ d) (htp : tp = 3 ∨ tp = 17) {v1 : Int32} {v2 : Int32} {v3 : Int32} {m : mj_M} {r : (Int32 × mj_M)} (h : bp_off tp v1 v2 v3 m = some r) (hR : R (some (.int r.1)) (110, x) r.2) : P (0, [some (.ref 1), some (.int v1), some (.int v2), some (.int v3), none, none, none, none], [], (110, x), m) := by
  unfold bp_off at h
  rcases htp with rfl | rfl
  all_goals
    refine mj_gcp hC 3 ?_
    show P (5, [some (.ref 1), some (.int v1), some (.int v2), some (.int v3), none, none, none, none], [.int v1, .ref _], (110, x), m)
    refine mj_pcall hC rfl (to_isMan_x (Nat.le_trans (by decide) hd) (by decide)) ?_
    show P (8, [some (.ref 1), some (.int v1), some (.int v2), some (.int v3), none, none, none, none], [.int (to_isMan _ v1 m)], (110, x), m)
    refine mj_gcp hC 1 ?_
    show P (mj_pick 32 11 ((to_isMan _ v1 m) = 0), [some (.ref 1), some (.int v1), some (.int v2), some (.int v3), none, none, none, none], [], (110, x), m)
    refine mj_pbr (fun c1 => ?_) (fun c1 => ?_)
    · rw [if_pos c1] at h
      refine mj_gcp hC 1 ?_
      show P (33, [some (.ref 1), some (.int v1), some (.int v2), some (.int v3), none, none, none, none], [.int (-1)], (110, x), m)
      cases h
      exact mj_pret hC rfl hR
    · rw [if_neg c1] at h
      refine mj_gcp hC 3 ?_
      show P (mj_pick 32 16 (v2 < 1), [some (.ref 1), some (.int v1), some (.int v2), some (.int v3), none, none, none, none], [], (110, x), m)
      refine mj_pbr (fun c2 => ?_) (fun c2 => ?_)
      · rw [if_pos c2] at h
        refine mj_gcp hC 1 ?_
        show P (33, [some (.ref 1), some (.int v1), some (.int v2), some (.int v3), none, none, none, none], [.int (-1)], (110, x), m)
        cases h
        exact mj_pret hC rfl hR
      · rw [if_neg c2] at h
        refine mj_gcp hC 3 ?_
        show P (mj_pick 32 23 (200 < v2), [some (.ref 1), some (.int v1), some (.int v2), some (.int v3), none, none, none, none], [], (110, x), m)
        refine mj_pbr (fun c3 => ?_) (fun c3 => ?_)
        · rw [if_pos c3] at h
          refine mj_gcp hC 1 ?_
          show P (33, [some (.ref 1), some (.int v1), some (.int v2), some (.int v3), none, none, none, none], [.int (-1)], (110, x), m)
          cases h
          exact mj_pret hC rfl hR
        · rw [if_neg c3] at h
          refine mj_gcp hC 2 ?_
          show P (mj_pick 32 27 (v3 < 0), [some (.ref 1), some (.int v1), some (.int v2), some (.int v3), none, none, none, none], [], (110, x), m)
          refine mj_pbr (fun c4 => ?_) (fun c4 => ?_)
          · rw [if_pos c4] at h
            refine mj_gcp hC 1 ?_
            show P (33, [some (.ref 1), some (.int v1), some (.int v2), some (.int v3), none, none, none, none], [.int (-1)], (110, x), m)
            cases h
            exact mj_pret hC rfl hR
          · rw [if_neg c4] at h
            refine mj_gcp hC 3 ?_
            show P (mj_pick 34 32 (v3 ≤ 1), [some (.ref 1), some (.int v1), some (.int v2), some (.int v3), none, none, none, none], [], (110, x), m)
            refine mj_pbr (fun c5 => ?_) (fun c5 => ?_)
            · rw [if_pos c5] at h
              refine mj_gcp hC 3 ?_
              show P (39, [some (.ref 1), some (.int v1), some (.int v2), some (.int v3), none, none, none, none], [.int v1, .ref _], (110, x), m)
              obtain ⟨q6, eq6, h⟩ := mj_bnd h
              refine mj_pcall hC rfl (to_worksOf_x (Nat.le_trans (by decide) hd) (by decide) eq6) ?_
              show P (42, [some (.ref 1), some (.int v1), some (.int v2), some (.int v3), none, none, none, none], [.int q6], (110, x), m)
              refine mj_gcp hC 9 ?_
              show P (58, [some (.ref 1), some (.int v1), some (.int v2), some (.int v3), some (.int q6), some (.int 0), some (.int 0), none], [.ref 42, .ref 47], (110, x), m)
              obtain ⟨q7, eq7, h⟩ := mj_bnd h
              refine mj_pcall hC rfl (sa_copy_x (Nat.le_trans (by decide) hd) (by decide) eq7) ?_
              show P (61, [some (.ref 1), some (.int v1), some (.int v2), some (.int v3), some (.int q6), some (.int 0), some (.int 0), none], [], (110, x), q7)
              refine mj_gcp hC 2 ?_
              show P (64, [some (.ref 1), some (.int v1), some (.int v2), some (.int v3), some (.int q6), some (.int 0), some (.int 0), some (.int 0)], [], (110, x), q7)
              obtain ⟨q12, eq12, h⟩ := mj_bnd h
              refine mj_less hC (L0 := [some (.ref 1), some (.int v1), some (.int v2), some (.int v3), some (.int q6), some (.int 0), some (.int 0), some (.int 0)]) (And.intro rfl (And.intro rfl (And.intro rfl (And.intro rfl (And.intro rfl (And.intro rfl (And.intro rfl (And.intro rfl trivial)))))))) ?_
              refine mj_loop_P (A := fun z64 => P (64, [some (.ref 1), some (.int v1), some (.int v2), some (.int v3), some (.int q6), some (.int z64.1), some (.int z64.2.1), some (.int z64.2.2.1)], [], (110, x), z64.2.2.2)) (E := fun _ z64 => P (121, [none, none, none, some (.int v3), none, some (.int z64.1), some (.int z64.2.1), none], [], (110, x), z64.2.2.2)) (fun zz t w hb h0 h1 => bp_off_l64_x hC hd (by decide) zz hb h0 (fun ht => h1 0 ht)) mj_F _ q12 eq12 ?_
              refine mj_gcp hC 2 ?_
              show P (125, [none, none, none, some (.int v3), none, some (.int q12.2.1), some (.int q12.2.2.1), none], [.int q12.2.2.1, .int q12.2.1], (110, x), q12.2.2.2.2)
              obtain ⟨q13, eq13, h⟩ := mj_bnd h
              refine mj_pcall hC rfl (bp_gcd_x (Nat.le_trans (by decide) hd) eq13) ?_
              show P (128, [none, none, none, some (.int v3), none, some (.int q12.2.1), some (.int q12.2.2.1), none], [.int q13], (110, x), q12.2.2.2.2)
              refine mj_gcp hC 3 ?_
              show P (mj_pick 140 135 (q12.2.2.1 = 0), [none, none, none, some (.int v3), none, some (.int q12.2.1), some (.int q12.2.2.1), some (.int q13)], [], (110, x), q12.2.2.2.2)
              refine mj_pbr (fun c14 => ?_) (fun c14 => ?_)
              · rw [if_pos c14] at h
                refine mj_gcp hC 1 ?_
                show P (141, [none, none, none, some (.int v3), none, some (.int q12.2.1), some (.int q12.2.2.1), some (.int q13)], [.int v3], (110, x), q12.2.2.2.2)
                cases h
                exact mj_pret hC rfl hR
              · rw [if_neg c14] at h
                refine mj_gcp hC 2 ?_
                show P (mj_pick 140 142 (q13 = 0), [none, none, none, some (.int v3), none, some (.int q12.2.1), some (.int q12.2.2.1), some (.int q13)], [], (110, x), q12.2.2.2.2)
                refine mj_pbr (fun c15 => ?_) (fun c15 => ?_)
                · rw [if_pos c15] at h
                  refine mj_gcp hC 1 ?_
                  show P (141, [none, none, none, some (.int v3), none, some (.int q12.2.1), some (.int q12.2.2.1), some (.int q13)], [.int v3], (110, x), q12.2.2.2.2)
                  cases h
                  exact mj_pret hC rfl hR
                · rw [if_neg c15] at h
                  refine mj_gcp hC 2 ?_
                  show P (mj_pick 146 154 (v3 = 0), [none, none, none, some (.int v3), none, some (.int q12.2.1), some (.int q12.2.2.1), some (.int q13)], [], (110, x), q12.2.2.2.2)
                  refine mj_pbr (fun c16 => ?_) (fun c16 => ?_)
                  · rw [if_pos c16] at h
                    obtain ⟨k17, h⟩ := mj_ifn h
                    refine mj_gcp hC 4 ?_
                    show _ ∧ (P (159, [none, none, none, some (.int v3), none, some (.int q12.2.1), some (.int q12.2.2.1), some (.int q13)], [.int (q12.2.1 / q13)], (110, x), q12.2.2.2.2))
                    refine And.intro k17 (?_)
                    cases h
                    exact mj_pret hC rfl hR
                  · rw [if_neg c16] at h
                    obtain ⟨k18, h⟩ := mj_ifn h
                    refine mj_gcp hC 3 ?_
                    show _ ∧ (P (159, [none, none, none, some (.int v3), none, some (.int q12.2.1), some (.int q12.2.2.1), some (.int q13)], [.int (q12.2.2.1 / q13)], (110, x), q12.2.2.2.2))
                    refine And.intro k18 (?_)
                    cases h
                    exact mj_pret hC rfl hR
            · rw [if_neg c5] at h
              refine mj_gcp hC 1 ?_
              show P (33, [some (.ref 1), some (.int v1), some (.int v2), some (.int v3), none, none, none, none], [.int (-1)], (110, x), m)
              cases h
              exact mj_pret hC rfl hR
set_option maxRecDepth 20000 in
theorem bp_off_x {Ls tp ip x d : Nat} {Z : mj_X} (hd : 7 ≤ d) (htp : tp = 3 ∨ tp = 17) {v1 : Int32} {v2 : Int32} {v3 : Int32} {m : mj_M} {r : (Int32 × mj_M)} (h : bp_off tp v1 v2 v3 m = some r) : mj_Ex false (mj_sh Ls) (mj_rf tp ip) Z d 27 [.ref 1, .int v1, .int v2, .int v3] (110, x) m (some (.int r.1)) (110, x) r.2 := by
  exact mj_Ex_of (cd := mj_cd_27) (L := [some (.ref 1), some (.int v1), some (.int v2), some (.int v3), none, none, none, none]) (by omega) (by decide) rfl (Nat.le_of_ble_eq_true rfl) rfl (fun P hC => bp_off_p hC (by omega) htp h ⟨rfl, rfl, rfl⟩)
def bp_firstSlip_l36 (tp : Nat) (v1 : Int32) (v2 : Int32) (s36 : (Int32 × mj_M)) : Option (Nat × (Int32 × mj_M)) :=
  (if v1 < s36.1 then some (2, (s36.1, s36.2)) else
  (ck_pass tp 47 1 s36.2).bind fun q7 =>
  (if (mj_I (q7 47 10)) = 0 then some (0, ((s36.1 + 1), q7)) else
  some (1, (s36.1, q7))))
def bp_firstSlip (tp : Nat) (v1 : Int32) (v2 : Int32) (m : mj_M) : Option (Int32 × mj_M) :=
  (if v1 < 1 then some ((-1), m) else
  (if 200 < v1 then some ((-1), m) else
  (if v2 < 0 then some ((-1), m) else
  (if v2 ≤ 1 then (sa_copy 47 42 m).bind fun q5 =>
  (mj_loop (bp_firstSlip_l36 tp v1 v2) mj_F (1, q5)).bind fun q9 =>
  (if q9.1 = 0 then (if v2 = 0 then some (q9.2.1, q9.2.2) else
  some ((ig_numberOfTrailingZeros (mj_I (q9.2.2 47 10)) q9.2.2), q9.2.2)) else some ((-2), q9.2.2)) else
  some ((-1), m)))))
set_option maxRecDepth 20000 in
theorem bp_firstSlip_l36_x {Ls tp ip x d : Nat} {Z : mj_X} {R : Option Value → mj_G → mj_M → Prop} {P : mj_K → Prop} (hC : mj_cls false (mj_sh Ls) (mj_rf tp ip) mj_dv mj_cd_38 (mj_Ex false (mj_sh Ls) (mj_rf tp ip) Z d) R P) (hd : 6 ≤ d) (htp : tp = 3 ∨ tp = 17) {v1 : Int32} {v2 : Int32} (s36 : (Int32 × mj_M)) {t : Nat} {w : (Int32 × mj_M)} (h : bp_firstSlip_l36 tp v1 v2 s36 = some (t, w)) (h0 : t = 0 → P (36, [some (.ref 1), some (.int v1), some (.int v2), some (.int w.1)], [], (110, x), w.2)) (h1 : t = 1 → P (63, [some (.ref 1), none, some (.int v2), some (.int w.1)], [], (110, x), w.2)) (h2 : t = 2 → P (88, [none, none, none, none], [], (110, x), w.2)) : P (36, [some (.ref 1), some (.int v1), some (.int v2), some (.int s36.1)], [], (110, x), s36.2) := by
  unfold bp_firstSlip_l36 at h
  rcases htp with rfl | rfl
  all_goals
    refine mj_gcp hC 3 ?_
    show P (mj_pick 88 41 (v1 < s36.1), [some (.ref 1), some (.int v1), some (.int v2), some (.int s36.1)], [], (110, x), s36.2)
    refine mj_pbr (fun c6 => ?_) (fun c6 => ?_)
    · rw [if_pos c6] at h
      cases h
      exact mj_less hC (L0 := [none, none, none, none]) trivial (h2 rfl)
    · rw [if_neg c6] at h
      refine mj_gcp hC 5 ?_
      show P (50, [some (.ref 1), some (.int v1), some (.int v2), some (.int s36.1)], [.int 1, .ref 47, .ref 37], (110, x), s36.2)
      obtain ⟨q7, eq7, h⟩ := mj_bnd h
      refine mj_pcall hC rfl (ck_pass_x (Nat.le_trans (by decide) hd) (by decide) (by decide) eq7) ?_
      show P (53, [some (.ref 1), some (.int v1), some (.int v2), some (.int s36.1)], [], (110, x), q7)
      refine mj_gcp hC 4 ?_
      show P (mj_pick 82 63 ((mj_I (q7 47 10)) = 0), [some (.ref 1), some (.int v1), some (.int v2), some (.int s36.1)], [], (110, x), q7)
      refine mj_pbr (fun c8 => ?_) (fun c8 => ?_)
      · rw [if_pos c8] at h
        refine mj_gcp hC 2 ?_
        show P (36, [some (.ref 1), some (.int v1), some (.int v2), some (.int (s36.1 + 1))], [], (110, x), q7)
        cases h
        exact mj_less hC (L0 := [some (.ref 1), some (.int v1), some (.int v2), some (.int (s36.1 + 1))]) (And.intro rfl (And.intro rfl (And.intro rfl (And.intro rfl trivial)))) (h0 rfl)
      · rw [if_neg c8] at h
        cases h
        exact mj_less hC (L0 := [some (.ref 1), none, some (.int v2), some (.int s36.1)]) (And.intro rfl (And.intro rfl (And.intro rfl trivial))) (h1 rfl)
set_option maxRecDepth 20000 in
theorem bp_firstSlip_p {Ls tp ip x d : Nat} {Z : mj_X} {R : Option Value → mj_G → mj_M → Prop} {P : mj_K → Prop} (hC : mj_cls false (mj_sh Ls) (mj_rf tp ip) mj_dv mj_cd_38 (mj_Ex false (mj_sh Ls) (mj_rf tp ip) Z d) R P) (hd : 6 ≤ d) (htp : tp = 3 ∨ tp = 17) {v1 : Int32} {v2 : Int32} {m : mj_M} {r : (Int32 × mj_M)} (h : bp_firstSlip tp v1 v2 m = some r) (hR : R (some (.int r.1)) (110, x) r.2) : P (0, [some (.ref 1), some (.int v1), some (.int v2), none], [], (110, x), m) := by
  unfold bp_firstSlip at h
  rcases htp with rfl | rfl
  all_goals
    refine mj_gcp hC 3 ?_
    show P (mj_pick 21 5 (v1 < 1), [some (.ref 1), some (.int v1), some (.int v2), none], [], (110, x), m)
    refine mj_pbr (fun c1 => ?_) (fun c1 => ?_)
    · rw [if_pos c1] at h
      refine mj_gcp hC 1 ?_
      show P (22, [some (.ref 1), some (.int v1), some (.int v2), none], [.int (-1)], (110, x), m)
      cases h
      exact mj_pret hC rfl hR
    · rw [if_neg c1] at h
      refine mj_gcp hC 3 ?_
      show P (mj_pick 21 12 (200 < v1), [some (.ref 1), some (.int v1), some (.int v2), none], [], (110, x), m)
      refine mj_pbr (fun c2 => ?_) (fun c2 => ?_)
      · rw [if_pos c2] at h
        refine mj_gcp hC 1 ?_
        show P (22, [some (.ref 1), some (.int v1), some (.int v2), none], [.int (-1)], (110, x), m)
        cases h
        exact mj_pret hC rfl hR
      · rw [if_neg c2] at h
        refine mj_gcp hC 2 ?_
        show P (mj_pick 21 16 (v2 < 0), [some (.ref 1), some (.int v1), some (.int v2), none], [], (110, x), m)
        refine mj_pbr (fun c3 => ?_) (fun c3 => ?_)
        · rw [if_pos c3] at h
          refine mj_gcp hC 1 ?_
          show P (22, [some (.ref 1), some (.int v1), some (.int v2), none], [.int (-1)], (110, x), m)
          cases h
          exact mj_pret hC rfl hR
        · rw [if_neg c3] at h
          refine mj_gcp hC 3 ?_
          show P (mj_pick 23 21 (v2 ≤ 1), [some (.ref 1), some (.int v1), some (.int v2), none], [], (110, x), m)
          refine mj_pbr (fun c4 => ?_) (fun c4 => ?_)
          · rw [if_pos c4] at h
            refine mj_gcp hC 4 ?_
            show P (31, [some (.ref 1), some (.int v1), some (.int v2), none], [.ref 42, .ref 47], (110, x), m)
            obtain ⟨q5, eq5, h⟩ := mj_bnd h
            refine mj_pcall hC rfl (sa_copy_x (Nat.le_trans (by decide) hd) (by decide) eq5) ?_
            show P (34, [some (.ref 1), some (.int v1), some (.int v2), none], [], (110, x), q5)
            refine mj_gcp hC 2 ?_
            show P (36, [some (.ref 1), some (.int v1), some (.int v2), some (.int 1)], [], (110, x), q5)
            obtain ⟨q9, eq9, h⟩ := mj_bnd h
            refine mj_less hC (L0 := [some (.ref 1), some (.int v1), some (.int v2), some (.int 1)]) (And.intro rfl (And.intro rfl (And.intro rfl (And.intro rfl trivial)))) ?_
            refine mj_loop_P (A := fun z36 => P (36, [some (.ref 1), some (.int v1), some (.int v2), some (.int z36.1)], [], (110, x), z36.2)) (E := fun j z36 => (j = 0 → P (63, [some (.ref 1), none, some (.int v2), some (.int z36.1)], [], (110, x), z36.2)) ∧ (¬ j = 0 → P (88, [none, none, none, none], [], (110, x), z36.2))) (fun zz t w hb h0 h1 => bp_firstSlip_l36_x hC hd (by decide) zz hb h0 (fun ht => (h1 0 ht).1 rfl) (fun ht => (h1 1 ht).2 (by decide))) mj_F _ q9 eq9 ⟨fun hj => ?_, fun hj => ?_⟩
            · rw [if_pos hj] at h
              refine mj_gcp hC 2 ?_
              show P (mj_pick 67 71 (v2 = 0), [some (.ref 1), none, some (.int v2), some (.int q9.2.1)], [], (110, x), q9.2.2)
              refine mj_pbr (fun c10 => ?_) (fun c10 => ?_)
              · rw [if_pos c10] at h
                refine mj_gcp hC 2 ?_
                show P (81, [some (.ref 1), none, some (.int v2), some (.int q9.2.1)], [.int q9.2.1], (110, x), q9.2.2)
                cases h
                exact mj_pret hC rfl hR
              · rw [if_neg c10] at h
                refine mj_gcp hC 3 ?_
                show P (78, [some (.ref 1), none, some (.int v2), some (.int q9.2.1)], [.int (mj_I (q9.2.2 47 10))], (110, x), q9.2.2)
                refine mj_pcall hC rfl (ig_numberOfTrailingZeros_x (Nat.le_trans (by decide) hd)) ?_
                show P (81, [some (.ref 1), none, some (.int v2), some (.int q9.2.1)], [.int (ig_numberOfTrailingZeros (mj_I (q9.2.2 47 10)) q9.2.2)], (110, x), q9.2.2)
                cases h
                exact mj_pret hC rfl hR
            · rw [if_neg hj] at h
              refine mj_gcp hC 1 ?_
              show P (90, [none, none, none, none], [.int (-2)], (110, x), q9.2.2)
              cases h
              exact mj_pret hC rfl hR
          · rw [if_neg c4] at h
            refine mj_gcp hC 1 ?_
            show P (22, [some (.ref 1), some (.int v1), some (.int v2), none], [.int (-1)], (110, x), m)
            cases h
            exact mj_pret hC rfl hR
set_option maxRecDepth 20000 in
theorem bp_firstSlip_x {Ls tp ip x d : Nat} {Z : mj_X} (hd : 7 ≤ d) (htp : tp = 3 ∨ tp = 17) {v1 : Int32} {v2 : Int32} {m : mj_M} {r : (Int32 × mj_M)} (h : bp_firstSlip tp v1 v2 m = some r) : mj_Ex false (mj_sh Ls) (mj_rf tp ip) Z d 38 [.ref 1, .int v1, .int v2] (110, x) m (some (.int r.1)) (110, x) r.2 := by
  exact mj_Ex_of (cd := mj_cd_38) (L := [some (.ref 1), some (.int v1), some (.int v2), none]) (by omega) (by decide) rfl (Nat.le_of_ble_eq_true rfl) rfl (fun P hC => bp_firstSlip_p hC (by omega) htp h ⟨rfl, rfl, rfl⟩)
def bp_startBy_j100l61 (tp : Nat)  (v1 : Int32) (v2 : Int32) (v3 : Int32) (v4 : Int32) (s1 : Int32) (s2 : Int32) (m : mj_M) : Option (Nat × (Int32 × mj_M)) :=
  (ck_pass tp 47 1 (fx_put m 67 s1 s2)).bind fun q8 =>
  some (0, ((v4 + 1), q8))
def bp_startBy_l61 (tp : Nat) (v1 : Int32) (v2 : Int32) (v3 : Int32) (s61 : (Int32 × mj_M)) : Option (Nat × (Int32 × mj_M)) :=
  (if v2 ≤ s61.1 then some (1, (s61.1, s61.2)) else
  (if (sa_isFree 47 v3 s61.2) = 0 then bp_startBy_j100l61 tp v1 v2 v3 s61.1 s61.1 0 s61.2 else
  (ck_beatOf tp 47 1 s61.2).bind fun q9 =>
  bp_startBy_j100l61 tp v1 v2 v3 s61.1 s61.1 q9.1 q9.2))
def bp_startBy_l139 (tp : Nat)  (s139 : (Int32 × Int32 × mj_M)) : Option (Nat × (Int32 × Int32 × mj_M)) :=
  (if s139.2.1 < 0 then some (2, (s139.1, s139.2.1, s139.2.2)) else
  (if 0 < (s139.1 - (fx_at s139.2.2 67 s139.2.1)) then some (0, ((s139.1 - (fx_at s139.2.2 67 s139.2.1)), (s139.2.1 + (-1)), s139.2.2)) else
  some (1, ((s139.1 - (fx_at s139.2.2 67 s139.2.1)), s139.2.1, s139.2.2))))
def bp_startBy (tp : Nat) (v1 : Int32) (v2 : Int32) (m : mj_M) : Option (Int32 × mj_M) :=
  (if (to_isWork tp v1 m) = 0 then some ((-1), m) else
  (if (sa_isDone 42 v1 m) = 0 then (if v2 < 1 then some ((-1), m) else
  (if v2 ≤ 99 then (sa_copy 47 42 m).bind fun q5 =>
  (mj_loop (bp_startBy_l61 tp v1 v2 (fx_at m (tp + 6) v1)) mj_F (0, q5)).bind fun q10 =>
  (mj_loop (bp_startBy_l139 tp) mj_F ((fx_at q10.2.2 45 v1), (v2 - 1), q10.2.2)).bind fun q13 =>
  (if q13.1 = 0 then some (q13.2.2.1, q13.2.2.2) else some ((-2), q13.2.2.2)) else
  some ((-1), m))) else
  some ((-1), m)))
set_option maxRecDepth 20000 in
theorem bp_startBy_j100l61_x {Ls tp ip x d : Nat} {Z : mj_X} {R : Option Value → mj_G → mj_M → Prop} {P : mj_K → Prop} (hC : mj_cls false (mj_sh Ls) (mj_rf tp ip) mj_dv mj_cd_40 (mj_Ex false (mj_sh Ls) (mj_rf tp ip) Z d) R P) (hd : 6 ≤ d) (htp : tp = 3 ∨ tp = 17)  {v1 : Int32} {v2 : Int32} {v3 : Int32} {v4 : Int32} {s1 : Int32} {s2 : Int32} {m : mj_M} {t : Nat} {w : (Int32 × mj_M)} (h : bp_startBy_j100l61 tp  v1 v2 v3 v4 s1 s2 m = some (t, w)) (h0 : t = 0 → P (61, [some (.ref 1), some (.int v1), some (.int v2), some (.int v3), some (.int w.1), none], [], (110, x), w.2)) (h1 : t = 1 → P (121, [some (.ref 1), some (.int v1), some (.int v2), none, none, none], [], (110, x), w.2)) : P (100, [some (.ref 1), some (.int v1), some (.int v2), some (.int v3), some (.int v4), none], [.int s2, .int s1, .ref 67], (110, x), m) := by
  unfold bp_startBy_j100l61 at h
  rcases htp with rfl | rfl
  all_goals
    refine mj_pcall hC rfl (bp_put_x (Nat.le_trans (by decide) hd) (by decide)) ?_
    show P (103, [some (.ref 1), some (.int v1), some (.int v2), some (.int v3), some (.int v4), none], [], (110, x), (fx_put m 67 s1 s2))
    refine mj_gcp hC 5 ?_
    show P (112, [some (.ref 1), some (.int v1), some (.int v2), some (.int v3), some (.int v4), none], [.int 1, .ref 47, .ref 37], (110, x), (fx_put m 67 s1 s2))
    obtain ⟨q8, eq8, h⟩ := mj_bnd h
    refine mj_pcall hC rfl (ck_pass_x (Nat.le_trans (by decide) hd) (by decide) (by decide) eq8) ?_
    show P (115, [some (.ref 1), some (.int v1), some (.int v2), some (.int v3), some (.int v4), none], [], (110, x), q8)
    refine mj_gcp hC 2 ?_
    show P (61, [some (.ref 1), some (.int v1), some (.int v2), some (.int v3), some (.int (v4 + 1)), none], [], (110, x), q8)
    cases h
    exact mj_less hC (L0 := [some (.ref 1), some (.int v1), some (.int v2), some (.int v3), some (.int (v4 + 1)), none]) (And.intro rfl (And.intro rfl (And.intro rfl (And.intro rfl (And.intro rfl trivial))))) (h0 rfl)
set_option maxRecDepth 20000 in
theorem bp_startBy_l61_x {Ls tp ip x d : Nat} {Z : mj_X} {R : Option Value → mj_G → mj_M → Prop} {P : mj_K → Prop} (hC : mj_cls false (mj_sh Ls) (mj_rf tp ip) mj_dv mj_cd_40 (mj_Ex false (mj_sh Ls) (mj_rf tp ip) Z d) R P) (hd : 6 ≤ d) (htp : tp = 3 ∨ tp = 17) {v1 : Int32} {v2 : Int32} {v3 : Int32} (s61 : (Int32 × mj_M)) {t : Nat} {w : (Int32 × mj_M)} (h : bp_startBy_l61 tp v1 v2 v3 s61 = some (t, w)) (h0 : t = 0 → P (61, [some (.ref 1), some (.int v1), some (.int v2), some (.int v3), some (.int w.1), none], [], (110, x), w.2)) (h1 : t = 1 → P (121, [some (.ref 1), some (.int v1), some (.int v2), none, none, none], [], (110, x), w.2)) : P (61, [some (.ref 1), some (.int v1), some (.int v2), some (.int v3), some (.int s61.1), none], [], (110, x), s61.2) := by
  unfold bp_startBy_l61 at h
  rcases htp with rfl | rfl
  all_goals
    refine mj_gcp hC 3 ?_
    show P (mj_pick 121 67 (v2 ≤ s61.1), [some (.ref 1), some (.int v1), some (.int v2), some (.int v3), some (.int s61.1), none], [], (110, x), s61.2)
    refine mj_pbr (fun c6 => ?_) (fun c6 => ?_)
    · rw [if_pos c6] at h
      cases h
      exact mj_less hC (L0 := [some (.ref 1), some (.int v1), some (.int v2), none, none, none]) (And.intro rfl (And.intro rfl (And.intro rfl trivial))) (h1 rfl)
    · rw [if_neg c6] at h
      refine mj_gcp hC 6 ?_
      show P (78, [some (.ref 1), some (.int v1), some (.int v2), some (.int v3), some (.int s61.1), none], [.int v3, .ref 47, .int s61.1, .ref 67], (110, x), s61.2)
      refine mj_pcall hC rfl (sa_isFree_x (Nat.le_trans (by decide) hd) (by decide)) ?_
      show P (81, [some (.ref 1), some (.int v1), some (.int v2), some (.int v3), some (.int s61.1), none], [.int (sa_isFree 47 v3 s61.2), .int s61.1, .ref 67], (110, x), s61.2)
      refine mj_gcp hC 1 ?_
      show P (mj_pick 99 84 ((sa_isFree 47 v3 s61.2) = 0), [some (.ref 1), some (.int v1), some (.int v2), some (.int v3), some (.int s61.1), none], [.int s61.1, .ref 67], (110, x), s61.2)
      refine mj_pbr (fun c7 => ?_) (fun c7 => ?_)
      · rw [if_pos c7] at h
        refine mj_gcp hC 1 ?_
        show P (100, [some (.ref 1), some (.int v1), some (.int v2), some (.int v3), some (.int s61.1), none], [.int 0, .int s61.1, .ref 67], (110, x), s61.2)
        exact mj_less hC (L0 := [some (.ref 1), some (.int v1), some (.int v2), some (.int v3), some (.int s61.1), none]) (And.intro rfl (And.intro rfl (And.intro rfl (And.intro rfl (And.intro rfl trivial))))) (bp_startBy_j100l61_x hC hd (by decide) h h0 h1)
      · rw [if_neg c7] at h
        refine mj_gcp hC 5 ?_
        show P (93, [some (.ref 1), some (.int v1), some (.int v2), some (.int v3), some (.int s61.1), none], [.int 1, .ref 47, .ref 37, .int s61.1, .ref 67], (110, x), s61.2)
        obtain ⟨q9, eq9, h⟩ := mj_bnd h
        refine mj_pcall hC rfl (ck_beatOf_x (Nat.le_trans (by decide) hd) (by decide) (by decide) eq9) ?_
        show P (96, [some (.ref 1), some (.int v1), some (.int v2), some (.int v3), some (.int s61.1), none], [.int q9.1, .int s61.1, .ref 67], (110, x), q9.2)
        refine mj_gcp hC 1 ?_
        show P (100, [some (.ref 1), some (.int v1), some (.int v2), some (.int v3), some (.int s61.1), none], [.int q9.1, .int s61.1, .ref 67], (110, x), q9.2)
        exact mj_less hC (L0 := [some (.ref 1), some (.int v1), some (.int v2), some (.int v3), some (.int s61.1), none]) (And.intro rfl (And.intro rfl (And.intro rfl (And.intro rfl (And.intro rfl trivial))))) (bp_startBy_j100l61_x hC hd (by decide) h h0 h1)
set_option maxRecDepth 20000 in
theorem bp_startBy_l139_x {Ls tp ip x d : Nat} {Z : mj_X} {R : Option Value → mj_G → mj_M → Prop} {P : mj_K → Prop} (hC : mj_cls false (mj_sh Ls) (mj_rf tp ip) mj_dv mj_cd_40 (mj_Ex false (mj_sh Ls) (mj_rf tp ip) Z d) R P) (hd : 6 ≤ d) (htp : tp = 3 ∨ tp = 17)  (s139 : (Int32 × Int32 × mj_M)) {t : Nat} {w : (Int32 × Int32 × mj_M)} (h : bp_startBy_l139 tp s139 = some (t, w)) (h0 : t = 0 → P (139, [some (.ref 1), none, none, none, some (.int w.1), some (.int w.2.1)], [], (110, x), w.2.2)) (h1 : t = 1 → P (163, [none, none, none, none, none, some (.int w.2.1)], [], (110, x), w.2.2)) (h2 : t = 2 → P (172, [none, none, none, none, none, none], [], (110, x), w.2.2)) : P (139, [some (.ref 1), none, none, none, some (.int s139.1), some (.int s139.2.1)], [], (110, x), s139.2.2) := by
  obtain ⟨sa, sb, sm⟩ := s139
  unfold bp_startBy_l139 at h
  dsimp only at h
  rcases htp with rfl | rfl
  all_goals
    refine mj_gcp hC 2 ?_
    show P (mj_pick 172 144 (sb < 0), [some (.ref 1), none, none, none, some (.int sa), some (.int sb)], [], (110, x), sm)
    refine mj_pbr (fun c11 => ?_) (fun c11 => ?_)
    · rw [if_pos c11] at h
      cases h
      exact mj_less hC (L0 := [none, none, none, none, none, none]) trivial (h2 rfl)
    · rw [if_neg c11] at h
      refine mj_gcp hC 4 ?_
      show P (152, [some (.ref 1), none, none, none, some (.int sa), some (.int sb)], [.int sb, .ref 67, .int sa], (110, x), sm)
      refine mj_pcall hC rfl (bp_at_x (Nat.le_trans (by decide) hd) (by decide)) ?_
      show P (155, [some (.ref 1), none, none, none, some (.int sa), some (.int sb)], [.int (fx_at sm 67 sb), .int sa], (110, x), sm)
      refine mj_gcp hC 4 ?_
      show P (mj_pick 166 163 (0 < (sa - (fx_at sm 67 sb))), [some (.ref 1), none, none, none, some (.int (sa - (fx_at sm 67 sb))), some (.int sb)], [], (110, x), sm)
      refine mj_pbr (fun c12 => ?_) (fun c12 => ?_)
      · rw [if_pos c12] at h
        refine mj_gcp hC 2 ?_
        show P (139, [some (.ref 1), none, none, none, some (.int (sa - (fx_at sm 67 sb))), some (.int (sb + (-1)))], [], (110, x), sm)
        generalize (sa - (fx_at sm 67 sb)) = nz0 at h ⊢
        generalize (sb + (-1)) = nz1 at h ⊢
        cases h
        exact mj_less hC (L0 := [some (.ref 1), none, none, none, some (.int nz0), some (.int nz1)]) (And.intro rfl (And.intro rfl (And.intro rfl trivial))) (h0 rfl)
      · rw [if_neg c12] at h
        generalize (sa - (fx_at sm 67 sb)) = nz0 at h ⊢
        cases h
        exact mj_less hC (L0 := [none, none, none, none, none, some (.int sb)]) (And.intro rfl trivial) (h1 rfl)
set_option maxRecDepth 20000 in
theorem bp_startBy_p {Ls tp ip x d : Nat} {Z : mj_X} {R : Option Value → mj_G → mj_M → Prop} {P : mj_K → Prop} (hC : mj_cls false (mj_sh Ls) (mj_rf tp ip) mj_dv mj_cd_40 (mj_Ex false (mj_sh Ls) (mj_rf tp ip) Z d) R P) (hd : 6 ≤ d) (htp : tp = 3 ∨ tp = 17) {v1 : Int32} {v2 : Int32} {m : mj_M} {r : (Int32 × mj_M)} (h : bp_startBy tp v1 v2 m = some r) (hR : R (some (.int r.1)) (110, x) r.2) : P (0, [some (.ref 1), some (.int v1), some (.int v2), none, none, none], [], (110, x), m) := by
  unfold bp_startBy at h
  rcases htp with rfl | rfl
  all_goals
    refine mj_gcp hC 3 ?_
    show P (5, [some (.ref 1), some (.int v1), some (.int v2), none, none, none], [.int v1, .ref _], (110, x), m)
    refine mj_pcall hC rfl (to_isWork_x (Nat.le_trans (by decide) hd) (by decide)) ?_
    show P (8, [some (.ref 1), some (.int v1), some (.int v2), none, none, none], [.int (to_isWork _ v1 m)], (110, x), m)
    refine mj_gcp hC 1 ?_
    show P (mj_pick 33 11 ((to_isWork _ v1 m) = 0), [some (.ref 1), some (.int v1), some (.int v2), none, none, none], [], (110, x), m)
    refine mj_pbr (fun c1 => ?_) (fun c1 => ?_)
    · rw [if_pos c1] at h
      refine mj_gcp hC 1 ?_
      show P (34, [some (.ref 1), some (.int v1), some (.int v2), none, none, none], [.int (-1)], (110, x), m)
      cases h
      exact mj_pret hC rfl hR
    · rw [if_neg c1] at h
      refine mj_gcp hC 3 ?_
      show P (16, [some (.ref 1), some (.int v1), some (.int v2), none, none, none], [.int v1, .ref 42], (110, x), m)
      refine mj_pcall hC rfl (sa_isDone_x (Nat.le_trans (by decide) hd) (by decide)) ?_
      show P (19, [some (.ref 1), some (.int v1), some (.int v2), none, none, none], [.int (sa_isDone 42 v1 m)], (110, x), m)
      refine mj_gcp hC 1 ?_
      show P (mj_pick 22 33 ((sa_isDone 42 v1 m) = 0), [some (.ref 1), some (.int v1), some (.int v2), none, none, none], [], (110, x), m)
      refine mj_pbr (fun c2 => ?_) (fun c2 => ?_)
      · rw [if_pos c2] at h
        refine mj_gcp hC 3 ?_
        show P (mj_pick 33 27 (v2 < 1), [some (.ref 1), some (.int v1), some (.int v2), none, none, none], [], (110, x), m)
        refine mj_pbr (fun c3 => ?_) (fun c3 => ?_)
        · rw [if_pos c3] at h
          refine mj_gcp hC 1 ?_
          show P (34, [some (.ref 1), some (.int v1), some (.int v2), none, none, none], [.int (-1)], (110, x), m)
          cases h
          exact mj_pret hC rfl hR
        · rw [if_neg c3] at h
          refine mj_gcp hC 3 ?_
          show P (mj_pick 35 33 (v2 ≤ 99), [some (.ref 1), some (.int v1), some (.int v2), none, none, none], [], (110, x), m)
          refine mj_pbr (fun c4 => ?_) (fun c4 => ?_)
          · rw [if_pos c4] at h
            refine mj_gcp hC 4 ?_
            show P (43, [some (.ref 1), some (.int v1), some (.int v2), none, none, none], [.int v1, .ref _], (110, x), m)
            refine mj_pcall hC rfl (bp_at_x (Nat.le_trans (by decide) hd) (by decide)) ?_
            show P (46, [some (.ref 1), some (.int v1), some (.int v2), none, none, none], [.int (fx_at m _ v1)], (110, x), m)
            refine mj_gcp hC 5 ?_
            show P (55, [some (.ref 1), some (.int v1), some (.int v2), some (.int (fx_at m _ v1)), none, none], [.ref 42, .ref 47], (110, x), m)
            obtain ⟨q5, eq5, h⟩ := mj_bnd h
            refine mj_pcall hC rfl (sa_copy_x (Nat.le_trans (by decide) hd) (by decide) eq5) ?_
            show P (58, [some (.ref 1), some (.int v1), some (.int v2), some (.int (fx_at m _ v1)), none, none], [], (110, x), q5)
            refine mj_gcp hC 2 ?_
            show P (61, [some (.ref 1), some (.int v1), some (.int v2), some (.int (fx_at m _ v1)), some (.int 0), none], [], (110, x), q5)
            obtain ⟨q10, eq10, h⟩ := mj_bnd h
            refine mj_less hC (L0 := [some (.ref 1), some (.int v1), some (.int v2), some (.int (fx_at m _ v1)), some (.int 0), none]) (And.intro rfl (And.intro rfl (And.intro rfl (And.intro rfl (And.intro rfl trivial))))) ?_
            refine mj_loop_P (A := fun z61 => P (61, [some (.ref 1), some (.int v1), some (.int v2), some (.int (fx_at m _ v1)), some (.int z61.1), none], [], (110, x), z61.2)) (E := fun _ z61 => P (121, [some (.ref 1), some (.int v1), some (.int v2), none, none, none], [], (110, x), z61.2)) (fun zz t w hb h0 h1 => bp_startBy_l61_x hC hd (by decide) zz hb h0 (fun ht => h1 0 ht)) mj_F _ q10 eq10 ?_
            refine mj_gcp hC 4 ?_
            show P (129, [some (.ref 1), some (.int v1), some (.int v2), none, none, none], [.int v1, .ref 45], (110, x), q10.2.2)
            refine mj_pcall hC rfl (bp_at_x (Nat.le_trans (by decide) hd) (by decide)) ?_
            show P (132, [some (.ref 1), some (.int v1), some (.int v2), none, none, none], [.int (fx_at q10.2.2 45 v1)], (110, x), q10.2.2)
            refine mj_gcp hC 5 ?_
            show P (139, [some (.ref 1), some (.int v1), some (.int v2), none, some (.int (fx_at q10.2.2 45 v1)), some (.int (v2 - 1))], [], (110, x), q10.2.2)
            obtain ⟨q13, eq13, h⟩ := mj_bnd h
            refine mj_less hC (L0 := [some (.ref 1), none, none, none, some (.int (fx_at q10.2.2 45 v1)), some (.int (v2 - 1))]) (And.intro rfl (And.intro rfl (And.intro rfl trivial))) ?_
            refine mj_loop_P (A := fun z139 => P (139, [some (.ref 1), none, none, none, some (.int z139.1), some (.int z139.2.1)], [], (110, x), z139.2.2)) (E := fun j z139 => (j = 0 → P (163, [none, none, none, none, none, some (.int z139.2.1)], [], (110, x), z139.2.2)) ∧ (¬ j = 0 → P (172, [none, none, none, none, none, none], [], (110, x), z139.2.2))) (fun zz t w hb h0 h1 => bp_startBy_l139_x hC hd (by decide) zz hb h0 (fun ht => (h1 0 ht).1 rfl) (fun ht => (h1 1 ht).2 (by decide))) mj_F _ q13 eq13 ⟨fun hj => ?_, fun hj => ?_⟩
            · rw [if_pos hj] at h
              refine mj_gcp hC 1 ?_
              show P (165, [none, none, none, none, none, some (.int q13.2.2.1)], [.int q13.2.2.1], (110, x), q13.2.2.2)
              cases h
              exact mj_pret hC rfl hR
            · rw [if_neg hj] at h
              refine mj_gcp hC 1 ?_
              show P (174, [none, none, none, none, none, none], [.int (-2)], (110, x), q13.2.2.2)
              cases h
              exact mj_pret hC rfl hR
          · rw [if_neg c4] at h
            refine mj_gcp hC 1 ?_
            show P (34, [some (.ref 1), some (.int v1), some (.int v2), none, none, none], [.int (-1)], (110, x), m)
            cases h
            exact mj_pret hC rfl hR
      · rw [if_neg c2] at h
        refine mj_gcp hC 1 ?_
        show P (34, [some (.ref 1), some (.int v1), some (.int v2), none, none, none], [.int (-1)], (110, x), m)
        cases h
        exact mj_pret hC rfl hR
set_option maxRecDepth 20000 in
theorem bp_startBy_x {Ls tp ip x d : Nat} {Z : mj_X} (hd : 7 ≤ d) (htp : tp = 3 ∨ tp = 17) {v1 : Int32} {v2 : Int32} {m : mj_M} {r : (Int32 × mj_M)} (h : bp_startBy tp v1 v2 m = some r) : mj_Ex false (mj_sh Ls) (mj_rf tp ip) Z d 40 [.ref 1, .int v1, .int v2] (110, x) m (some (.int r.1)) (110, x) r.2 := by
  exact mj_Ex_of (cd := mj_cd_40) (L := [some (.ref 1), some (.int v1), some (.int v2), none, none, none]) (by omega) (by decide) rfl (Nat.le_of_ble_eq_true rfl) rfl (fun P hC => bp_startBy_p hC (by omega) htp h ⟨rfl, rfl, rfl⟩)
def bp_isShiftedBy_l22 (tp : Nat) (v2 : Int32) (v3 : Int32) (s22 : (Int32 × mj_M)) : Option (Nat × (Int32 × mj_M)) :=
  (if v3 < s22.1 then some (2, (s22.1, s22.2)) else
  (ck_pass tp 47 1 s22.2).bind fun q3 =>
  (si_fit 47 v2 q3).bind fun q4 =>
  (if q4 = 0 then some (1, (s22.1, q3)) else
  some (0, ((s22.1 + 1), q3))))
def bp_isShiftedBy (tp : Nat) (v1 : Int32) (v2 : Int32) (v3 : Int32) (m : mj_M) : Option (Int32 × mj_M) :=
  (sa_begin tp 47 m).bind fun q1 =>
  (mj_loop (bp_isShiftedBy_l22 tp v2 v3) mj_F (1, (mj_up q1 47 2 (.int v1)))).bind fun q6 =>
  (if q6.1 = 0 then some (0, q6.2.2) else some (1, q6.2.2))
set_option maxRecDepth 20000 in
theorem bp_isShiftedBy_l22_x {Ls tp ip x d : Nat} {Z : mj_X} {R : Option Value → mj_G → mj_M → Prop} {P : mj_K → Prop} (hC : mj_cls false (mj_sh Ls) (mj_rf tp ip) mj_dv mj_cd_46 (mj_Ex false (mj_sh Ls) (mj_rf tp ip) Z d) R P) (hd : 6 ≤ d) (htp : tp = 3 ∨ tp = 17) {v2 : Int32} {v3 : Int32} (s22 : (Int32 × mj_M)) {t : Nat} {w : (Int32 × mj_M)} (h : bp_isShiftedBy_l22 tp v2 v3 s22 = some (t, w)) (h0 : t = 0 → P (22, [some (.ref 1), none, some (.int v2), some (.int v3), some (.int w.1)], [], (110, x), w.2)) (h1 : t = 1 → P (55, [none, none, none, none, none], [], (110, x), w.2)) (h2 : t = 2 → P (63, [none, none, none, none, none], [], (110, x), w.2)) : P (22, [some (.ref 1), none, some (.int v2), some (.int v3), some (.int s22.1)], [], (110, x), s22.2) := by
  unfold bp_isShiftedBy_l22 at h
  rcases htp with rfl | rfl
  all_goals
    refine mj_gcp hC 3 ?_
    show P (mj_pick 63 28 (v3 < s22.1), [some (.ref 1), none, some (.int v2), some (.int v3), some (.int s22.1)], [], (110, x), s22.2)
    refine mj_pbr (fun c2 => ?_) (fun c2 => ?_)
    · rw [if_pos c2] at h
      cases h
      exact mj_less hC (L0 := [none, none, none, none, none]) trivial (h2 rfl)
    · rw [if_neg c2] at h
      refine mj_gcp hC 5 ?_
      show P (37, [some (.ref 1), none, some (.int v2), some (.int v3), some (.int s22.1)], [.int 1, .ref 47, .ref 37], (110, x), s22.2)
      obtain ⟨q3, eq3, h⟩ := mj_bnd h
      refine mj_pcall hC rfl (ck_pass_x (Nat.le_trans (by decide) hd) (by decide) (by decide) eq3) ?_
      show P (40, [some (.ref 1), none, some (.int v2), some (.int v3), some (.int s22.1)], [], (110, x), q3)
      refine mj_gcp hC 5 ?_
      show P (49, [some (.ref 1), none, some (.int v2), some (.int v3), some (.int s22.1)], [.int v2, .ref 47, .ref 61], (110, x), q3)
      obtain ⟨q4, eq4, h⟩ := mj_bnd h
      refine mj_pcall hC rfl (si_fit_x (Nat.le_trans (by decide) hd) (by decide) eq4) ?_
      show P (52, [some (.ref 1), none, some (.int v2), some (.int v3), some (.int s22.1)], [.int q4], (110, x), q3)
      refine mj_gcp hC 1 ?_
      show P (mj_pick 55 57 (q4 = 0), [some (.ref 1), none, some (.int v2), some (.int v3), some (.int s22.1)], [], (110, x), q3)
      refine mj_pbr (fun c5 => ?_) (fun c5 => ?_)
      · rw [if_pos c5] at h
        cases h
        exact mj_less hC (L0 := [none, none, none, none, none]) trivial (h1 rfl)
      · rw [if_neg c5] at h
        refine mj_gcp hC 2 ?_
        show P (22, [some (.ref 1), none, some (.int v2), some (.int v3), some (.int (s22.1 + 1))], [], (110, x), q3)
        cases h
        exact mj_less hC (L0 := [some (.ref 1), none, some (.int v2), some (.int v3), some (.int (s22.1 + 1))]) (And.intro rfl (And.intro rfl (And.intro rfl (And.intro rfl trivial)))) (h0 rfl)
set_option maxRecDepth 20000 in
theorem bp_isShiftedBy_p {Ls tp ip x d : Nat} {Z : mj_X} {R : Option Value → mj_G → mj_M → Prop} {P : mj_K → Prop} (hC : mj_cls false (mj_sh Ls) (mj_rf tp ip) mj_dv mj_cd_46 (mj_Ex false (mj_sh Ls) (mj_rf tp ip) Z d) R P) (hd : 6 ≤ d) (htp : tp = 3 ∨ tp = 17) {v1 : Int32} {v2 : Int32} {v3 : Int32} {m : mj_M} {r : (Int32 × mj_M)} (h : bp_isShiftedBy tp v1 v2 v3 m = some r) (hR : R (some (.int r.1)) (110, x) r.2) : P (0, [some (.ref 1), some (.int v1), some (.int v2), some (.int v3), none], [], (110, x), m) := by
  unfold bp_isShiftedBy at h
  rcases htp with rfl | rfl
  all_goals
    refine mj_gcp hC 4 ?_
    show P (8, [some (.ref 1), some (.int v1), some (.int v2), some (.int v3), none], [.ref _, .ref 47], (110, x), m)
    obtain ⟨q1, eq1, h⟩ := mj_bnd h
    refine mj_pcall hC rfl (sa_begin_x (Nat.le_trans (by decide) hd) (by decide) (by decide) eq1) ?_
    show P (11, [some (.ref 1), some (.int v1), some (.int v2), some (.int v3), none], [], (110, x), q1)
    refine mj_gcp hC 6 ?_
    show P (22, [some (.ref 1), some (.int v1), some (.int v2), some (.int v3), some (.int 1)], [], (110, x), (mj_up q1 47 2 (.int v1)))
    obtain ⟨q6, eq6, h⟩ := mj_bnd h
    refine mj_less hC (L0 := [some (.ref 1), none, some (.int v2), some (.int v3), some (.int 1)]) (And.intro rfl (And.intro rfl (And.intro rfl (And.intro rfl trivial)))) ?_
    refine mj_loop_P (A := fun z22 => P (22, [some (.ref 1), none, some (.int v2), some (.int v3), some (.int z22.1)], [], (110, x), z22.2)) (E := fun j z22 => (j = 0 → P (55, [none, none, none, none, none], [], (110, x), z22.2)) ∧ (¬ j = 0 → P (63, [none, none, none, none, none], [], (110, x), z22.2))) (fun zz t w hb h0 h1 => bp_isShiftedBy_l22_x hC hd (by decide) zz hb h0 (fun ht => (h1 0 ht).1 rfl) (fun ht => (h1 1 ht).2 (by decide))) mj_F _ q6 eq6 ⟨fun hj => ?_, fun hj => ?_⟩
    · rw [if_pos hj] at h
      refine mj_gcp hC 1 ?_
      show P (56, [none, none, none, none, none], [.int 0], (110, x), q6.2.2)
      cases h
      exact mj_pret hC rfl hR
    · rw [if_neg hj] at h
      refine mj_gcp hC 1 ?_
      show P (64, [none, none, none, none, none], [.int 1], (110, x), q6.2.2)
      cases h
      exact mj_pret hC rfl hR
set_option maxRecDepth 20000 in
theorem bp_isShiftedBy_x {Ls tp ip x d : Nat} {Z : mj_X} (hd : 7 ≤ d) (htp : tp = 3 ∨ tp = 17) {v1 : Int32} {v2 : Int32} {v3 : Int32} {m : mj_M} {r : (Int32 × mj_M)} (h : bp_isShiftedBy tp v1 v2 v3 m = some r) : mj_Ex false (mj_sh Ls) (mj_rf tp ip) Z d 46 [.ref 1, .int v1, .int v2, .int v3] (110, x) m (some (.int r.1)) (110, x) r.2 := by
  exact mj_Ex_of (cd := mj_cd_46) (L := [some (.ref 1), some (.int v1), some (.int v2), some (.int v3), none]) (by omega) (by decide) rfl (Nat.le_of_ble_eq_true rfl) rfl (fun P hC => bp_isShiftedBy_p hC (by omega) htp h ⟨rfl, rfl, rfl⟩)
