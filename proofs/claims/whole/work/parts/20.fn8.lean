/-! FUNCTIONS OUT OF THE INSTRUCTIONS, AND THAT A RUN GIVES THEM (made by wip/whole/emit.py) -/
def ck_pass_j57l25 (tp : Nat) (sp : Nat)  (v3 : Int32) (v4 : Int32)  (m : mj_M) : Option (Nat × (Int32 × mj_M)) :=
  some (0, ((v4 + 1), m))
def ck_pass_l25 (tp : Nat) (sp : Nat) (v3 : Int32) (s25 : (Int32 × mj_M)) : Option (Nat × (Int32 × mj_M)) :=
  (if (mj_I (s25.2 tp 5)) ≤ s25.1 then some (1, (s25.1, s25.2)) else
  (if (bp_has (mj_I (s25.2 sp 9)) s25.1 s25.2) = 0 then ck_pass_j57l25 tp sp v3 s25.1 s25.2 else
  (ck_goOnWith tp sp v3 s25.1 s25.2).bind fun q5 =>
  ck_pass_j57l25 tp sp v3 s25.1 q5))
def ck_pass (tp : Nat) (sp : Nat) (v2 : Int32) (m : mj_M) : Option mj_M :=
  (ck_beatOf tp sp v2 m).bind fun q1 =>
  (ck_goingOn tp sp q1.1 q1.2).bind fun q2 =>
  (mj_loop (ck_pass_l25 tp sp q1.1) mj_F (0, (mj_up (mj_up q1.2 sp 9 (.int q2)) sp 10 (.int 0)))).bind fun q6 =>
  (ck_spread tp sp q1.1 q6.2.2).bind fun q7 =>
  (ck_name tp sp q1.1 (-1) (-1) q7).bind fun q8 =>
  (ck_lawWithin tp 1 0 99 1 q8).bind fun q9 =>
  some (mj_up (mj_up q9.2 sp 1 (.int (ma_max 0 ((mj_I (q8 sp 1)) - q9.1) q9.2))) sp 0 (.int ((mj_I (q9.2 sp 0)) + 1)))
set_option maxRecDepth 20000 in
theorem ck_pass_j57l25_x {Ls tp ip x d : Nat} {Z : mj_X} {R : Option Value → mj_G → mj_M → Prop} {P : mj_K → Prop} (hC : mj_cls false (mj_sh Ls) (mj_rf tp ip) mj_dv mj_cd_116 (mj_Ex false (mj_sh Ls) (mj_rf tp ip) Z d) R P) (hd : 5 ≤ d) {sp : Nat} (htp : tp = 3 ∨ tp = 17) (hsp : sp = 42 ∨ sp = 47 ∨ sp = 52)  {v3 : Int32} {v4 : Int32}  {m : mj_M} {t : Nat} {w : (Int32 × mj_M)} (h : ck_pass_j57l25 tp sp  v3 v4 m = some (t, w)) (h0 : t = 0 → P (25, [some (.ref 37), some (.ref sp), none, some (.int v3), some (.int w.1)], [], (110, x), w.2)) (h1 : t = 1 → P (63, [some (.ref 37), some (.ref sp), none, some (.int v3), none], [], (110, x), w.2)) : P (57, [some (.ref 37), some (.ref sp), none, some (.int v3), some (.int v4)], [], (110, x), m) := by
  unfold ck_pass_j57l25 at h
  rcases htp with rfl | rfl <;> rcases hsp with rfl | rfl | rfl
  all_goals
    refine mj_gcp hC 2 ?_
    show P (25, [some (.ref 37), some (.ref _), none, some (.int v3), some (.int (v4 + 1))], [], (110, x), m)
    cases h
    exact mj_less hC (L0 := [some (.ref 37), some (.ref _), none, some (.int v3), some (.int (v4 + 1))]) (And.intro rfl (And.intro rfl (And.intro rfl (And.intro rfl trivial)))) (h0 rfl)
set_option maxRecDepth 20000 in
theorem ck_pass_l25_x {Ls tp ip x d : Nat} {Z : mj_X} {R : Option Value → mj_G → mj_M → Prop} {P : mj_K → Prop} (hC : mj_cls false (mj_sh Ls) (mj_rf tp ip) mj_dv mj_cd_116 (mj_Ex false (mj_sh Ls) (mj_rf tp ip) Z d) R P) (hd : 5 ≤ d) {sp : Nat} (htp : tp = 3 ∨ tp = 17) (hsp : sp = 42 ∨ sp = 47 ∨ sp = 52) {v3 : Int32} (s25 : (Int32 × mj_M)) {t : Nat} {w : (Int32 × mj_M)} (h : ck_pass_l25 tp sp v3 s25 = some (t, w)) (h0 : t = 0 → P (25, [some (.ref 37), some (.ref sp), none, some (.int v3), some (.int w.1)], [], (110, x), w.2)) (h1 : t = 1 → P (63, [some (.ref 37), some (.ref sp), none, some (.int v3), none], [], (110, x), w.2)) : P (25, [some (.ref 37), some (.ref sp), none, some (.int v3), some (.int s25.1)], [], (110, x), s25.2) := by
  unfold ck_pass_l25 at h
  rcases htp with rfl | rfl <;> rcases hsp with rfl | rfl | rfl
  all_goals
    refine mj_gcp hC 5 ?_
    show P (mj_pick 63 37 ((mj_I (s25.2 _ 5)) ≤ s25.1), [some (.ref 37), some (.ref _), none, some (.int v3), some (.int s25.1)], [], (110, x), s25.2)
    refine mj_pbr (fun c3 => ?_) (fun c3 => ?_)
    · rw [if_pos c3] at h
      cases h
      exact mj_less hC (L0 := [some (.ref 37), some (.ref _), none, some (.int v3), none]) (And.intro rfl (And.intro rfl (And.intro rfl trivial))) (h1 rfl)
    · rw [if_neg c3] at h
      refine mj_gcp hC 3 ?_
      show P (43, [some (.ref 37), some (.ref _), none, some (.int v3), some (.int s25.1)], [.int s25.1, .int (mj_I (s25.2 _ 9))], (110, x), s25.2)
      refine mj_pcall hC rfl (bp_has_x (Nat.le_trans (by decide) hd)) ?_
      show P (46, [some (.ref 37), some (.ref _), none, some (.int v3), some (.int s25.1)], [.int (bp_has (mj_I (s25.2 _ 9)) s25.1 s25.2)], (110, x), s25.2)
      refine mj_gcp hC 1 ?_
      show P (mj_pick 57 49 ((bp_has (mj_I (s25.2 _ 9)) s25.1 s25.2) = 0), [some (.ref 37), some (.ref _), none, some (.int v3), some (.int s25.1)], [], (110, x), s25.2)
      refine mj_pbr (fun c4 => ?_) (fun c4 => ?_)
      · rw [if_pos c4] at h
        exact mj_less hC (L0 := [some (.ref 37), some (.ref _), none, some (.int v3), some (.int s25.1)]) (And.intro rfl (And.intro rfl (And.intro rfl (And.intro rfl trivial)))) (ck_pass_j57l25_x hC hd (by decide) (by decide) h h0 h1)
      · rw [if_neg c4] at h
        refine mj_gcp hC 4 ?_
        show P (54, [some (.ref 37), some (.ref _), none, some (.int v3), some (.int s25.1)], [.int s25.1, .int v3, .ref _, .ref 37], (110, x), s25.2)
        obtain ⟨q5, eq5, h⟩ := mj_bnd h
        refine mj_pcall hC rfl (ck_goOnWith_x (Nat.le_trans (by decide) hd) (by decide) (by decide) eq5) ?_
        show P (57, [some (.ref 37), some (.ref _), none, some (.int v3), some (.int s25.1)], [], (110, x), q5)
        exact mj_less hC (L0 := [some (.ref 37), some (.ref _), none, some (.int v3), some (.int s25.1)]) (And.intro rfl (And.intro rfl (And.intro rfl (And.intro rfl trivial)))) (ck_pass_j57l25_x hC hd (by decide) (by decide) h h0 h1)
set_option maxRecDepth 20000 in
theorem ck_pass_p {Ls tp ip x d : Nat} {Z : mj_X} {R : Option Value → mj_G → mj_M → Prop} {P : mj_K → Prop} (hC : mj_cls false (mj_sh Ls) (mj_rf tp ip) mj_dv mj_cd_116 (mj_Ex false (mj_sh Ls) (mj_rf tp ip) Z d) R P) (hd : 5 ≤ d) {sp : Nat} (htp : tp = 3 ∨ tp = 17) (hsp : sp = 42 ∨ sp = 47 ∨ sp = 52) {v2 : Int32} {m : mj_M} {r : mj_M} (h : ck_pass tp sp v2 m = some r) (hR : R none (110, x) r) : P (0, [some (.ref 37), some (.ref sp), some (.int v2), none, none], [], (110, x), m) := by
  unfold ck_pass at h
  rcases htp with rfl | rfl <;> rcases hsp with rfl | rfl | rfl
  all_goals
    refine mj_gcp hC 3 ?_
    show P (3, [some (.ref 37), some (.ref _), some (.int v2), none, none], [.int v2, .ref _, .ref 37], (110, x), m)
    obtain ⟨q1, eq1, h⟩ := mj_bnd h
    refine mj_pcall hC rfl (ck_beatOf_x (Nat.le_trans (by decide) hd) (by decide) (by decide) eq1) ?_
    show P (6, [some (.ref 37), some (.ref _), some (.int v2), none, none], [.int q1.1], (110, x), q1.2)
    refine mj_gcp hC 5 ?_
    show P (11, [some (.ref 37), some (.ref _), some (.int v2), some (.int q1.1), none], [.int q1.1, .ref _, .ref 37, .ref _], (110, x), q1.2)
    obtain ⟨q2, eq2, h⟩ := mj_bnd h
    refine mj_pcall hC rfl (ck_goingOn_x (Nat.le_trans (by decide) hd) (by decide) (by decide) eq2) ?_
    show P (14, [some (.ref 37), some (.ref _), some (.int v2), some (.int q1.1), none], [.int q2, .ref _], (110, x), q1.2)
    refine mj_gcp hC 6 ?_
    show P (25, [some (.ref 37), some (.ref _), some (.int v2), some (.int q1.1), some (.int 0)], [], (110, x), (mj_up (mj_up q1.2 _ 9 (.int q2)) _ 10 (.int 0)))
    obtain ⟨q6, eq6, h⟩ := mj_bnd h
    refine mj_less hC (L0 := [some (.ref 37), some (.ref _), none, some (.int q1.1), some (.int 0)]) (And.intro rfl (And.intro rfl (And.intro rfl (And.intro rfl trivial)))) ?_
    refine mj_loop_P (A := fun z25 => P (25, [some (.ref 37), some (.ref _), none, some (.int q1.1), some (.int z25.1)], [], (110, x), z25.2)) (E := fun _ z25 => P (63, [some (.ref 37), some (.ref _), none, some (.int q1.1), none], [], (110, x), z25.2)) (fun zz t w hb h0 h1 => ck_pass_l25_x hC hd (by decide) (by decide) zz hb h0 (fun ht => h1 0 ht)) mj_F _ q6 eq6 ?_
    refine mj_gcp hC 3 ?_
    show P (66, [some (.ref 37), some (.ref _), none, some (.int q1.1), none], [.int q1.1, .ref _, .ref 37], (110, x), q6.2.2)
    obtain ⟨q7, eq7, h⟩ := mj_bnd h
    refine mj_pcall hC rfl (ck_spread_x (Nat.le_trans (by decide) hd) (by decide) (by decide) eq7) ?_
    show P (69, [some (.ref 37), some (.ref _), none, some (.int q1.1), none], [], (110, x), q7)
    refine mj_gcp hC 5 ?_
    show P (74, [some (.ref 37), some (.ref _), none, some (.int q1.1), none], [.int (-1), .int (-1), .int q1.1, .ref _, .ref 37], (110, x), q7)
    obtain ⟨q8, eq8, h⟩ := mj_bnd h
    refine mj_pcall hC rfl (ck_name_x (Nat.le_trans (by decide) hd) (by decide) (by decide) eq8) ?_
    show P (77, [some (.ref 37), some (.ref _), none, some (.int q1.1), none], [], (110, x), q8)
    refine mj_gcp hC 9 ?_
    show P (89, [some (.ref 37), some (.ref _), none, some (.int q1.1), none], [.int 1, .int 99, .int 0, .int 1, .ref 37, .int (mj_I (q8 _ 1)), .int 0, .ref _], (110, x), q8)
    obtain ⟨q9, eq9, h⟩ := mj_bnd h
    refine mj_pcall hC rfl (ck_lawWithin_x (Nat.le_trans (by decide) hd) (by decide) eq9) ?_
    show P (92, [some (.ref 37), some (.ref _), none, some (.int q1.1), none], [.int q9.1, .int (mj_I (q8 _ 1)), .int 0, .ref _], (110, x), q9.2)
    refine mj_gcp hC 1 ?_
    show P (93, [some (.ref 37), some (.ref _), none, some (.int q1.1), none], [.int ((mj_I (q8 _ 1)) - q9.1), .int 0, .ref _], (110, x), q9.2)
    refine mj_pcall hC rfl (ma_max_x (Nat.le_trans (by decide) hd)) ?_
    show P (96, [some (.ref 37), some (.ref _), none, some (.int q1.1), none], [.int (ma_max 0 ((mj_I (q8 _ 1)) - q9.1) q9.2), .ref _], (110, x), q9.2)
    refine mj_gcp hC 7 ?_
    show P (109, [some (.ref 37), some (.ref _), none, some (.int q1.1), none], [], (110, x), (mj_up (mj_up q9.2 _ 1 (.int (ma_max 0 ((mj_I (q8 _ 1)) - q9.1) q9.2))) _ 0 (.int ((mj_I (q9.2 _ 0)) + 1))))
    cases h
    exact mj_pret hC rfl hR
set_option maxRecDepth 20000 in
theorem ck_pass_x {Ls tp ip x d : Nat} {Z : mj_X} (hd : 6 ≤ d) {sp : Nat} (htp : tp = 3 ∨ tp = 17) (hsp : sp = 42 ∨ sp = 47 ∨ sp = 52) {v2 : Int32} {m : mj_M} {r : mj_M} (h : ck_pass tp sp v2 m = some r) : mj_Ex false (mj_sh Ls) (mj_rf tp ip) Z d 116 [.ref 37, .ref sp, .int v2] (110, x) m none (110, x) r := by
  exact mj_Ex_of (cd := mj_cd_116) (L := [some (.ref 37), some (.ref sp), some (.int v2), none, none]) (by omega) (by decide) rfl (Nat.le_of_ble_eq_true rfl) rfl (fun P hC => ck_pass_p hC (by omega) htp hsp h ⟨rfl, rfl, rfl⟩)
def bp_go_l29 (tp : Nat) (v1 : Int32) (s29 : (Int32 × mj_M)) : Option (Nat × (Int32 × mj_M)) :=
  (if v1 ≤ s29.1 then some (1, (s29.1, s29.2)) else
  (ck_pass tp 42 0 s29.2).bind fun q5 =>
  some (0, ((s29.1 + 1), q5)))
def bp_go (tp : Nat) (v1 : Int32) (m : mj_M) : Option (Int32 × mj_M) :=
  (if v1 < 0 then some ((-1), m) else
  (if 99 < v1 then some ((-1), m) else
  (if ((mj_I (m 42 0)) + v1) ≤ 9900 then (mj_loop (bp_go_l29 tp v1) mj_F (0, m)).bind fun q6 =>
  (if v1 ≤ 0 then some ((mj_I (q6.2.2 42 0)), q6.2.2) else
  (de_forget q6.2.2).bind fun q8 =>
  some ((mj_I (q8 42 0)), q8)) else
  some ((-1), m))))
set_option maxRecDepth 20000 in
theorem bp_go_l29_x {Ls tp ip x d : Nat} {Z : mj_X} {R : Option Value → mj_G → mj_M → Prop} {P : mj_K → Prop} (hC : mj_cls false (mj_sh Ls) (mj_rf tp ip) mj_dv mj_cd_16 (mj_Ex false (mj_sh Ls) (mj_rf tp ip) Z d) R P) (hd : 6 ≤ d) (htp : tp = 3 ∨ tp = 17) {v1 : Int32} (s29 : (Int32 × mj_M)) {t : Nat} {w : (Int32 × mj_M)} (h : bp_go_l29 tp v1 s29 = some (t, w)) (h0 : t = 0 → P (29, [some (.ref 1), some (.int v1), some (.int w.1)], [], (110, x), w.2)) (h1 : t = 1 → P (52, [some (.ref 1), some (.int v1), none], [], (110, x), w.2)) : P (29, [some (.ref 1), some (.int v1), some (.int s29.1)], [], (110, x), s29.2) := by
  unfold bp_go_l29 at h
  rcases htp with rfl | rfl
  all_goals
    refine mj_gcp hC 3 ?_
    show P (mj_pick 52 34 (v1 ≤ s29.1), [some (.ref 1), some (.int v1), some (.int s29.1)], [], (110, x), s29.2)
    refine mj_pbr (fun c4 => ?_) (fun c4 => ?_)
    · rw [if_pos c4] at h
      cases h
      exact mj_less hC (L0 := [some (.ref 1), some (.int v1), none]) (And.intro rfl (And.intro rfl trivial)) (h1 rfl)
    · rw [if_neg c4] at h
      refine mj_gcp hC 5 ?_
      show P (43, [some (.ref 1), some (.int v1), some (.int s29.1)], [.int 0, .ref 42, .ref 37], (110, x), s29.2)
      obtain ⟨q5, eq5, h⟩ := mj_bnd h
      refine mj_pcall hC rfl (ck_pass_x (Nat.le_trans (by decide) hd) (by decide) (by decide) eq5) ?_
      show P (46, [some (.ref 1), some (.int v1), some (.int s29.1)], [], (110, x), q5)
      refine mj_gcp hC 2 ?_
      show P (29, [some (.ref 1), some (.int v1), some (.int (s29.1 + 1))], [], (110, x), q5)
      cases h
      exact mj_less hC (L0 := [some (.ref 1), some (.int v1), some (.int (s29.1 + 1))]) (And.intro rfl (And.intro rfl (And.intro rfl trivial))) (h0 rfl)
set_option maxRecDepth 20000 in
theorem bp_go_p {Ls tp ip x d : Nat} {Z : mj_X} {R : Option Value → mj_G → mj_M → Prop} {P : mj_K → Prop} (hC : mj_cls false (mj_sh Ls) (mj_rf tp ip) mj_dv mj_cd_16 (mj_Ex false (mj_sh Ls) (mj_rf tp ip) Z d) R P) (hd : 6 ≤ d) (htp : tp = 3 ∨ tp = 17) {v1 : Int32} {m : mj_M} {r : (Int32 × mj_M)} (h : bp_go tp v1 m = some r) (hR : R (some (.int r.1)) (110, x) r.2) : P (0, [some (.ref 1), some (.int v1), none], [], (110, x), m) := by
  unfold bp_go at h
  rcases htp with rfl | rfl
  all_goals
    refine mj_gcp hC 2 ?_
    show P (mj_pick 25 4 (v1 < 0), [some (.ref 1), some (.int v1), none], [], (110, x), m)
    refine mj_pbr (fun c1 => ?_) (fun c1 => ?_)
    · rw [if_pos c1] at h
      refine mj_gcp hC 1 ?_
      show P (26, [some (.ref 1), some (.int v1), none], [.int (-1)], (110, x), m)
      cases h
      exact mj_pret hC rfl hR
    · rw [if_neg c1] at h
      refine mj_gcp hC 3 ?_
      show P (mj_pick 25 10 (99 < v1), [some (.ref 1), some (.int v1), none], [], (110, x), m)
      refine mj_pbr (fun c2 => ?_) (fun c2 => ?_)
      · rw [if_pos c2] at h
        refine mj_gcp hC 1 ?_
        show P (26, [some (.ref 1), some (.int v1), none], [.int (-1)], (110, x), m)
        cases h
        exact mj_pret hC rfl hR
      · rw [if_neg c2] at h
        refine mj_gcp hC 7 ?_
        show P (mj_pick 27 25 (((mj_I (m 42 0)) + v1) ≤ 9900), [some (.ref 1), some (.int v1), none], [], (110, x), m)
        refine mj_pbr (fun c3 => ?_) (fun c3 => ?_)
        · rw [if_pos c3] at h
          refine mj_gcp hC 2 ?_
          show P (29, [some (.ref 1), some (.int v1), some (.int 0)], [], (110, x), m)
          obtain ⟨q6, eq6, h⟩ := mj_bnd h
          refine mj_less hC (L0 := [some (.ref 1), some (.int v1), some (.int 0)]) (And.intro rfl (And.intro rfl (And.intro rfl trivial))) ?_
          refine mj_loop_P (A := fun z29 => P (29, [some (.ref 1), some (.int v1), some (.int z29.1)], [], (110, x), z29.2)) (E := fun _ z29 => P (52, [some (.ref 1), some (.int v1), none], [], (110, x), z29.2)) (fun zz t w hb h0 h1 => bp_go_l29_x hC hd (by decide) zz hb h0 (fun ht => h1 0 ht)) mj_F _ q6 eq6 ?_
          refine mj_gcp hC 2 ?_
          show P (mj_pick 63 56 (v1 ≤ 0), [some (.ref 1), some (.int v1), none], [], (110, x), q6.2.2)
          refine mj_pbr (fun c7 => ?_) (fun c7 => ?_)
          · rw [if_pos c7] at h
            refine mj_gcp hC 3 ?_
            show P (70, [some (.ref 1), some (.int v1), none], [.int (mj_I (q6.2.2 42 0))], (110, x), q6.2.2)
            cases h
            exact mj_pret hC rfl hR
          · rw [if_neg c7] at h
            refine mj_gcp hC 2 ?_
            show P (60, [some (.ref 1), some (.int v1), none], [.ref 57], (110, x), q6.2.2)
            obtain ⟨q8, eq8, h⟩ := mj_bnd h
            refine mj_pcall hC rfl (de_forget_x (Nat.le_trans (by decide) hd) eq8) ?_
            show P (63, [some (.ref 1), some (.int v1), none], [], (110, x), q8)
            refine mj_gcp hC 3 ?_
            show P (70, [some (.ref 1), some (.int v1), none], [.int (mj_I (q8 42 0))], (110, x), q8)
            cases h
            exact mj_pret hC rfl hR
        · rw [if_neg c3] at h
          refine mj_gcp hC 1 ?_
          show P (26, [some (.ref 1), some (.int v1), none], [.int (-1)], (110, x), m)
          cases h
          exact mj_pret hC rfl hR
set_option maxRecDepth 20000 in
theorem bp_go_x {Ls tp ip x d : Nat} {Z : mj_X} (hd : 7 ≤ d) (htp : tp = 3 ∨ tp = 17) {v1 : Int32} {m : mj_M} {r : (Int32 × mj_M)} (h : bp_go tp v1 m = some r) : mj_Ex false (mj_sh Ls) (mj_rf tp ip) Z d 16 [.ref 1, .int v1] (110, x) m (some (.int r.1)) (110, x) r.2 := by
  exact mj_Ex_of (cd := mj_cd_16) (L := [some (.ref 1), some (.int v1), none]) (by omega) (by decide) rfl (Nat.le_of_ble_eq_true rfl) rfl (fun P hC => bp_go_p hC (by omega) htp h ⟨rfl, rfl, rfl⟩)
def bp_tryHours_l2 (tp : Nat) (v1 : Int32) (v2 : Int32) (s2 : (Int32 × mj_M)) : Option (Nat × (Int32 × mj_M)) :=
  (if v1 ≤ s2.1 then some (1, (s2.1, s2.2)) else
  (ck_pass tp 47 v2 s2.2).bind fun q2 =>
  some (0, ((s2.1 + 1), q2)))
def bp_tryHours (tp : Nat) (v1 : Int32) (v2 : Int32) (m : mj_M) : Option mj_M :=
  (mj_loop (bp_tryHours_l2 tp v1 v2) mj_F (0, m)).bind fun q3 =>
  some q3.2.2
set_option maxRecDepth 20000 in
theorem bp_tryHours_l2_x {Ls tp ip x d : Nat} {Z : mj_X} {R : Option Value → mj_G → mj_M → Prop} {P : mj_K → Prop} (hC : mj_cls false (mj_sh Ls) (mj_rf tp ip) mj_dv mj_cd_18 (mj_Ex false (mj_sh Ls) (mj_rf tp ip) Z d) R P) (hd : 6 ≤ d) (htp : tp = 3 ∨ tp = 17) {v1 : Int32} {v2 : Int32} (s2 : (Int32 × mj_M)) {t : Nat} {w : (Int32 × mj_M)} (h : bp_tryHours_l2 tp v1 v2 s2 = some (t, w)) (h0 : t = 0 → P (2, [some (.ref 1), some (.int v1), some (.int v2), some (.int w.1)], [], (110, x), w.2)) (h1 : t = 1 → P (25, [none, none, none, none], [], (110, x), w.2)) : P (2, [some (.ref 1), some (.int v1), some (.int v2), some (.int s2.1)], [], (110, x), s2.2) := by
  unfold bp_tryHours_l2 at h
  rcases htp with rfl | rfl
  all_goals
    refine mj_gcp hC 3 ?_
    show P (mj_pick 25 7 (v1 ≤ s2.1), [some (.ref 1), some (.int v1), some (.int v2), some (.int s2.1)], [], (110, x), s2.2)
    refine mj_pbr (fun c1 => ?_) (fun c1 => ?_)
    · rw [if_pos c1] at h
      cases h
      exact mj_less hC (L0 := [none, none, none, none]) trivial (h1 rfl)
    · rw [if_neg c1] at h
      refine mj_gcp hC 5 ?_
      show P (16, [some (.ref 1), some (.int v1), some (.int v2), some (.int s2.1)], [.int v2, .ref 47, .ref 37], (110, x), s2.2)
      obtain ⟨q2, eq2, h⟩ := mj_bnd h
      refine mj_pcall hC rfl (ck_pass_x (Nat.le_trans (by decide) hd) (by decide) (by decide) eq2) ?_
      show P (19, [some (.ref 1), some (.int v1), some (.int v2), some (.int s2.1)], [], (110, x), q2)
      refine mj_gcp hC 2 ?_
      show P (2, [some (.ref 1), some (.int v1), some (.int v2), some (.int (s2.1 + 1))], [], (110, x), q2)
      cases h
      exact mj_less hC (L0 := [some (.ref 1), some (.int v1), some (.int v2), some (.int (s2.1 + 1))]) (And.intro rfl (And.intro rfl (And.intro rfl (And.intro rfl trivial)))) (h0 rfl)
set_option maxRecDepth 20000 in
theorem bp_tryHours_p {Ls tp ip x d : Nat} {Z : mj_X} {R : Option Value → mj_G → mj_M → Prop} {P : mj_K → Prop} (hC : mj_cls false (mj_sh Ls) (mj_rf tp ip) mj_dv mj_cd_18 (mj_Ex false (mj_sh Ls) (mj_rf tp ip) Z d) R P) (hd : 6 ≤ d) (htp : tp = 3 ∨ tp = 17) {v1 : Int32} {v2 : Int32} {m : mj_M} {r : mj_M} (h : bp_tryHours tp v1 v2 m = some r) (hR : R none (110, x) r) : P (0, [some (.ref 1), some (.int v1), some (.int v2), none], [], (110, x), m) := by
  unfold bp_tryHours at h
  rcases htp with rfl | rfl
  all_goals
    refine mj_gcp hC 2 ?_
    show P (2, [some (.ref 1), some (.int v1), some (.int v2), some (.int 0)], [], (110, x), m)
    obtain ⟨q3, eq3, h⟩ := mj_bnd h
    refine mj_less hC (L0 := [some (.ref 1), some (.int v1), some (.int v2), some (.int 0)]) (And.intro rfl (And.intro rfl (And.intro rfl (And.intro rfl trivial)))) ?_
    refine mj_loop_P (A := fun z2 => P (2, [some (.ref 1), some (.int v1), some (.int v2), some (.int z2.1)], [], (110, x), z2.2)) (E := fun _ z2 => P (25, [none, none, none, none], [], (110, x), z2.2)) (fun zz t w hb h0 h1 => bp_tryHours_l2_x hC hd (by decide) zz hb h0 (fun ht => h1 0 ht)) mj_F _ q3 eq3 ?_
    cases h
    exact mj_pret hC rfl hR
set_option maxRecDepth 20000 in
theorem bp_tryHours_x {Ls tp ip x d : Nat} {Z : mj_X} (hd : 7 ≤ d) (htp : tp = 3 ∨ tp = 17) {v1 : Int32} {v2 : Int32} {m : mj_M} {r : mj_M} (h : bp_tryHours tp v1 v2 m = some r) : mj_Ex false (mj_sh Ls) (mj_rf tp ip) Z d 18 [.ref 1, .int v1, .int v2] (110, x) m none (110, x) r := by
  exact mj_Ex_of (cd := mj_cd_18) (L := [some (.ref 1), some (.int v1), some (.int v2), none]) (by omega) (by decide) rfl (Nat.le_of_ble_eq_true rfl) rfl (fun P hC => bp_tryHours_p hC (by omega) htp h ⟨rfl, rfl, rfl⟩)
def bp_done_l26 (tp : Nat) (v1 : Int32) (s26 : (Int32 × mj_M)) : Option (Nat × (Int32 × mj_M)) :=
  (if 200 < s26.1 then some (2, (s26.1, s26.2)) else
  (if (sa_isDone 47 v1 s26.2) = 0 then (ck_pass tp 47 1 s26.2).bind fun q5 =>
  some (0, ((s26.1 + 1), q5)) else
  some (1, (s26.1, s26.2))))
def bp_done (tp : Nat) (v1 : Int32) (m : mj_M) : Option (Int32 × mj_M) :=
  (if (to_isWork tp v1 m) = 0 then some ((-1), m) else
  (sa_copy 47 42 m).bind fun q2 =>
  (mj_loop (bp_done_l26 tp v1) mj_F (0, q2)).bind fun q6 =>
  (if q6.1 = 0 then some (q6.2.1, q6.2.2) else some ((-2), q6.2.2)))
set_option maxRecDepth 20000 in
theorem bp_done_l26_x {Ls tp ip x d : Nat} {Z : mj_X} {R : Option Value → mj_G → mj_M → Prop} {P : mj_K → Prop} (hC : mj_cls false (mj_sh Ls) (mj_rf tp ip) mj_dv mj_cd_19 (mj_Ex false (mj_sh Ls) (mj_rf tp ip) Z d) R P) (hd : 6 ≤ d) (htp : tp = 3 ∨ tp = 17) {v1 : Int32} (s26 : (Int32 × mj_M)) {t : Nat} {w : (Int32 × mj_M)} (h : bp_done_l26 tp v1 s26 = some (t, w)) (h0 : t = 0 → P (26, [some (.ref 1), some (.int v1), some (.int w.1)], [], (110, x), w.2)) (h1 : t = 1 → P (44, [none, none, some (.int w.1)], [], (110, x), w.2)) (h2 : t = 2 → P (64, [none, none, none], [], (110, x), w.2)) : P (26, [some (.ref 1), some (.int v1), some (.int s26.1)], [], (110, x), s26.2) := by
  unfold bp_done_l26 at h
  rcases htp with rfl | rfl
  all_goals
    refine mj_gcp hC 3 ?_
    show P (mj_pick 64 33 (200 < s26.1), [some (.ref 1), some (.int v1), some (.int s26.1)], [], (110, x), s26.2)
    refine mj_pbr (fun c3 => ?_) (fun c3 => ?_)
    · rw [if_pos c3] at h
      cases h
      exact mj_less hC (L0 := [none, none, none]) trivial (h2 rfl)
    · rw [if_neg c3] at h
      refine mj_gcp hC 3 ?_
      show P (38, [some (.ref 1), some (.int v1), some (.int s26.1)], [.int v1, .ref 47], (110, x), s26.2)
      refine mj_pcall hC rfl (sa_isDone_x (Nat.le_trans (by decide) hd) (by decide)) ?_
      show P (41, [some (.ref 1), some (.int v1), some (.int s26.1)], [.int (sa_isDone 47 v1 s26.2)], (110, x), s26.2)
      refine mj_gcp hC 1 ?_
      show P (mj_pick 46 44 ((sa_isDone 47 v1 s26.2) = 0), [some (.ref 1), some (.int v1), some (.int s26.1)], [], (110, x), s26.2)
      refine mj_pbr (fun c4 => ?_) (fun c4 => ?_)
      · rw [if_pos c4] at h
        refine mj_gcp hC 5 ?_
        show P (55, [some (.ref 1), some (.int v1), some (.int s26.1)], [.int 1, .ref 47, .ref 37], (110, x), s26.2)
        obtain ⟨q5, eq5, h⟩ := mj_bnd h
        refine mj_pcall hC rfl (ck_pass_x (Nat.le_trans (by decide) hd) (by decide) (by decide) eq5) ?_
        show P (58, [some (.ref 1), some (.int v1), some (.int s26.1)], [], (110, x), q5)
        refine mj_gcp hC 2 ?_
        show P (26, [some (.ref 1), some (.int v1), some (.int (s26.1 + 1))], [], (110, x), q5)
        cases h
        exact mj_less hC (L0 := [some (.ref 1), some (.int v1), some (.int (s26.1 + 1))]) (And.intro rfl (And.intro rfl (And.intro rfl trivial))) (h0 rfl)
      · rw [if_neg c4] at h
        cases h
        exact mj_less hC (L0 := [none, none, some (.int s26.1)]) (And.intro rfl trivial) (h1 rfl)
set_option maxRecDepth 20000 in
theorem bp_done_p {Ls tp ip x d : Nat} {Z : mj_X} {R : Option Value → mj_G → mj_M → Prop} {P : mj_K → Prop} (hC : mj_cls false (mj_sh Ls) (mj_rf tp ip) mj_dv mj_cd_19 (mj_Ex false (mj_sh Ls) (mj_rf tp ip) Z d) R P) (hd : 6 ≤ d) (htp : tp = 3 ∨ tp = 17) {v1 : Int32} {m : mj_M} {r : (Int32 × mj_M)} (h : bp_done tp v1 m = some r) (hR : R (some (.int r.1)) (110, x) r.2) : P (0, [some (.ref 1), some (.int v1), none], [], (110, x), m) := by
  unfold bp_done at h
  rcases htp with rfl | rfl
  all_goals
    refine mj_gcp hC 3 ?_
    show P (5, [some (.ref 1), some (.int v1), none], [.int v1, .ref _], (110, x), m)
    refine mj_pcall hC rfl (to_isWork_x (Nat.le_trans (by decide) hd) (by decide)) ?_
    show P (8, [some (.ref 1), some (.int v1), none], [.int (to_isWork _ v1 m)], (110, x), m)
    refine mj_gcp hC 1 ?_
    show P (mj_pick 11 13 ((to_isWork _ v1 m) = 0), [some (.ref 1), some (.int v1), none], [], (110, x), m)
    refine mj_pbr (fun c1 => ?_) (fun c1 => ?_)
    · rw [if_pos c1] at h
      refine mj_gcp hC 1 ?_
      show P (12, [some (.ref 1), some (.int v1), none], [.int (-1)], (110, x), m)
      cases h
      exact mj_pret hC rfl hR
    · rw [if_neg c1] at h
      refine mj_gcp hC 4 ?_
      show P (21, [some (.ref 1), some (.int v1), none], [.ref 42, .ref 47], (110, x), m)
      obtain ⟨q2, eq2, h⟩ := mj_bnd h
      refine mj_pcall hC rfl (sa_copy_x (Nat.le_trans (by decide) hd) (by decide) eq2) ?_
      show P (24, [some (.ref 1), some (.int v1), none], [], (110, x), q2)
      refine mj_gcp hC 2 ?_
      show P (26, [some (.ref 1), some (.int v1), some (.int 0)], [], (110, x), q2)
      obtain ⟨q6, eq6, h⟩ := mj_bnd h
      refine mj_less hC (L0 := [some (.ref 1), some (.int v1), some (.int 0)]) (And.intro rfl (And.intro rfl (And.intro rfl trivial))) ?_
      refine mj_loop_P (A := fun z26 => P (26, [some (.ref 1), some (.int v1), some (.int z26.1)], [], (110, x), z26.2)) (E := fun j z26 => (j = 0 → P (44, [none, none, some (.int z26.1)], [], (110, x), z26.2)) ∧ (¬ j = 0 → P (64, [none, none, none], [], (110, x), z26.2))) (fun zz t w hb h0 h1 => bp_done_l26_x hC hd (by decide) zz hb h0 (fun ht => (h1 0 ht).1 rfl) (fun ht => (h1 1 ht).2 (by decide))) mj_F _ q6 eq6 ⟨fun hj => ?_, fun hj => ?_⟩
      · rw [if_pos hj] at h
        refine mj_gcp hC 1 ?_
        show P (45, [none, none, some (.int q6.2.1)], [.int q6.2.1], (110, x), q6.2.2)
        cases h
        exact mj_pret hC rfl hR
      · rw [if_neg hj] at h
        refine mj_gcp hC 1 ?_
        show P (66, [none, none, none], [.int (-2)], (110, x), q6.2.2)
        cases h
        exact mj_pret hC rfl hR
set_option maxRecDepth 20000 in
theorem bp_done_x {Ls tp ip x d : Nat} {Z : mj_X} (hd : 7 ≤ d) (htp : tp = 3 ∨ tp = 17) {v1 : Int32} {m : mj_M} {r : (Int32 × mj_M)} (h : bp_done tp v1 m = some r) : mj_Ex false (mj_sh Ls) (mj_rf tp ip) Z d 19 [.ref 1, .int v1] (110, x) m (some (.int r.1)) (110, x) r.2 := by
  exact mj_Ex_of (cd := mj_cd_19) (L := [some (.ref 1), some (.int v1), none]) (by omega) (by decide) rfl (Nat.le_of_ble_eq_true rfl) rfl (fun P hC => bp_done_p hC (by omega) htp h ⟨rfl, rfl, rfl⟩)
def bp_stops_l13 (tp : Nat)  (s13 : (Int32 × mj_M)) : Option (Nat × (Int32 × mj_M)) :=
  (if 999 < s13.1 then some (2, (s13.1, s13.2)) else
  (if (mj_I (s13.2 47 1)) = 0 then some (1, (s13.1, s13.2)) else
  (ck_pass tp 47 1 s13.2).bind fun q4 =>
  some (0, ((s13.1 + 1), q4))))
def bp_stops (tp : Nat)  (m : mj_M) : Option (Int32 × mj_M) :=
  (sa_copy 47 42 m).bind fun q1 =>
  (mj_loop (bp_stops_l13 tp) mj_F (0, q1)).bind fun q5 =>
  (if q5.1 = 0 then some (q5.2.1, q5.2.2) else some ((-2), q5.2.2))
set_option maxRecDepth 20000 in
theorem bp_stops_l13_x {Ls tp ip x d : Nat} {Z : mj_X} {R : Option Value → mj_G → mj_M → Prop} {P : mj_K → Prop} (hC : mj_cls false (mj_sh Ls) (mj_rf tp ip) mj_dv mj_cd_20 (mj_Ex false (mj_sh Ls) (mj_rf tp ip) Z d) R P) (hd : 6 ≤ d) (htp : tp = 3 ∨ tp = 17)  (s13 : (Int32 × mj_M)) {t : Nat} {w : (Int32 × mj_M)} (h : bp_stops_l13 tp s13 = some (t, w)) (h0 : t = 0 → P (13, [some (.ref 1), some (.int w.1)], [], (110, x), w.2)) (h1 : t = 1 → P (30, [none, some (.int w.1)], [], (110, x), w.2)) (h2 : t = 2 → P (50, [none, none], [], (110, x), w.2)) : P (13, [some (.ref 1), some (.int s13.1)], [], (110, x), s13.2) := by
  unfold bp_stops_l13 at h
  rcases htp with rfl | rfl
  all_goals
    refine mj_gcp hC 3 ?_
    show P (mj_pick 50 20 (999 < s13.1), [some (.ref 1), some (.int s13.1)], [], (110, x), s13.2)
    refine mj_pbr (fun c2 => ?_) (fun c2 => ?_)
    · rw [if_pos c2] at h
      cases h
      exact mj_less hC (L0 := [none, none]) trivial (h2 rfl)
    · rw [if_neg c2] at h
      refine mj_gcp hC 4 ?_
      show P (mj_pick 30 32 ((mj_I (s13.2 47 1)) = 0), [some (.ref 1), some (.int s13.1)], [], (110, x), s13.2)
      refine mj_pbr (fun c3 => ?_) (fun c3 => ?_)
      · rw [if_pos c3] at h
        cases h
        exact mj_less hC (L0 := [none, some (.int s13.1)]) (And.intro rfl trivial) (h1 rfl)
      · rw [if_neg c3] at h
        refine mj_gcp hC 5 ?_
        show P (41, [some (.ref 1), some (.int s13.1)], [.int 1, .ref 47, .ref 37], (110, x), s13.2)
        obtain ⟨q4, eq4, h⟩ := mj_bnd h
        refine mj_pcall hC rfl (ck_pass_x (Nat.le_trans (by decide) hd) (by decide) (by decide) eq4) ?_
        show P (44, [some (.ref 1), some (.int s13.1)], [], (110, x), q4)
        refine mj_gcp hC 2 ?_
        show P (13, [some (.ref 1), some (.int (s13.1 + 1))], [], (110, x), q4)
        cases h
        exact mj_less hC (L0 := [some (.ref 1), some (.int (s13.1 + 1))]) (And.intro rfl (And.intro rfl trivial)) (h0 rfl)
set_option maxRecDepth 20000 in
theorem bp_stops_p {Ls tp ip x d : Nat} {Z : mj_X} {R : Option Value → mj_G → mj_M → Prop} {P : mj_K → Prop} (hC : mj_cls false (mj_sh Ls) (mj_rf tp ip) mj_dv mj_cd_20 (mj_Ex false (mj_sh Ls) (mj_rf tp ip) Z d) R P) (hd : 6 ≤ d) (htp : tp = 3 ∨ tp = 17)  {m : mj_M} {r : (Int32 × mj_M)} (h : bp_stops tp m = some r) (hR : R (some (.int r.1)) (110, x) r.2) : P (0, [some (.ref 1), none], [], (110, x), m) := by
  unfold bp_stops at h
  rcases htp with rfl | rfl
  all_goals
    refine mj_gcp hC 4 ?_
    show P (8, [some (.ref 1), none], [.ref 42, .ref 47], (110, x), m)
    obtain ⟨q1, eq1, h⟩ := mj_bnd h
    refine mj_pcall hC rfl (sa_copy_x (Nat.le_trans (by decide) hd) (by decide) eq1) ?_
    show P (11, [some (.ref 1), none], [], (110, x), q1)
    refine mj_gcp hC 2 ?_
    show P (13, [some (.ref 1), some (.int 0)], [], (110, x), q1)
    obtain ⟨q5, eq5, h⟩ := mj_bnd h
    refine mj_less hC (L0 := [some (.ref 1), some (.int 0)]) (And.intro rfl (And.intro rfl trivial)) ?_
    refine mj_loop_P (A := fun z13 => P (13, [some (.ref 1), some (.int z13.1)], [], (110, x), z13.2)) (E := fun j z13 => (j = 0 → P (30, [none, some (.int z13.1)], [], (110, x), z13.2)) ∧ (¬ j = 0 → P (50, [none, none], [], (110, x), z13.2))) (fun zz t w hb h0 h1 => bp_stops_l13_x hC hd (by decide) zz hb h0 (fun ht => (h1 0 ht).1 rfl) (fun ht => (h1 1 ht).2 (by decide))) mj_F _ q5 eq5 ⟨fun hj => ?_, fun hj => ?_⟩
    · rw [if_pos hj] at h
      refine mj_gcp hC 1 ?_
      show P (31, [none, some (.int q5.2.1)], [.int q5.2.1], (110, x), q5.2.2)
      cases h
      exact mj_pret hC rfl hR
    · rw [if_neg hj] at h
      refine mj_gcp hC 1 ?_
      show P (52, [none, none], [.int (-2)], (110, x), q5.2.2)
      cases h
      exact mj_pret hC rfl hR
set_option maxRecDepth 20000 in
theorem bp_stops_x {Ls tp ip x d : Nat} {Z : mj_X} (hd : 7 ≤ d) (htp : tp = 3 ∨ tp = 17)  {m : mj_M} {r : (Int32 × mj_M)} (h : bp_stops tp m = some r) : mj_Ex false (mj_sh Ls) (mj_rf tp ip) Z d 20 [.ref 1] (110, x) m (some (.int r.1)) (110, x) r.2 := by
  exact mj_Ex_of (cd := mj_cd_20) (L := [some (.ref 1), none]) (by omega) (by decide) rfl (Nat.le_of_ble_eq_true rfl) rfl (fun P hC => bp_stops_p hC (by omega) htp h ⟨rfl, rfl, rfl⟩)
def bp_tryPace_l21 (tp : Nat) (v1 : Int32) (s21 : (Int32 × mj_M)) : Option (Nat × (Int32 × mj_M)) :=
  (if v1 ≤ s21.1 then some (1, (s21.1, s21.2)) else
  (if (mj_I (s21.2 47 1)) ≤ 0 then some (1, (s21.1, s21.2)) else
  (ck_pass tp 47 1 s21.2).bind fun q4 =>
  some (0, ((s21.1 + 1), q4))))
def bp_tryPace_j54 (tp : Nat)   (m : mj_M) : Option mj_M :=
  some (mj_up m 37 1 (.int 0))
def bp_tryPace (tp : Nat) (v1 : Int32) (v2 : Int32) (m : mj_M) : Option mj_M :=
  (sa_copy 47 42 m).bind fun q1 =>
  (mj_loop (bp_tryPace_l21 tp v1) mj_F (0, (mj_up q1 37 1 (.int v2)))).bind fun q5 =>
  bp_tryPace_j54 tp q5.2.2
set_option maxRecDepth 20000 in
theorem bp_tryPace_l21_x {Ls tp ip x d : Nat} {Z : mj_X} {R : Option Value → mj_G → mj_M → Prop} {P : mj_K → Prop} (hC : mj_cls false (mj_sh Ls) (mj_rf tp ip) mj_dv mj_cd_22 (mj_Ex false (mj_sh Ls) (mj_rf tp ip) Z d) R P) (hd : 6 ≤ d) (htp : tp = 3 ∨ tp = 17) {v1 : Int32} (s21 : (Int32 × mj_M)) {t : Nat} {w : (Int32 × mj_M)} (h : bp_tryPace_l21 tp v1 s21 = some (t, w)) (h0 : t = 0 → P (21, [some (.ref 1), some (.int v1), none, some (.int w.1)], [], (110, x), w.2)) (h1 : t = 1 → P (54, [some (.ref 1), none, none, none], [], (110, x), w.2)) : P (21, [some (.ref 1), some (.int v1), none, some (.int s21.1)], [], (110, x), s21.2) := by
  unfold bp_tryPace_l21 at h
  rcases htp with rfl | rfl
  all_goals
    refine mj_gcp hC 3 ?_
    show P (mj_pick 54 26 (v1 ≤ s21.1), [some (.ref 1), some (.int v1), none, some (.int s21.1)], [], (110, x), s21.2)
    refine mj_pbr (fun c2 => ?_) (fun c2 => ?_)
    · rw [if_pos c2] at h
      cases h
      exact mj_less hC (L0 := [some (.ref 1), none, none, none]) (And.intro rfl trivial) (h1 rfl)
    · rw [if_neg c2] at h
      refine mj_gcp hC 4 ?_
      show P (mj_pick 54 36 ((mj_I (s21.2 47 1)) ≤ 0), [some (.ref 1), some (.int v1), none, some (.int s21.1)], [], (110, x), s21.2)
      refine mj_pbr (fun c3 => ?_) (fun c3 => ?_)
      · rw [if_pos c3] at h
        cases h
        exact mj_less hC (L0 := [some (.ref 1), none, none, none]) (And.intro rfl trivial) (h1 rfl)
      · rw [if_neg c3] at h
        refine mj_gcp hC 5 ?_
        show P (45, [some (.ref 1), some (.int v1), none, some (.int s21.1)], [.int 1, .ref 47, .ref 37], (110, x), s21.2)
        obtain ⟨q4, eq4, h⟩ := mj_bnd h
        refine mj_pcall hC rfl (ck_pass_x (Nat.le_trans (by decide) hd) (by decide) (by decide) eq4) ?_
        show P (48, [some (.ref 1), some (.int v1), none, some (.int s21.1)], [], (110, x), q4)
        refine mj_gcp hC 2 ?_
        show P (21, [some (.ref 1), some (.int v1), none, some (.int (s21.1 + 1))], [], (110, x), q4)
        cases h
        exact mj_less hC (L0 := [some (.ref 1), some (.int v1), none, some (.int (s21.1 + 1))]) (And.intro rfl (And.intro rfl (And.intro rfl trivial))) (h0 rfl)
set_option maxRecDepth 20000 in
theorem bp_tryPace_j54_x {Ls tp ip x d : Nat} {Z : mj_X} {R : Option Value → mj_G → mj_M → Prop} {P : mj_K → Prop} (hC : mj_cls false (mj_sh Ls) (mj_rf tp ip) mj_dv mj_cd_22 (mj_Ex false (mj_sh Ls) (mj_rf tp ip) Z d) R P) (hd : 6 ≤ d) (htp : tp = 3 ∨ tp = 17)   {m : mj_M} {r : mj_M} (h : bp_tryPace_j54 tp m = some r) (hR : R none (110, x) r) : P (54, [some (.ref 1), none, none, none], [], (110, x), m) := by
  unfold bp_tryPace_j54 at h
  rcases htp with rfl | rfl
  all_goals
    refine mj_gcp hC 4 ?_
    show P (62, [some (.ref 1), none, none, none], [], (110, x), (mj_up m 37 1 (.int 0)))
    cases h
    exact mj_pret hC rfl hR
set_option maxRecDepth 20000 in
theorem bp_tryPace_p {Ls tp ip x d : Nat} {Z : mj_X} {R : Option Value → mj_G → mj_M → Prop} {P : mj_K → Prop} (hC : mj_cls false (mj_sh Ls) (mj_rf tp ip) mj_dv mj_cd_22 (mj_Ex false (mj_sh Ls) (mj_rf tp ip) Z d) R P) (hd : 6 ≤ d) (htp : tp = 3 ∨ tp = 17) {v1 : Int32} {v2 : Int32} {m : mj_M} {r : mj_M} (h : bp_tryPace tp v1 v2 m = some r) (hR : R none (110, x) r) : P (0, [some (.ref 1), some (.int v1), some (.int v2), none], [], (110, x), m) := by
  unfold bp_tryPace at h
  rcases htp with rfl | rfl
  all_goals
    refine mj_gcp hC 4 ?_
    show P (8, [some (.ref 1), some (.int v1), some (.int v2), none], [.ref 42, .ref 47], (110, x), m)
    obtain ⟨q1, eq1, h⟩ := mj_bnd h
    refine mj_pcall hC rfl (sa_copy_x (Nat.le_trans (by decide) hd) (by decide) eq1) ?_
    show P (11, [some (.ref 1), some (.int v1), some (.int v2), none], [], (110, x), q1)
    refine mj_gcp hC 6 ?_
    show P (21, [some (.ref 1), some (.int v1), some (.int v2), some (.int 0)], [], (110, x), (mj_up q1 37 1 (.int v2)))
    obtain ⟨q5, eq5, h⟩ := mj_bnd h
    refine mj_less hC (L0 := [some (.ref 1), some (.int v1), none, some (.int 0)]) (And.intro rfl (And.intro rfl (And.intro rfl trivial))) ?_
    refine mj_loop_P (A := fun z21 => P (21, [some (.ref 1), some (.int v1), none, some (.int z21.1)], [], (110, x), z21.2)) (E := fun _ z21 => P (54, [some (.ref 1), none, none, none], [], (110, x), z21.2)) (fun zz t w hb h0 h1 => bp_tryPace_l21_x hC hd (by decide) zz hb h0 (fun ht => h1 0 ht)) mj_F _ q5 eq5 ?_
    exact mj_less hC (L0 := [some (.ref 1), none, none, none]) (And.intro rfl trivial) (bp_tryPace_j54_x hC hd (by decide) h hR)
set_option maxRecDepth 20000 in
theorem bp_tryPace_x {Ls tp ip x d : Nat} {Z : mj_X} (hd : 7 ≤ d) (htp : tp = 3 ∨ tp = 17) {v1 : Int32} {v2 : Int32} {m : mj_M} {r : mj_M} (h : bp_tryPace tp v1 v2 m = some r) : mj_Ex false (mj_sh Ls) (mj_rf tp ip) Z d 22 [.ref 1, .int v1, .int v2] (110, x) m none (110, x) r := by
  exact mj_Ex_of (cd := mj_cd_22) (L := [some (.ref 1), some (.int v1), some (.int v2), none]) (by omega) (by decide) rfl (Nat.le_of_ble_eq_true rfl) rfl (fun P hC => bp_tryPace_p hC (by omega) htp h ⟨rfl, rfl, rfl⟩)
def bp_crowd (tp : Nat) (v1 : Int32) (m : mj_M) : Option (Int32 × mj_M) :=
  (if v1 < 0 then some ((-1), m) else
  (if v1 ≤ 200 then (sa_copy 47 42 m).bind fun q3 =>
  (bp_tryHours tp v1 1 q3).bind fun q4 =>
  (sa_doneBits 47 (mj_I (q4 tp 5)) q4).bind fun q5 =>
  (sa_doneBits 42 (mj_I (q4 tp 5)) q4).bind fun q6 =>
  some ((q5 &&& (q6 ^^^ (-1))), q4) else
  some ((-1), m)))
set_option maxRecDepth 20000 in
theorem bp_crowd_p {Ls tp ip x d : Nat} {Z : mj_X} {R : Option Value → mj_G → mj_M → Prop} {P : mj_K → Prop} (hC : mj_cls false (mj_sh Ls) (mj_rf tp ip) mj_dv mj_cd_26 (mj_Ex false (mj_sh Ls) (mj_rf tp ip) Z d) R P) (hd : 7 ≤ d) (htp : tp = 3 ∨ tp = 17) {v1 : Int32} {m : mj_M} {r : (Int32 × mj_M)} (h : bp_crowd tp v1 m = some r) (hR : R (some (.int r.1)) (110, x) r.2) : P (0, [some (.ref 1), some (.int v1)], [], (110, x), m) := by
  unfold bp_crowd at h
  rcases htp with rfl | rfl
  all_goals
    refine mj_gcp hC 2 ?_
    show P (mj_pick 11 4 (v1 < 0), [some (.ref 1), some (.int v1)], [], (110, x), m)
    refine mj_pbr (fun c1 => ?_) (fun c1 => ?_)
    · rw [if_pos c1] at h
      refine mj_gcp hC 1 ?_
      show P (12, [some (.ref 1), some (.int v1)], [.int (-1)], (110, x), m)
      cases h
      exact mj_pret hC rfl hR
    · rw [if_neg c1] at h
      refine mj_gcp hC 3 ?_
      show P (mj_pick 13 11 (v1 ≤ 200), [some (.ref 1), some (.int v1)], [], (110, x), m)
      refine mj_pbr (fun c2 => ?_) (fun c2 => ?_)
      · rw [if_pos c2] at h
        refine mj_gcp hC 4 ?_
        show P (21, [some (.ref 1), some (.int v1)], [.ref 42, .ref 47], (110, x), m)
        obtain ⟨q3, eq3, h⟩ := mj_bnd h
        refine mj_pcall hC rfl (sa_copy_x (Nat.le_trans (by decide) hd) (by decide) eq3) ?_
        show P (24, [some (.ref 1), some (.int v1)], [], (110, x), q3)
        refine mj_gcp hC 3 ?_
        show P (27, [some (.ref 1), some (.int v1)], [.int 1, .int v1, .ref 1], (110, x), q3)
        obtain ⟨q4, eq4, h⟩ := mj_bnd h
        refine mj_pcall hC rfl (bp_tryHours_x (Nat.le_trans (by decide) hd) (by decide) eq4) ?_
        show P (30, [some (.ref 1), some (.int v1)], [], (110, x), q4)
        refine mj_gcp hC 5 ?_
        show P (41, [some (.ref 1), some (.int v1)], [.int (mj_I (q4 _ 5)), .ref 47], (110, x), q4)
        obtain ⟨q5, eq5, h⟩ := mj_bnd h
        refine mj_pcall hC rfl (sa_doneBits_x (Nat.le_trans (by decide) hd) (by decide) eq5) ?_
        show P (44, [some (.ref 1), some (.int v1)], [.int q5], (110, x), q4)
        refine mj_gcp hC 5 ?_
        show P (55, [some (.ref 1), some (.int v1)], [.int (mj_I (q4 _ 5)), .ref 42, .int q5], (110, x), q4)
        obtain ⟨q6, eq6, h⟩ := mj_bnd h
        refine mj_pcall hC rfl (sa_doneBits_x (Nat.le_trans (by decide) hd) (by decide) eq6) ?_
        show P (58, [some (.ref 1), some (.int v1)], [.int q6, .int q5], (110, x), q4)
        refine mj_gcp hC 3 ?_
        show P (61, [some (.ref 1), some (.int v1)], [.int (q5 &&& (q6 ^^^ (-1)))], (110, x), q4)
        cases h
        exact mj_pret hC rfl hR
      · rw [if_neg c2] at h
        refine mj_gcp hC 1 ?_
        show P (12, [some (.ref 1), some (.int v1)], [.int (-1)], (110, x), m)
        cases h
        exact mj_pret hC rfl hR
set_option maxRecDepth 20000 in
theorem bp_crowd_x {Ls tp ip x d : Nat} {Z : mj_X} (hd : 8 ≤ d) (htp : tp = 3 ∨ tp = 17) {v1 : Int32} {m : mj_M} {r : (Int32 × mj_M)} (h : bp_crowd tp v1 m = some r) : mj_Ex false (mj_sh Ls) (mj_rf tp ip) Z d 26 [.ref 1, .int v1] (110, x) m (some (.int r.1)) (110, x) r.2 := by
  exact mj_Ex_of (cd := mj_cd_26) (L := [some (.ref 1), some (.int v1)]) (by omega) (by decide) rfl (Nat.le_of_ble_eq_true rfl) rfl (fun P hC => bp_crowd_p hC (by omega) htp h ⟨rfl, rfl, rfl⟩)
def bp_off_j115l64 (tp : Nat)  (v1 : Int32) (v2 : Int32) (v3 : Int32) (v4 : Int32) (v5 : Int32) (v6 : Int32) (v7 : Int32)  (m : mj_M) : Option (Nat × (Int32 × Int32 × Int32 × mj_M)) :=
  some (0, (v5, v6, (v7 + 1), m))
def bp_off_j99l64 (tp : Nat)  (v1 : Int32) (v2 : Int32) (v3 : Int32) (v4 : Int32) (v5 : Int32) (v6 : Int32) (v7 : Int32)  (m : mj_M) : Option (Nat × (Int32 × Int32 × Int32 × mj_M)) :=
  (if ((mj_I (m 47 9)) &&& v4) = 0 then bp_off_j115l64 tp v1 v2 v3 v4 v5 v6 v7 m else
  bp_off_j115l64 tp v1 v2 v3 v4 v5 (v6 + 1) v7 m)
def bp_off_l64 (tp : Nat) (v1 : Int32) (v2 : Int32) (v3 : Int32) (v4 : Int32) (s64 : (Int32 × Int32 × Int32 × mj_M)) : Option (Nat × (Int32 × Int32 × Int32 × mj_M)) :=
  (if v2 ≤ s64.2.2.1 then some (1, (s64.1, s64.2.1, s64.2.2.1, s64.2.2.2)) else
  (ck_pass tp 47 1 s64.2.2.2).bind fun q9 =>
  (if (bp_has (mj_I (q9 47 10)) v1 q9) = 0 then bp_off_j99l64 tp v1 v2 v3 v4 s64.1 s64.2.1 s64.2.2.1 q9 else
  bp_off_j99l64 tp v1 v2 v3 v4 (s64.1 + 1) s64.2.1 s64.2.2.1 q9))
def bp_off (tp : Nat) (v1 : Int32) (v2 : Int32) (v3 : Int32) (m : mj_M) : Option (Int32 × mj_M) :=
  (if (to_isMan tp v1 m) = 0 then some ((-1), m) else
  (if v2 < 1 then some ((-1), m) else
  (if 200 < v2 then some ((-1), m) else
  (if v3 < 0 then some ((-1), m) else
  (if v3 ≤ 1 then (to_worksOf tp v1 m).bind fun q6 =>
  (sa_copy 47 42 m).bind fun q7 =>
  (mj_loop (bp_off_l64 tp v1 v2 v3 q6) mj_F (0, 0, 0, q7)).bind fun q12 =>
  (bp_gcd q12.2.1 q12.2.2.1 q12.2.2.2.2).bind fun q13 =>
  (if q12.2.2.1 = 0 then some (v3, q12.2.2.2.2) else
  (if q13 = 0 then some (v3, q12.2.2.2.2) else
  (if v3 = 0 then (if (q13 : Int32) = 0 then none else
  some ((q12.2.1 / q13), q12.2.2.2.2)) else
  (if (q13 : Int32) = 0 then none else
  some ((q12.2.2.1 / q13), q12.2.2.2.2))))) else
  some ((-1), m))))))
set_option maxRecDepth 20000 in
theorem bp_off_j115l64_x {Ls tp ip x d : Nat} {Z : mj_X} {R : Option Value → mj_G → mj_M → Prop} {P : mj_K → Prop} (hC : mj_cls false (mj_sh Ls) (mj_rf tp ip) mj_dv mj_cd_27 (mj_Ex false (mj_sh Ls) (mj_rf tp ip) Z d) R P) (hd : 6 ≤ d) (htp : tp = 3 ∨ tp = 17)  {v1 : Int32} {v2 : Int32} {v3 : Int32} {v4 : Int32} {v5 : Int32} {v6 : Int32} {v7 : Int32}  {m : mj_M} {t : Nat} {w : (Int32 × Int32 × Int32 × mj_M)} (h : bp_off_j115l64 tp  v1 v2 v3 v4 v5 v6 v7 m = some (t, w)) (h0 : t = 0 → P (64, [some (.ref 1), some (.int v1), some (.int v2), some (.int v3), some (.int v4), some (.int w.1), some (.int w.2.1), some (.int w.2.2.1)], [], (110, x), w.2.2.2)) (h1 : t = 1 → P (121, [none, none, none, some (.int v3), none, some (.int w.1), some (.int w.2.1), none], [], (110, x), w.2.2.2)) : P (115, [some (.ref 1), some (.int v1), some (.int v2), some (.int v3), some (.int v4), some (.int v5), some (.int v6), some (.int v7)], [], (110, x), m) := by
  unfold bp_off_j115l64 at h
  rcases htp with rfl | rfl
  all_goals
    refine mj_gcp hC 2 ?_
    show P (64, [some (.ref 1), some (.int v1), some (.int v2), some (.int v3), some (.int v4), some (.int v5), some (.int v6), some (.int (v7 + 1))], [], (110, x), m)
    cases h
    exact mj_less hC (L0 := [some (.ref 1), some (.int v1), some (.int v2), some (.int v3), some (.int v4), some (.int v5), some (.int v6), some (.int (v7 + 1))]) (And.intro rfl (And.intro rfl (And.intro rfl (And.intro rfl (And.intro rfl (And.intro rfl (And.intro rfl (And.intro rfl trivial)))))))) (h0 rfl)
set_option maxRecDepth 20000 in
theorem bp_off_j99l64_x {Ls tp ip x d : Nat} {Z : mj_X} {R : Option Value → mj_G → mj_M → Prop} {P : mj_K → Prop} (hC : mj_cls false (mj_sh Ls) (mj_rf tp ip) mj_dv mj_cd_27 (mj_Ex false (mj_sh Ls) (mj_rf tp ip) Z d) R P) (hd : 6 ≤ d) (htp : tp = 3 ∨ tp = 17)  {v1 : Int32} {v2 : Int32} {v3 : Int32} {v4 : Int32} {v5 : Int32} {v6 : Int32} {v7 : Int32}  {m : mj_M} {t : Nat} {w : (Int32 × Int32 × Int32 × mj_M)} (h : bp_off_j99l64 tp  v1 v2 v3 v4 v5 v6 v7 m = some (t, w)) (h0 : t = 0 → P (64, [some (.ref 1), some (.int v1), some (.int v2), some (.int v3), some (.int v4), some (.int w.1), some (.int w.2.1), some (.int w.2.2.1)], [], (110, x), w.2.2.2)) (h1 : t = 1 → P (121, [none, none, none, some (.int v3), none, some (.int w.1), some (.int w.2.1), none], [], (110, x), w.2.2.2)) : P (99, [some (.ref 1), some (.int v1), some (.int v2), some (.int v3), some (.int v4), some (.int v5), some (.int v6), some (.int v7)], [], (110, x), m) := by
  unfold bp_off_j99l64 at h
  rcases htp with rfl | rfl
  all_goals
    refine mj_gcp hC 6 ?_
    show P (mj_pick 115 112 (((mj_I (m 47 9)) &&& v4) = 0), [some (.ref 1), some (.int v1), some (.int v2), some (.int v3), some (.int v4), some (.int v5), some (.int v6), some (.int v7)], [], (110, x), m)
    refine mj_pbr (fun c11 => ?_) (fun c11 => ?_)
    · rw [if_pos c11] at h
      exact mj_less hC (L0 := [some (.ref 1), some (.int v1), some (.int v2), some (.int v3), some (.int v4), some (.int v5), some (.int v6), some (.int v7)]) (And.intro rfl (And.intro rfl (And.intro rfl (And.intro rfl (And.intro rfl (And.intro rfl (And.intro rfl (And.intro rfl trivial)))))))) (bp_off_j115l64_x hC hd (by decide) h h0 h1)
    · rw [if_neg c11] at h
      refine mj_gcp hC 1 ?_
      show P (115, [some (.ref 1), some (.int v1), some (.int v2), some (.int v3), some (.int v4), some (.int v5), some (.int (v6 + 1)), some (.int v7)], [], (110, x), m)
      exact mj_less hC (L0 := [some (.ref 1), some (.int v1), some (.int v2), some (.int v3), some (.int v4), some (.int v5), some (.int (v6 + 1)), some (.int v7)]) (And.intro rfl (And.intro rfl (And.intro rfl (And.intro rfl (And.intro rfl (And.intro rfl (And.intro rfl (And.intro rfl trivial)))))))) (bp_off_j115l64_x hC hd (by decide) h h0 h1)
set_option maxRecDepth 20000 in
theorem bp_off_l64_x {Ls tp ip x d : Nat} {Z : mj_X} {R : Option Value → mj_G → mj_M → Prop} {P : mj_K → Prop} (hC : mj_cls false (mj_sh Ls) (mj_rf tp ip) mj_dv mj_cd_27 (mj_Ex false (mj_sh Ls) (mj_rf tp ip) Z d) R P) (hd : 6 ≤ d) (htp : tp = 3 ∨ tp = 17) {v1 : Int32} {v2 : Int32} {v3 : Int32} {v4 : Int32} (s64 : (Int32 × Int32 × Int32 × mj_M)) {t : Nat} {w : (Int32 × Int32 × Int32 × mj_M)} (h : bp_off_l64 tp v1 v2 v3 v4 s64 = some (t, w)) (h0 : t = 0 → P (64, [some (.ref 1), some (.int v1), some (.int v2), some (.int v3), some (.int v4), some (.int w.1), some (.int w.2.1), some (.int w.2.2.1)], [], (110, x), w.2.2.2)) (h1 : t = 1 → P (121, [none, none, none, some (.int v3), none, some (.int w.1), some (.int w.2.1), none], [], (110, x), w.2.2.2)) : P (64, [some (.ref 1), some (.int v1), some (.int v2), some (.int v3), some (.int v4), some (.int s64.1), some (.int s64.2.1), some (.int s64.2.2.1)], [], (110, x), s64.2.2.2) := by
  unfold bp_off_l64 at h
  rcases htp with rfl | rfl
  all_goals
    refine mj_gcp hC 3 ?_
    show P (mj_pick 121 70 (v2 ≤ s64.2.2.1), [some (.ref 1), some (.int v1), some (.int v2), some (.int v3), some (.int v4), some (.int s64.1), some (.int s64.2.1), some (.int s64.2.2.1)], [], (110, x), s64.2.2.2)
    refine mj_pbr (fun c8 => ?_) (fun c8 => ?_)
    · rw [if_pos c8] at h
      cases h
      exact mj_less hC (L0 := [none, none, none, some (.int v3), none, some (.int s64.1), some (.int s64.2.1), none]) (And.intro rfl (And.intro rfl (And.intro rfl trivial))) (h1 rfl)
    · rw [if_neg c8] at h
      refine mj_gcp hC 5 ?_
      show P (79, [some (.ref 1), some (.int v1), some (.int v2), some (.int v3), some (.int v4), some (.int s64.1), some (.int s64.2.1), some (.int s64.2.2.1)], [.int 1, .ref 47, .ref 37], (110, x), s64.2.2.2)
      obtain ⟨q9, eq9, h⟩ := mj_bnd h
      refine mj_pcall hC rfl (ck_pass_x (Nat.le_trans (by decide) hd) (by decide) (by decide) eq9) ?_
      show P (82, [some (.ref 1), some (.int v1), some (.int v2), some (.int v3), some (.int v4), some (.int s64.1), some (.int s64.2.1), some (.int s64.2.2.1)], [], (110, x), q9)
      refine mj_gcp hC 4 ?_
      show P (90, [some (.ref 1), some (.int v1), some (.int v2), some (.int v3), some (.int v4), some (.int s64.1), some (.int s64.2.1), some (.int s64.2.2.1)], [.int v1, .int (mj_I (q9 47 10))], (110, x), q9)
      refine mj_pcall hC rfl (bp_has_x (Nat.le_trans (by decide) hd)) ?_
      show P (93, [some (.ref 1), some (.int v1), some (.int v2), some (.int v3), some (.int v4), some (.int s64.1), some (.int s64.2.1), some (.int s64.2.2.1)], [.int (bp_has (mj_I (q9 47 10)) v1 q9)], (110, x), q9)
      refine mj_gcp hC 1 ?_
      show P (mj_pick 99 96 ((bp_has (mj_I (q9 47 10)) v1 q9) = 0), [some (.ref 1), some (.int v1), some (.int v2), some (.int v3), some (.int v4), some (.int s64.1), some (.int s64.2.1), some (.int s64.2.2.1)], [], (110, x), q9)
      refine mj_pbr (fun c10 => ?_) (fun c10 => ?_)
      · rw [if_pos c10] at h
        exact mj_less hC (L0 := [some (.ref 1), some (.int v1), some (.int v2), some (.int v3), some (.int v4), some (.int s64.1), some (.int s64.2.1), some (.int s64.2.2.1)]) (And.intro rfl (And.intro rfl (And.intro rfl (And.intro rfl (And.intro rfl (And.intro rfl (And.intro rfl (And.intro rfl trivial)))))))) (bp_off_j99l64_x hC hd (by decide) h h0 h1)
      · rw [if_neg c10] at h
        refine mj_gcp hC 1 ?_
        show P (99, [some (.ref 1), some (.int v1), some (.int v2), some (.int v3), some (.int v4), some (.int (s64.1 + 1)), some (.int s64.2.1), some (.int s64.2.2.1)], [], (110, x), q9)
        exact mj_less hC (L0 := [some (.ref 1), some (.int v1), some (.int v2), some (.int v3), some (.int v4), some (.int (s64.1 + 1)), some (.int s64.2.1), some (.int s64.2.2.1)]) (And.intro rfl (And.intro rfl (And.intro rfl (And.intro rfl (And.intro rfl (And.intro rfl (And.intro rfl (And.intro rfl trivial)))))))) (bp_off_j99l64_x hC hd (by decide) h h0 h1)
set_option maxRecDepth 20000 in
theorem bp_off_p {Ls tp ip x d : Nat} {Z : mj_X} {R : Option Value → mj_G → mj_M → Prop} {P : mj_K → Prop} (hC : mj_cls false (mj_sh Ls) (mj_rf tp ip) mj_dv mj_cd_27 (mj_Ex false (mj_sh Ls) (mj_rf tp ip) Z d) R P) (hd : 6 ≤ d) (htp : tp = 3 ∨ tp = 17) {v1 : Int32} {v2 : Int32} {v3 : Int32} {m : mj_M} {r : (Int32 × mj_M)} (h : bp_off tp v1 v2 v3 m = some r) (hR : R (some (.int r.1)) (110, x) r.2) : P (0, [some (.ref 1), some (.int v1), some (.int v2), some (.int v3), none, none, none, none], [], (110, x), m) := by
  unfold bp_off at h
  rcases htp with rfl | rfl
  all_goals
    refine mj_gcp hC 3 ?_
    show P (5, [some (.ref 1), some (.int v1), some (.int v2), some (.int v3), none, none, none, none], [.int v1, .ref _], (110, x), m)
    refine mj_pcall hC rfl (to_isMan_x (Nat.le_trans (by decide) hd) (by decide)) ?_
    show P (8, [some (.ref 1), some (.int v1), some (.int v2), some (.int v3), none, none, none, none], [.int (to_isMan _ v1 m)], (110, x), m)
    refine mj_gcp hC 1 ?_
    show P (mj_pick 32 11 ((to_isMan _ v1 m) = 0), [some (.ref 1), some (.int v1), some (.int v2), some (.int v3), none, none, none, none], [], (110, x), m)
    refine mj_pbr (fun c1 => ?_) (fun c1 => ?_)
    · rw [if_pos c1] at h
      refine mj_gcp hC 1 ?_
      show P (33, [some (.ref 1), some (.int v1), some (.int v2), some (.int v3), none, none, none, none], [.int (-1)], (110, x), m)
      cases h
      exact mj_pret hC rfl hR
    · rw [if_neg c1] at h
      refine mj_gcp hC 3 ?_
      show P (mj_pick 32 16 (v2 < 1), [some (.ref 1), some (.int v1), some (.int v2), some (.int v3), none, none, none, none], [], (110, x), m)
      refine mj_pbr (fun c2 => ?_) (fun c2 => ?_)
      · rw [if_pos c2] at h
        refine mj_gcp hC 1 ?_
        show P (33, [some (.ref 1), some (.int v1), some (.int v2), some (.int v3), none, none, none, none], [.int (-1)], (110, x), m)
        cases h
        exact mj_pret hC rfl hR
      · rw [if_neg c2] at h
        refine mj_gcp hC 3 ?_
        show P (mj_pick 32 23 (200 < v2), [some (.ref 1), some (.int v1), some (.int v2), some (.int v3), none, none, none, none], [], (110, x), m)
        refine mj_pbr (fun c3 => ?_) (fun c3 => ?_)
        · rw [if_pos c3] at h
          refine mj_gcp hC 1 ?_
          show P (33, [some (.ref 1), some (.int v1), some (.int v2), some (.int v3), none, none, none, none], [.int (-1)], (110, x), m)
          cases h
          exact mj_pret hC rfl hR
        · rw [if_neg c3] at h
          refine mj_gcp hC 2 ?_
          show P (mj_pick 32 27 (v3 < 0), [some (.ref 1), some (.int v1), some (.int v2), some (.int v3), none, none, none, none], [], (110, x), m)
          refine mj_pbr (fun c4 => ?_) (fun c4 => ?_)
          · rw [if_pos c4] at h
            refine mj_gcp hC 1 ?_
            show P (33, [some (.ref 1), some (.int v1), some (.int v2), some (.int v3), none, none, none, none], [.int (-1)], (110, x), m)
            cases h
            exact mj_pret hC rfl hR
          · rw [if_neg c4] at h
            refine mj_gcp hC 3 ?_
            show P (mj_pick 34 32 (v3 ≤ 1), [some (.ref 1), some (.int v1), some (.int v2), some (.int v3), none, none, none, none], [], (110, x), m)
            refine mj_pbr (fun c5 => ?_) (fun c5 => ?_)
            · rw [if_pos c5] at h
              refine mj_gcp hC 3 ?_
              show P (39, [some (.ref 1), some (.int v1), some (.int v2), some (.int v3), none, none, none, none], [.int v1, .ref _], (110, x), m)
              obtain ⟨q6, eq6, h⟩ := mj_bnd h
              refine mj_pcall hC rfl (to_worksOf_x (Nat.le_trans (by decide) hd) (by decide) eq6) ?_
              show P (42, [some (.ref 1), some (.int v1), some (.int v2), some (.int v3), none, none, none, none], [.int q6], (110, x), m)
              refine mj_gcp hC 9 ?_
              show P (58, [some (.ref 1), some (.int v1), some (.int v2), some (.int v3), some (.int q6), some (.int 0), some (.int 0), none], [.ref 42, .ref 47], (110, x), m)
              obtain ⟨q7, eq7, h⟩ := mj_bnd h
              refine mj_pcall hC rfl (sa_copy_x (Nat.le_trans (by decide) hd) (by decide) eq7) ?_
              show P (61, [some (.ref 1), some (.int v1), some (.int v2), some (.int v3), some (.int q6), some (.int 0), some (.int 0), none], [], (110, x), q7)
              refine mj_gcp hC 2 ?_
              show P (64, [some (.ref 1), some (.int v1), some (.int v2), some (.int v3), some (.int q6), some (.int 0), some (.int 0), some (.int 0)], [], (110, x), q7)
              obtain ⟨q12, eq12, h⟩ := mj_bnd h
              refine mj_less hC (L0 := [some (.ref 1), some (.int v1), some (.int v2), some (.int v3), some (.int q6), some (.int 0), some (.int 0), some (.int 0)]) (And.intro rfl (And.intro rfl (And.intro rfl (And.intro rfl (And.intro rfl (And.intro rfl (And.intro rfl (And.intro rfl trivial)))))))) ?_
              refine mj_loop_P (A := fun z64 => P (64, [some (.ref 1), some (.int v1), some (.int v2), some (.int v3), some (.int q6), some (.int z64.1), some (.int z64.2.1), some (.int z64.2.2.1)], [], (110, x), z64.2.2.2)) (E := fun _ z64 => P (121, [none, none, none, some (.int v3), none, some (.int z64.1), some (.int z64.2.1), none], [], (110, x), z64.2.2.2)) (fun zz t w hb h0 h1 => bp_off_l64_x hC hd (by decide) zz hb h0 (fun ht => h1 0 ht)) mj_F _ q12 eq12 ?_
              refine mj_gcp hC 2 ?_
              show P (125, [none, none, none, some (.int v3), none, some (.int q12.2.1), some (.int q12.2.2.1), none], [.int q12.2.2.1, .int q12.2.1], (110, x), q12.2.2.2.2)
              obtain ⟨q13, eq13, h⟩ := mj_bnd h
              refine mj_pcall hC rfl (bp_gcd_x (Nat.le_trans (by decide) hd) eq13) ?_
              show P (128, [none, none, none, some (.int v3), none, some (.int q12.2.1), some (.int q12.2.2.1), none], [.int q13], (110, x), q12.2.2.2.2)
              refine mj_gcp hC 3 ?_
              show P (mj_pick 140 135 (q12.2.2.1 = 0), [none, none, none, some (.int v3), none, some (.int q12.2.1), some (.int q12.2.2.1), some (.int q13)], [], (110, x), q12.2.2.2.2)
              refine mj_pbr (fun c14 => ?_) (fun c14 => ?_)
              · rw [if_pos c14] at h
                refine mj_gcp hC 1 ?_
                show P (141, [none, none, none, some (.int v3), none, some (.int q12.2.1), some (.int q12.2.2.1), some (.int q13)], [.int v3], (110, x), q12.2.2.2.2)
                cases h
                exact mj_pret hC rfl hR
              · rw [if_neg c14] at h
                refine mj_gcp hC 2 ?_
                show P (mj_pick 140 142 (q13 = 0), [none, none, none, some (.int v3), none, some (.int q12.2.1), some (.int q12.2.2.1), some (.int q13)], [], (110, x), q12.2.2.2.2)
                refine mj_pbr (fun c15 => ?_) (fun c15 => ?_)
                · rw [if_pos c15] at h
                  refine mj_gcp hC 1 ?_
                  show P (141, [none, none, none, some (.int v3), none, some (.int q12.2.1), some (.int q12.2.2.1), some (.int q13)], [.int v3], (110, x), q12.2.2.2.2)
                  cases h
                  exact mj_pret hC rfl hR
                · rw [if_neg c15] at h
                  refine mj_gcp hC 2 ?_
                  show P (mj_pick 146 154 (v3 = 0), [none, none, none, some (.int v3), none, some (.int q12.2.1), some (.int q12.2.2.1), some (.int q13)], [], (110, x), q12.2.2.2.2)
                  refine mj_pbr (fun c16 => ?_) (fun c16 => ?_)
                  · rw [if_pos c16] at h
                    obtain ⟨k17, h⟩ := mj_ifn h
                    refine mj_gcp hC 4 ?_
                    show _ ∧ (P (159, [none, none, none, some (.int v3), none, some (.int q12.2.1), some (.int q12.2.2.1), some (.int q13)], [.int (q12.2.1 / q13)], (110, x), q12.2.2.2.2))
                    refine And.intro k17 (?_)
                    cases h
                    exact mj_pret hC rfl hR
                  · rw [if_neg c16] at h
                    obtain ⟨k18, h⟩ := mj_ifn h
                    refine mj_gcp hC 3 ?_
                    show _ ∧ (P (159, [none, none, none, some (.int v3), none, some (.int q12.2.1), some (.int q12.2.2.1), some (.int q13)], [.int (q12.2.2.1 / q13)], (110, x), q12.2.2.2.2))
                    refine And.intro k18 (?_)
                    cases h
                    exact mj_pret hC rfl hR
            · rw [if_neg c5] at h
              refine mj_gcp hC 1 ?_
              show P (33, [some (.ref 1), some (.int v1), some (.int v2), some (.int v3), none, none, none, none], [.int (-1)], (110, x), m)
              cases h
              exact mj_pret hC rfl hR
set_option maxRecDepth 20000 in
theorem bp_off_x {Ls tp ip x d : Nat} {Z : mj_X} (hd : 7 ≤ d) (htp : tp = 3 ∨ tp = 17) {v1 : Int32} {v2 : Int32} {v3 : Int32} {m : mj_M} {r : (Int32 × mj_M)} (h : bp_off tp v1 v2 v3 m = some r) : mj_Ex false (mj_sh Ls) (mj_rf tp ip) Z d 27 [.ref 1, .int v1, .int v2, .int v3] (110, x) m (some (.int r.1)) (110, x) r.2 := by
  exact mj_Ex_of (cd := mj_cd_27) (L := [some (.ref 1), some (.int v1), some (.int v2), some (.int v3), none, none, none, none]) (by omega) (by decide) rfl (Nat.le_of_ble_eq_true rfl) rfl (fun P hC => bp_off_p hC (by omega) htp h ⟨rfl, rfl, rfl⟩)
def bp_firstSlip_l36 (tp : Nat) (v1 : Int32) (v2 : Int32) (s36 : (Int32 × mj_M)) : Option (Nat × (Int32 × mj_M)) :=
  (if v1 < s36.1 then some (2, (s36.1, s36.2)) else
  (ck_pass tp 47 1 s36.2).bind fun q7 =>
  (if (mj_I (q7 47 10)) = 0 then some (0, ((s36.1 + 1), q7)) else
  some (1, (s36.1, q7))))
def bp_firstSlip (tp : Nat) (v1 : Int32) (v2 : Int32) (m : mj_M) : Option (Int32 × mj_M) :=
  (if v1 < 1 then some ((-1), m) else
  (if 200 < v1 then some ((-1), m) else
  (if v2 < 0 then some ((-1), m) else
  (if v2 ≤ 1 then (sa_copy 47 42 m).bind fun q5 =>
  (mj_loop (bp_firstSlip_l36 tp v1 v2) mj_F (1, q5)).bind fun q9 =>
  (if q9.1 = 0 then (if v2 = 0 then some (q9.2.1, q9.2.2) else
  some ((ig_numberOfTrailingZeros (mj_I (q9.2.2 47 10)) q9.2.2), q9.2.2)) else some ((-2), q9.2.2)) else
  some ((-1), m)))))
set_option maxRecDepth 20000 in
theorem bp_firstSlip_l36_x {Ls tp ip x d : Nat} {Z : mj_X} {R : Option Value → mj_G → mj_M → Prop} {P : mj_K → Prop} (hC : mj_cls false (mj_sh Ls) (mj_rf tp ip) mj_dv mj_cd_38 (mj_Ex false (mj_sh Ls) (mj_rf tp ip) Z d) R P) (hd : 6 ≤ d) (htp : tp = 3 ∨ tp = 17) {v1 : Int32} {v2 : Int32} (s36 : (Int32 × mj_M)) {t : Nat} {w : (Int32 × mj_M)} (h : bp_firstSlip_l36 tp v1 v2 s36 = some (t, w)) (h0 : t = 0 → P (36, [some (.ref 1), some (.int v1), some (.int v2), some (.int w.1)], [], (110, x), w.2)) (h1 : t = 1 → P (63, [some (.ref 1), none, some (.int v2), some (.int w.1)], [], (110, x), w.2)) (h2 : t = 2 → P (88, [none, none, none, none], [], (110, x), w.2)) : P (36, [some (.ref 1), some (.int v1), some (.int v2), some (.int s36.1)], [], (110, x), s36.2) := by
  unfold bp_firstSlip_l36 at h
  rcases htp with rfl | rfl
  all_goals
    refine mj_gcp hC 3 ?_
    show P (mj_pick 88 41 (v1 < s36.1), [some (.ref 1), some (.int v1), some (.int v2), some (.int s36.1)], [], (110, x), s36.2)
    refine mj_pbr (fun c6 => ?_) (fun c6 => ?_)
    · rw [if_pos c6] at h
      cases h
      exact mj_less hC (L0 := [none, none, none, none]) trivial (h2 rfl)
    · rw [if_neg c6] at h
      refine mj_gcp hC 5 ?_
      show P (50, [some (.ref 1), some (.int v1), some (.int v2), some (.int s36.1)], [.int 1, .ref 47, .ref 37], (110, x), s36.2)
      obtain ⟨q7, eq7, h⟩ := mj_bnd h
      refine mj_pcall hC rfl (ck_pass_x (Nat.le_trans (by decide) hd) (by decide) (by decide) eq7) ?_
      show P (53, [some (.ref 1), some (.int v1), some (.int v2), some (.int s36.1)], [], (110, x), q7)
      refine mj_gcp hC 4 ?_
      show P (mj_pick 82 63 ((mj_I (q7 47 10)) = 0), [some (.ref 1), some (.int v1), some (.int v2), some (.int s36.1)], [], (110, x), q7)
      refine mj_pbr (fun c8 => ?_) (fun c8 => ?_)
      · rw [if_pos c8] at h
        refine mj_gcp hC 2 ?_
        show P (36, [some (.ref 1), some (.int v1), some (.int v2), some (.int (s36.1 + 1))], [], (110, x), q7)
        cases h
        exact mj_less hC (L0 := [some (.ref 1), some (.int v1), some (.int v2), some (.int (s36.1 + 1))]) (And.intro rfl (And.intro rfl (And.intro rfl (And.intro rfl trivial)))) (h0 rfl)
      · rw [if_neg c8] at h
        cases h
        exact mj_less hC (L0 := [some (.ref 1), none, some (.int v2), some (.int s36.1)]) (And.intro rfl (And.intro rfl (And.intro rfl trivial))) (h1 rfl)
set_option maxRecDepth 20000 in
theorem bp_firstSlip_p {Ls tp ip x d : Nat} {Z : mj_X} {R : Option Value → mj_G → mj_M → Prop} {P : mj_K → Prop} (hC : mj_cls false (mj_sh Ls) (mj_rf tp ip) mj_dv mj_cd_38 (mj_Ex false (mj_sh Ls) (mj_rf tp ip) Z d) R P) (hd : 6 ≤ d) (htp : tp = 3 ∨ tp = 17) {v1 : Int32} {v2 : Int32} {m : mj_M} {r : (Int32 × mj_M)} (h : bp_firstSlip tp v1 v2 m = some r) (hR : R (some (.int r.1)) (110, x) r.2) : P (0, [some (.ref 1), some (.int v1), some (.int v2), none], [], (110, x), m) := by
  unfold bp_firstSlip at h
  rcases htp with rfl | rfl
  all_goals
    refine mj_gcp hC 3 ?_
    show P (mj_pick 21 5 (v1 < 1), [some (.ref 1), some (.int v1), some (.int v2), none], [], (110, x), m)
    refine mj_pbr (fun c1 => ?_) (fun c1 => ?_)
    · rw [if_pos c1] at h
      refine mj_gcp hC 1 ?_
      show P (22, [some (.ref 1), some (.int v1), some (.int v2), none], [.int (-1)], (110, x), m)
      cases h
      exact mj_pret hC rfl hR
    · rw [if_neg c1] at h
      refine mj_gcp hC 3 ?_
      show P (mj_pick 21 12 (200 < v1), [some (.ref 1), some (.int v1), some (.int v2), none], [], (110, x), m)
      refine mj_pbr (fun c2 => ?_) (fun c2 => ?_)
      · rw [if_pos c2] at h
        refine mj_gcp hC 1 ?_
        show P (22, [some (.ref 1), some (.int v1), some (.int v2), none], [.int (-1)], (110, x), m)
        cases h
        exact mj_pret hC rfl hR
      · rw [if_neg c2] at h
        refine mj_gcp hC 2 ?_
        show P (mj_pick 21 16 (v2 < 0), [some (.ref 1), some (.int v1), some (.int v2), none], [], (110, x), m)
        refine mj_pbr (fun c3 => ?_) (fun c3 => ?_)
        · rw [if_pos c3] at h
          refine mj_gcp hC 1 ?_
          show P (22, [some (.ref 1), some (.int v1), some (.int v2), none], [.int (-1)], (110, x), m)
          cases h
          exact mj_pret hC rfl hR
        · rw [if_neg c3] at h
          refine mj_gcp hC 3 ?_
          show P (mj_pick 23 21 (v2 ≤ 1), [some (.ref 1), some (.int v1), some (.int v2), none], [], (110, x), m)
          refine mj_pbr (fun c4 => ?_) (fun c4 => ?_)
          · rw [if_pos c4] at h
            refine mj_gcp hC 4 ?_
            show P (31, [some (.ref 1), some (.int v1), some (.int v2), none], [.ref 42, .ref 47], (110, x), m)
            obtain ⟨q5, eq5, h⟩ := mj_bnd h
            refine mj_pcall hC rfl (sa_copy_x (Nat.le_trans (by decide) hd) (by decide) eq5) ?_
            show P (34, [some (.ref 1), some (.int v1), some (.int v2), none], [], (110, x), q5)
            refine mj_gcp hC 2 ?_
            show P (36, [some (.ref 1), some (.int v1), some (.int v2), some (.int 1)], [], (110, x), q5)
            obtain ⟨q9, eq9, h⟩ := mj_bnd h
            refine mj_less hC (L0 := [some (.ref 1), some (.int v1), some (.int v2), some (.int 1)]) (And.intro rfl (And.intro rfl (And.intro rfl (And.intro rfl trivial)))) ?_
            refine mj_loop_P (A := fun z36 => P (36, [some (.ref 1), some (.int v1), some (.int v2), some (.int z36.1)], [], (110, x), z36.2)) (E := fun j z36 => (j = 0 → P (63, [some (.ref 1), none, some (.int v2), some (.int z36.1)], [], (110, x), z36.2)) ∧ (¬ j = 0 → P (88, [none, none, none, none], [], (110, x), z36.2))) (fun zz t w hb h0 h1 => bp_firstSlip_l36_x hC hd (by decide) zz hb h0 (fun ht => (h1 0 ht).1 rfl) (fun ht => (h1 1 ht).2 (by decide))) mj_F _ q9 eq9 ⟨fun hj => ?_, fun hj => ?_⟩
            · rw [if_pos hj] at h
              refine mj_gcp hC 2 ?_
              show P (mj_pick 67 71 (v2 = 0), [some (.ref 1), none, some (.int v2), some (.int q9.2.1)], [], (110, x), q9.2.2)
              refine mj_pbr (fun c10 => ?_) (fun c10 => ?_)
              · rw [if_pos c10] at h
                refine mj_gcp hC 2 ?_
                show P (81, [some (.ref 1), none, some (.int v2), some (.int q9.2.1)], [.int q9.2.1], (110, x), q9.2.2)
                cases h
                exact mj_pret hC rfl hR
              · rw [if_neg c10] at h
                refine mj_gcp hC 3 ?_
                show P (78, [some (.ref 1), none, some (.int v2), some (.int q9.2.1)], [.int (mj_I (q9.2.2 47 10))], (110, x), q9.2.2)
                refine mj_pcall hC rfl (ig_numberOfTrailingZeros_x (Nat.le_trans (by decide) hd)) ?_
                show P (81, [some (.ref 1), none, some (.int v2), some (.int q9.2.1)], [.int (ig_numberOfTrailingZeros (mj_I (q9.2.2 47 10)) q9.2.2)], (110, x), q9.2.2)
                cases h
                exact mj_pret hC rfl hR
            · rw [if_neg hj] at h
              refine mj_gcp hC 1 ?_
              show P (90, [none, none, none, none], [.int (-2)], (110, x), q9.2.2)
              cases h
              exact mj_pret hC rfl hR
          · rw [if_neg c4] at h
            refine mj_gcp hC 1 ?_
            show P (22, [some (.ref 1), some (.int v1), some (.int v2), none], [.int (-1)], (110, x), m)
            cases h
            exact mj_pret hC rfl hR
set_option maxRecDepth 20000 in
theorem bp_firstSlip_x {Ls tp ip x d : Nat} {Z : mj_X} (hd : 7 ≤ d) (htp : tp = 3 ∨ tp = 17) {v1 : Int32} {v2 : Int32} {m : mj_M} {r : (Int32 × mj_M)} (h : bp_firstSlip tp v1 v2 m = some r) : mj_Ex false (mj_sh Ls) (mj_rf tp ip) Z d 38 [.ref 1, .int v1, .int v2] (110, x) m (some (.int r.1)) (110, x) r.2 := by
  exact mj_Ex_of (cd := mj_cd_38) (L := [some (.ref 1), some (.int v1), some (.int v2), none]) (by omega) (by decide) rfl (Nat.le_of_ble_eq_true rfl) rfl (fun P hC => bp_firstSlip_p hC (by omega) htp h ⟨rfl, rfl, rfl⟩)
def bp_startBy_j100l61 (tp : Nat)  (v1 : Int32) (v2 : Int32) (v3 : Int32) (v4 : Int32) (s1 : Int32) (s2 : Int32) (m : mj_M) : Option (Nat × (Int32 × mj_M)) :=
  (ck_pass tp 47 1 (fx_put m 67 s1 s2)).bind fun q8 =>
  some (0, ((v4 + 1), q8))
def bp_startBy_l61 (tp : Nat) (v1 : Int32) (v2 : Int32) (v3 : Int32) (s61 : (Int32 × mj_M)) : Option (Nat × (Int32 × mj_M)) :=
  (if v2 ≤ s61.1 then some (1, (s61.1, s61.2)) else
  (if (sa_isFree 47 v3 s61.2) = 0 then bp_startBy_j100l61 tp v1 v2 v3 s61.1 s61.1 0 s61.2 else
  (ck_beatOf tp 47 1 s61.2).bind fun q9 =>
  bp_startBy_j100l61 tp v1 v2 v3 s61.1 s61.1 q9.1 q9.2))
def bp_startBy_l139 (tp : Nat)  (s139 : (Int32 × Int32 × mj_M)) : Option (Nat × (Int32 × Int32 × mj_M)) :=
  (if s139.2.1 < 0 then some (2, (s139.1, s139.2.1, s139.2.2)) else
  (if 0 < (s139.1 - (fx_at s139.2.2 67 s139.2.1)) then some (0, ((s139.1 - (fx_at s139.2.2 67 s139.2.1)), (s139.2.1 + (-1)), s139.2.2)) else
  some (1, ((s139.1 - (fx_at s139.2.2 67 s139.2.1)), s139.2.1, s139.2.2))))
def bp_startBy (tp : Nat) (v1 : Int32) (v2 : Int32) (m : mj_M) : Option (Int32 × mj_M) :=
  (if (to_isWork tp v1 m) = 0 then some ((-1), m) else
  (if (sa_isDone 42 v1 m) = 0 then (if v2 < 1 then some ((-1), m) else
  (if v2 ≤ 99 then (sa_copy 47 42 m).bind fun q5 =>
  (mj_loop (bp_startBy_l61 tp v1 v2 (fx_at m (tp + 6) v1)) mj_F (0, q5)).bind fun q10 =>
  (mj_loop (bp_startBy_l139 tp) mj_F ((fx_at q10.2.2 45 v1), (v2 - 1), q10.2.2)).bind fun q13 =>
  (if q13.1 = 0 then some (q13.2.2.1, q13.2.2.2) else some ((-2), q13.2.2.2)) else
  some ((-1), m))) else
  some ((-1), m)))
set_option maxRecDepth 20000 in
theorem bp_startBy_j100l61_x {Ls tp ip x d : Nat} {Z : mj_X} {R : Option Value → mj_G → mj_M → Prop} {P : mj_K → Prop} (hC : mj_cls false (mj_sh Ls) (mj_rf tp ip) mj_dv mj_cd_40 (mj_Ex false (mj_sh Ls) (mj_rf tp ip) Z d) R P) (hd : 6 ≤ d) (htp : tp = 3 ∨ tp = 17)  {v1 : Int32} {v2 : Int32} {v3 : Int32} {v4 : Int32} {s1 : Int32} {s2 : Int32} {m : mj_M} {t : Nat} {w : (Int32 × mj_M)} (h : bp_startBy_j100l61 tp  v1 v2 v3 v4 s1 s2 m = some (t, w)) (h0 : t = 0 → P (61, [some (.ref 1), some (.int v1), some (.int v2), some (.int v3), some (.int w.1), none], [], (110, x), w.2)) (h1 : t = 1 → P (121, [some (.ref 1), some (.int v1), some (.int v2), none, none, none], [], (110, x), w.2)) : P (100, [some (.ref 1), some (.int v1), some (.int v2), some (.int v3), some (.int v4), none], [.int s2, .int s1, .ref 67], (110, x), m) := by
  unfold bp_startBy_j100l61 at h
  rcases htp with rfl | rfl
  all_goals
    refine mj_pcall hC rfl (bp_put_x (Nat.le_trans (by decide) hd) (by decide)) ?_
    show P (103, [some (.ref 1), some (.int v1), some (.int v2), some (.int v3), some (.int v4), none], [], (110, x), (fx_put m 67 s1 s2))
    refine mj_gcp hC 5 ?_
    show P (112, [some (.ref 1), some (.int v1), some (.int v2), some (.int v3), some (.int v4), none], [.int 1, .ref 47, .ref 37], (110, x), (fx_put m 67 s1 s2))
    obtain ⟨q8, eq8, h⟩ := mj_bnd h
    refine mj_pcall hC rfl (ck_pass_x (Nat.le_trans (by decide) hd) (by decide) (by decide) eq8) ?_
    show P (115, [some (.ref 1), some (.int v1), some (.int v2), some (.int v3), some (.int v4), none], [], (110, x), q8)
    refine mj_gcp hC 2 ?_
    show P (61, [some (.ref 1), some (.int v1), some (.int v2), some (.int v3), some (.int (v4 + 1)), none], [], (110, x), q8)
    cases h
    exact mj_less hC (L0 := [some (.ref 1), some (.int v1), some (.int v2), some (.int v3), some (.int (v4 + 1)), none]) (And.intro rfl (And.intro rfl (And.intro rfl (And.intro rfl (And.intro rfl trivial))))) (h0 rfl)
set_option maxRecDepth 20000 in
theorem bp_startBy_l61_x {Ls tp ip x d : Nat} {Z : mj_X} {R : Option Value → mj_G → mj_M → Prop} {P : mj_K → Prop} (hC : mj_cls false (mj_sh Ls) (mj_rf tp ip) mj_dv mj_cd_40 (mj_Ex false (mj_sh Ls) (mj_rf tp ip) Z d) R P) (hd : 6 ≤ d) (htp : tp = 3 ∨ tp = 17) {v1 : Int32} {v2 : Int32} {v3 : Int32} (s61 : (Int32 × mj_M)) {t : Nat} {w : (Int32 × mj_M)} (h : bp_startBy_l61 tp v1 v2 v3 s61 = some (t, w)) (h0 : t = 0 → P (61, [some (.ref 1), some (.int v1), some (.int v2), some (.int v3), some (.int w.1), none], [], (110, x), w.2)) (h1 : t = 1 → P (121, [some (.ref 1), some (.int v1), some (.int v2), none, none, none], [], (110, x), w.2)) : P (61, [some (.ref 1), some (.int v1), some (.int v2), some (.int v3), some (.int s61.1), none], [], (110, x), s61.2) := by
  unfold bp_startBy_l61 at h
  rcases htp with rfl | rfl
  all_goals
    refine mj_gcp hC 3 ?_
    show P (mj_pick 121 67 (v2 ≤ s61.1), [some (.ref 1), some (.int v1), some (.int v2), some (.int v3), some (.int s61.1), none], [], (110, x), s61.2)
    refine mj_pbr (fun c6 => ?_) (fun c6 => ?_)
    · rw [if_pos c6] at h
      cases h
      exact mj_less hC (L0 := [some (.ref 1), some (.int v1), some (.int v2), none, none, none]) (And.intro rfl (And.intro rfl (And.intro rfl trivial))) (h1 rfl)
    · rw [if_neg c6] at h
      refine mj_gcp hC 6 ?_
      show P (78, [some (.ref 1), some (.int v1), some (.int v2), some (.int v3), some (.int s61.1), none], [.int v3, .ref 47, .int s61.1, .ref 67], (110, x), s61.2)
      refine mj_pcall hC rfl (sa_isFree_x (Nat.le_trans (by decide) hd) (by decide)) ?_
      show P (81, [some (.ref 1), some (.int v1), some (.int v2), some (.int v3), some (.int s61.1), none], [.int (sa_isFree 47 v3 s61.2), .int s61.1, .ref 67], (110, x), s61.2)
      refine mj_gcp hC 1 ?_
      show P (mj_pick 99 84 ((sa_isFree 47 v3 s61.2) = 0), [some (.ref 1), some (.int v1), some (.int v2), some (.int v3), some (.int s61.1), none], [.int s61.1, .ref 67], (110, x), s61.2)
      refine mj_pbr (fun c7 => ?_) (fun c7 => ?_)
      · rw [if_pos c7] at h
        refine mj_gcp hC 1 ?_
        show P (100, [some (.ref 1), some (.int v1), some (.int v2), some (.int v3), some (.int s61.1), none], [.int 0, .int s61.1, .ref 67], (110, x), s61.2)
        exact mj_less hC (L0 := [some (.ref 1), some (.int v1), some (.int v2), some (.int v3), some (.int s61.1), none]) (And.intro rfl (And.intro rfl (And.intro rfl (And.intro rfl (And.intro rfl trivial))))) (bp_startBy_j100l61_x hC hd (by decide) h h0 h1)
      · rw [if_neg c7] at h
        refine mj_gcp hC 5 ?_
        show P (93, [some (.ref 1), some (.int v1), some (.int v2), some (.int v3), some (.int s61.1), none], [.int 1, .ref 47, .ref 37, .int s61.1, .ref 67], (110, x), s61.2)
        obtain ⟨q9, eq9, h⟩ := mj_bnd h
        refine mj_pcall hC rfl (ck_beatOf_x (Nat.le_trans (by decide) hd) (by decide) (by decide) eq9) ?_
        show P (96, [some (.ref 1), some (.int v1), some (.int v2), some (.int v3), some (.int s61.1), none], [.int q9.1, .int s61.1, .ref 67], (110, x), q9.2)
        refine mj_gcp hC 1 ?_
        show P (100, [some (.ref 1), some (.int v1), some (.int v2), some (.int v3), some (.int s61.1), none], [.int q9.1, .int s61.1, .ref 67], (110, x), q9.2)
        exact mj_less hC (L0 := [some (.ref 1), some (.int v1), some (.int v2), some (.int v3), some (.int s61.1), none]) (And.intro rfl (And.intro rfl (And.intro rfl (And.intro rfl (And.intro rfl trivial))))) (bp_startBy_j100l61_x hC hd (by decide) h h0 h1)
set_option maxRecDepth 20000 in
theorem bp_startBy_l139_x {Ls tp ip x d : Nat} {Z : mj_X} {R : Option Value → mj_G → mj_M → Prop} {P : mj_K → Prop} (hC : mj_cls false (mj_sh Ls) (mj_rf tp ip) mj_dv mj_cd_40 (mj_Ex false (mj_sh Ls) (mj_rf tp ip) Z d) R P) (hd : 6 ≤ d) (htp : tp = 3 ∨ tp = 17)  (s139 : (Int32 × Int32 × mj_M)) {t : Nat} {w : (Int32 × Int32 × mj_M)} (h : bp_startBy_l139 tp s139 = some (t, w)) (h0 : t = 0 → P (139, [some (.ref 1), none, none, none, some (.int w.1), some (.int w.2.1)], [], (110, x), w.2.2)) (h1 : t = 1 → P (163, [none, none, none, none, none, some (.int w.2.1)], [], (110, x), w.2.2)) (h2 : t = 2 → P (172, [none, none, none, none, none, none], [], (110, x), w.2.2)) : P (139, [some (.ref 1), none, none, none, some (.int s139.1), some (.int s139.2.1)], [], (110, x), s139.2.2) := by
  unfold bp_startBy_l139 at h
  rcases htp with rfl | rfl
  all_goals
    refine mj_gcp hC 2 ?_
    show P (mj_pick 172 144 (s139.2.1 < 0), [some (.ref 1), none, none, none, some (.int s139.1), some (.int s139.2.1)], [], (110, x), s139.2.2)
    refine mj_pbr (fun c11 => ?_) (fun c11 => ?_)
    · rw [if_pos c11] at h
      cases h
      exact mj_less hC (L0 := [none, none, none, none, none, none]) trivial (h2 rfl)
    · rw [if_neg c11] at h
      refine mj_gcp hC 4 ?_
      show P (152, [some (.ref 1), none, none, none, some (.int s139.1), some (.int s139.2.1)], [.int s139.2.1, .ref 67, .int s139.1], (110, x), s139.2.2)
      refine mj_pcall hC rfl (bp_at_x (Nat.le_trans (by decide) hd) (by decide)) ?_
      show P (155, [some (.ref 1), none, none, none, some (.int s139.1), some (.int s139.2.1)], [.int (fx_at s139.2.2 67 s139.2.1), .int s139.1], (110, x), s139.2.2)
      refine mj_gcp hC 4 ?_
      show P (mj_pick 166 163 (0 < (s139.1 - (fx_at s139.2.2 67 s139.2.1))), [some (.ref 1), none, none, none, some (.int (s139.1 - (fx_at s139.2.2 67 s139.2.1))), some (.int s139.2.1)], [], (110, x), s139.2.2)
      refine mj_pbr (fun c12 => ?_) (fun c12 => ?_)
      · rw [if_pos c12] at h
        refine mj_gcp hC 2 ?_
        show P (139, [some (.ref 1), none, none, none, some (.int (s139.1 - (fx_at s139.2.2 67 s139.2.1))), some (.int (s139.2.1 + (-1)))], [], (110, x), s139.2.2)
        cases h
        exact mj_less hC (L0 := [some (.ref 1), none, none, none, some (.int (s139.1 - (fx_at s139.2.2 67 s139.2.1))), some (.int (s139.2.1 + (-1)))]) (And.intro rfl (And.intro rfl (And.intro rfl trivial))) (h0 rfl)
      · rw [if_neg c12] at h
        cases h
        exact mj_less hC (L0 := [none, none, none, none, none, some (.int s139.2.1)]) (And.intro rfl trivial) (h1 rfl)
set_option maxRecDepth 20000 in
theorem bp_startBy_p {Ls tp ip x d : Nat} {Z : mj_X} {R : Option Value → mj_G → mj_M → Prop} {P : mj_K → Prop} (hC : mj_cls false (mj_sh Ls) (mj_rf tp ip) mj_dv mj_cd_40 (mj_Ex false (mj_sh Ls) (mj_rf tp ip) Z d) R P) (hd : 6 ≤ d) (htp : tp = 3 ∨ tp = 17) {v1 : Int32} {v2 : Int32} {m : mj_M} {r : (Int32 × mj_M)} (h : bp_startBy tp v1 v2 m = some r) (hR : R (some (.int r.1)) (110, x) r.2) : P (0, [some (.ref 1), some (.int v1), some (.int v2), none, none, none], [], (110, x), m) := by
  unfold bp_startBy at h
  rcases htp with rfl | rfl
  all_goals
    refine mj_gcp hC 3 ?_
    show P (5, [some (.ref 1), some (.int v1), some (.int v2), none, none, none], [.int v1, .ref _], (110, x), m)
    refine mj_pcall hC rfl (to_isWork_x (Nat.le_trans (by decide) hd) (by decide)) ?_
    show P (8, [some (.ref 1), some (.int v1), some (.int v2), none, none, none], [.int (to_isWork _ v1 m)], (110, x), m)
    refine mj_gcp hC 1 ?_
    show P (mj_pick 33 11 ((to_isWork _ v1 m) = 0), [some (.ref 1), some (.int v1), some (.int v2), none, none, none], [], (110, x), m)
    refine mj_pbr (fun c1 => ?_) (fun c1 => ?_)
    · rw [if_pos c1] at h
      refine mj_gcp hC 1 ?_
      show P (34, [some (.ref 1), some (.int v1), some (.int v2), none, none, none], [.int (-1)], (110, x), m)
      cases h
      exact mj_pret hC rfl hR
    · rw [if_neg c1] at h
      refine mj_gcp hC 3 ?_
      show P (16, [some (.ref 1), some (.int v1), some (.int v2), none, none, none], [.int v1, .ref 42], (110, x), m)
      refine mj_pcall hC rfl (sa_isDone_x (Nat.le_trans (by decide) hd) (by decide)) ?_
      show P (19, [some (.ref 1), some (.int v1), some (.int v2), none, none, none], [.int (sa_isDone 42 v1 m)], (110, x), m)
      refine mj_gcp hC 1 ?_
      show P (mj_pick 22 33 ((sa_isDone 42 v1 m) = 0), [some (.ref 1), some (.int v1), some (.int v2), none, none, none], [], (110, x), m)
      refine mj_pbr (fun c2 => ?_) (fun c2 => ?_)
      · rw [if_pos c2] at h
        refine mj_gcp hC 3 ?_
        show P (mj_pick 33 27 (v2 < 1), [some (.ref 1), some (.int v1), some (.int v2), none, none, none], [], (110, x), m)
        refine mj_pbr (fun c3 => ?_) (fun c3 => ?_)
        · rw [if_pos c3] at h
          refine mj_gcp hC 1 ?_
          show P (34, [some (.ref 1), some (.int v1), some (.int v2), none, none, none], [.int (-1)], (110, x), m)
          cases h
          exact mj_pret hC rfl hR
        · rw [if_neg c3] at h
          refine mj_gcp hC 3 ?_
          show P (mj_pick 35 33 (v2 ≤ 99), [some (.ref 1), some (.int v1), some (.int v2), none, none, none], [], (110, x), m)
          refine mj_pbr (fun c4 => ?_) (fun c4 => ?_)
          · rw [if_pos c4] at h
            refine mj_gcp hC 4 ?_
            show P (43, [some (.ref 1), some (.int v1), some (.int v2), none, none, none], [.int v1, .ref _], (110, x), m)
            refine mj_pcall hC rfl (bp_at_x (Nat.le_trans (by decide) hd) (by decide)) ?_
            show P (46, [some (.ref 1), some (.int v1), some (.int v2), none, none, none], [.int (fx_at m _ v1)], (110, x), m)
            refine mj_gcp hC 5 ?_
            show P (55, [some (.ref 1), some (.int v1), some (.int v2), some (.int (fx_at m _ v1)), none, none], [.ref 42, .ref 47], (110, x), m)
            obtain ⟨q5, eq5, h⟩ := mj_bnd h
            refine mj_pcall hC rfl (sa_copy_x (Nat.le_trans (by decide) hd) (by decide) eq5) ?_
            show P (58, [some (.ref 1), some (.int v1), some (.int v2), some (.int (fx_at m _ v1)), none, none], [], (110, x), q5)
            refine mj_gcp hC 2 ?_
            show P (61, [some (.ref 1), some (.int v1), some (.int v2), some (.int (fx_at m _ v1)), some (.int 0), none], [], (110, x), q5)
            obtain ⟨q10, eq10, h⟩ := mj_bnd h
            refine mj_less hC (L0 := [some (.ref 1), some (.int v1), some (.int v2), some (.int (fx_at m _ v1)), some (.int 0), none]) (And.intro rfl (And.intro rfl (And.intro rfl (And.intro rfl (And.intro rfl trivial))))) ?_
            refine mj_loop_P (A := fun z61 => P (61, [some (.ref 1), some (.int v1), some (.int v2), some (.int (fx_at m _ v1)), some (.int z61.1), none], [], (110, x), z61.2)) (E := fun _ z61 => P (121, [some (.ref 1), some (.int v1), some (.int v2), none, none, none], [], (110, x), z61.2)) (fun zz t w hb h0 h1 => bp_startBy_l61_x hC hd (by decide) zz hb h0 (fun ht => h1 0 ht)) mj_F _ q10 eq10 ?_
            refine mj_gcp hC 4 ?_
            show P (129, [some (.ref 1), some (.int v1), some (.int v2), none, none, none], [.int v1, .ref 45], (110, x), q10.2.2)
            refine mj_pcall hC rfl (bp_at_x (Nat.le_trans (by decide) hd) (by decide)) ?_
            show P (132, [some (.ref 1), some (.int v1), some (.int v2), none, none, none], [.int (fx_at q10.2.2 45 v1)], (110, x), q10.2.2)
            refine mj_gcp hC 5 ?_
            show P (139, [some (.ref 1), some (.int v1), some (.int v2), none, some (.int (fx_at q10.2.2 45 v1)), some (.int (v2 - 1))], [], (110, x), q10.2.2)
            obtain ⟨q13, eq13, h⟩ := mj_bnd h
            refine mj_less hC (L0 := [some (.ref 1), none, none, none, some (.int (fx_at q10.2.2 45 v1)), some (.int (v2 - 1))]) (And.intro rfl (And.intro rfl (And.intro rfl trivial))) ?_
            refine mj_loop_P (A := fun z139 => P (139, [some (.ref 1), none, none, none, some (.int z139.1), some (.int z139.2.1)], [], (110, x), z139.2.2)) (E := fun j z139 => (j = 0 → P (163, [none, none, none, none, none, some (.int z139.2.1)], [], (110, x), z139.2.2)) ∧ (¬ j = 0 → P (172, [none, none, none, none, none, none], [], (110, x), z139.2.2))) (fun zz t w hb h0 h1 => bp_startBy_l139_x hC hd (by decide) zz hb h0 (fun ht => (h1 0 ht).1 rfl) (fun ht => (h1 1 ht).2 (by decide))) mj_F _ q13 eq13 ⟨fun hj => ?_, fun hj => ?_⟩
            · rw [if_pos hj] at h
              refine mj_gcp hC 1 ?_
              show P (165, [none, none, none, none, none, some (.int q13.2.2.1)], [.int q13.2.2.1], (110, x), q13.2.2.2)
              cases h
              exact mj_pret hC rfl hR
            · rw [if_neg hj] at h
              refine mj_gcp hC 1 ?_
              show P (174, [none, none, none, none, none, none], [.int (-2)], (110, x), q13.2.2.2)
              cases h
              exact mj_pret hC rfl hR
          · rw [if_neg c4] at h
            refine mj_gcp hC 1 ?_
            show P (34, [some (.ref 1), some (.int v1), some (.int v2), none, none, none], [.int (-1)], (110, x), m)
            cases h
            exact mj_pret hC rfl hR
      · rw [if_neg c2] at h
        refine mj_gcp hC 1 ?_
        show P (34, [some (.ref 1), some (.int v1), some (.int v2), none, none, none], [.int (-1)], (110, x), m)
        cases h
        exact mj_pret hC rfl hR
set_option maxRecDepth 20000 in
theorem bp_startBy_x {Ls tp ip x d : Nat} {Z : mj_X} (hd : 7 ≤ d) (htp : tp = 3 ∨ tp = 17) {v1 : Int32} {v2 : Int32} {m : mj_M} {r : (Int32 × mj_M)} (h : bp_startBy tp v1 v2 m = some r) : mj_Ex false (mj_sh Ls) (mj_rf tp ip) Z d 40 [.ref 1, .int v1, .int v2] (110, x) m (some (.int r.1)) (110, x) r.2 := by
  exact mj_Ex_of (cd := mj_cd_40) (L := [some (.ref 1), some (.int v1), some (.int v2), none, none, none]) (by omega) (by decide) rfl (Nat.le_of_ble_eq_true rfl) rfl (fun P hC => bp_startBy_p hC (by omega) htp h ⟨rfl, rfl, rfl⟩)
def bp_isShiftedBy_l22 (tp : Nat) (v2 : Int32) (v3 : Int32) (s22 : (Int32 × mj_M)) : Option (Nat × (Int32 × mj_M)) :=
  (if v3 < s22.1 then some (2, (s22.1, s22.2)) else
  (ck_pass tp 47 1 s22.2).bind fun q3 =>
  (si_fit 47 v2 q3).bind fun q4 =>
  (if q4 = 0 then some (1, (s22.1, q3)) else
  some (0, ((s22.1 + 1), q3))))
def bp_isShiftedBy (tp : Nat) (v1 : Int32) (v2 : Int32) (v3 : Int32) (m : mj_M) : Option (Int32 × mj_M) :=
  (sa_begin tp 47 m).bind fun q1 =>
  (mj_loop (bp_isShiftedBy_l22 tp v2 v3) mj_F (1, (mj_up q1 47 2 (.int v1)))).bind fun q6 =>
  (if q6.1 = 0 then some (0, q6.2.2) else some (1, q6.2.2))
set_option maxRecDepth 20000 in
theorem bp_isShiftedBy_l22_x {Ls tp ip x d : Nat} {Z : mj_X} {R : Option Value → mj_G → mj_M → Prop} {P : mj_K → Prop} (hC : mj_cls false (mj_sh Ls) (mj_rf tp ip) mj_dv mj_cd_46 (mj_Ex false (mj_sh Ls) (mj_rf tp ip) Z d) R P) (hd : 6 ≤ d) (htp : tp = 3 ∨ tp = 17) {v2 : Int32} {v3 : Int32} (s22 : (Int32 × mj_M)) {t : Nat} {w : (Int32 × mj_M)} (h : bp_isShiftedBy_l22 tp v2 v3 s22 = some (t, w)) (h0 : t = 0 → P (22, [some (.ref 1), none, some (.int v2), some (.int v3), some (.int w.1)], [], (110, x), w.2)) (h1 : t = 1 → P (55, [none, none, none, none, none], [], (110, x), w.2)) (h2 : t = 2 → P (63, [none, none, none, none, none], [], (110, x), w.2)) : P (22, [some (.ref 1), none, some (.int v2), some (.int v3), some (.int s22.1)], [], (110, x), s22.2) := by
  unfold bp_isShiftedBy_l22 at h
  rcases htp with rfl | rfl
  all_goals
    refine mj_gcp hC 3 ?_
    show P (mj_pick 63 28 (v3 < s22.1), [some (.ref 1), none, some (.int v2), some (.int v3), some (.int s22.1)], [], (110, x), s22.2)
    refine mj_pbr (fun c2 => ?_) (fun c2 => ?_)
    · rw [if_pos c2] at h
      cases h
      exact mj_less hC (L0 := [none, none, none, none, none]) trivial (h2 rfl)
    · rw [if_neg c2] at h
      refine mj_gcp hC 5 ?_
      show P (37, [some (.ref 1), none, some (.int v2), some (.int v3), some (.int s22.1)], [.int 1, .ref 47, .ref 37], (110, x), s22.2)
      obtain ⟨q3, eq3, h⟩ := mj_bnd h
      refine mj_pcall hC rfl (ck_pass_x (Nat.le_trans (by decide) hd) (by decide) (by decide) eq3) ?_
      show P (40, [some (.ref 1), none, some (.int v2), some (.int v3), some (.int s22.1)], [], (110, x), q3)
      refine mj_gcp hC 5 ?_
      show P (49, [some (.ref 1), none, some (.int v2), some (.int v3), some (.int s22.1)], [.int v2, .ref 47, .ref 61], (110, x), q3)
      obtain ⟨q4, eq4, h⟩ := mj_bnd h
      refine mj_pcall hC rfl (si_fit_x (Nat.le_trans (by decide) hd) (by decide) eq4) ?_
      show P (52, [some (.ref 1), none, some (.int v2), some (.int v3), some (.int s22.1)], [.int q4], (110, x), q3)
      refine mj_gcp hC 1 ?_
      show P (mj_pick 55 57 (q4 = 0), [some (.ref 1), none, some (.int v2), some (.int v3), some (.int s22.1)], [], (110, x), q3)
      refine mj_pbr (fun c5 => ?_) (fun c5 => ?_)
      · rw [if_pos c5] at h
        cases h
        exact mj_less hC (L0 := [none, none, none, none, none]) trivial (h1 rfl)
      · rw [if_neg c5] at h
        refine mj_gcp hC 2 ?_
        show P (22, [some (.ref 1), none, some (.int v2), some (.int v3), some (.int (s22.1 + 1))], [], (110, x), q3)
        cases h
        exact mj_less hC (L0 := [some (.ref 1), none, some (.int v2), some (.int v3), some (.int (s22.1 + 1))]) (And.intro rfl (And.intro rfl (And.intro rfl (And.intro rfl trivial)))) (h0 rfl)
set_option maxRecDepth 20000 in
theorem bp_isShiftedBy_p {Ls tp ip x d : Nat} {Z : mj_X} {R : Option Value → mj_G → mj_M → Prop} {P : mj_K → Prop} (hC : mj_cls false (mj_sh Ls) (mj_rf tp ip) mj_dv mj_cd_46 (mj_Ex false (mj_sh Ls) (mj_rf tp ip) Z d) R P) (hd : 6 ≤ d) (htp : tp = 3 ∨ tp = 17) {v1 : Int32} {v2 : Int32} {v3 : Int32} {m : mj_M} {r : (Int32 × mj_M)} (h : bp_isShiftedBy tp v1 v2 v3 m = some r) (hR : R (some (.int r.1)) (110, x) r.2) : P (0, [some (.ref 1), some (.int v1), some (.int v2), some (.int v3), none], [], (110, x), m) := by
  unfold bp_isShiftedBy at h
  rcases htp with rfl | rfl
  all_goals
    refine mj_gcp hC 4 ?_
    show P (8, [some (.ref 1), some (.int v1), some (.int v2), some (.int v3), none], [.ref _, .ref 47], (110, x), m)
    obtain ⟨q1, eq1, h⟩ := mj_bnd h
    refine mj_pcall hC rfl (sa_begin_x (Nat.le_trans (by decide) hd) (by decide) (by decide) eq1) ?_
    show P (11, [some (.ref 1), some (.int v1), some (.int v2), some (.int v3), none], [], (110, x), q1)
    refine mj_gcp hC 6 ?_
    show P (22, [some (.ref 1), some (.int v1), some (.int v2), some (.int v3), some (.int 1)], [], (110, x), (mj_up q1 47 2 (.int v1)))
    obtain ⟨q6, eq6, h⟩ := mj_bnd h
    refine mj_less hC (L0 := [some (.ref 1), none, some (.int v2), some (.int v3), some (.int 1)]) (And.intro rfl (And.intro rfl (And.intro rfl (And.intro rfl trivial)))) ?_
    refine mj_loop_P (A := fun z22 => P (22, [some (.ref 1), none, some (.int v2), some (.int v3), some (.int z22.1)], [], (110, x), z22.2)) (E := fun j z22 => (j = 0 → P (55, [none, none, none, none, none], [], (110, x), z22.2)) ∧ (¬ j = 0 → P (63, [none, none, none, none, none], [], (110, x), z22.2))) (fun zz t w hb h0 h1 => bp_isShiftedBy_l22_x hC hd (by decide) zz hb h0 (fun ht => (h1 0 ht).1 rfl) (fun ht => (h1 1 ht).2 (by decide))) mj_F _ q6 eq6 ⟨fun hj => ?_, fun hj => ?_⟩
    · rw [if_pos hj] at h
      refine mj_gcp hC 1 ?_
      show P (56, [none, none, none, none, none], [.int 0], (110, x), q6.2.2)
      cases h
      exact mj_pret hC rfl hR
    · rw [if_neg hj] at h
      refine mj_gcp hC 1 ?_
      show P (64, [none, none, none, none, none], [.int 1], (110, x), q6.2.2)
      cases h
      exact mj_pret hC rfl hR
set_option maxRecDepth 20000 in
theorem bp_isShiftedBy_x {Ls tp ip x d : Nat} {Z : mj_X} (hd : 7 ≤ d) (htp : tp = 3 ∨ tp = 17) {v1 : Int32} {v2 : Int32} {v3 : Int32} {m : mj_M} {r : (Int32 × mj_M)} (h : bp_isShiftedBy tp v1 v2 v3 m = some r) : mj_Ex false (mj_sh Ls) (mj_rf tp ip) Z d 46 [.ref 1, .int v1, .int v2, .int v3] (110, x) m (some (.int r.1)) (110, x) r.2 := by
  exact mj_Ex_of (cd := mj_cd_46) (L := [some (.ref 1), some (.int v1), some (.int v2), some (.int v3), none]) (by omega) (by decide) rfl (Nat.le_of_ble_eq_true rfl) rfl (fun P hC => bp_isShiftedBy_p hC (by omega) htp h ⟨rfl, rfl, rfl⟩)
def bp_chance_j93l37 (tp : Nat)  (v2 : Int32) (v3 : Int32) (v4 : Int32) (v5 : Int32) (v6 : Int32)  (m : mj_M) : Option (Nat × (Int32 × Int32 × Int32 × mj_M)) :=
  some (0, (v4, v5, (v6 + 1), m))
def bp_chance_l37 (tp : Nat) (v2 : Int32) (v3 : Int32) (s37 : (Int32 × Int32 × Int32 × mj_M)) : Option (Nat × (Int32 × Int32 × Int32 × mj_M)) :=
  (if 10 ≤ s37.2.2.1 then some (1, (s37.1, s37.2.1, s37.2.2.1, s37.2.2.2)) else
  (sa_copy 47 42 s37.2.2.2).bind fun q6 =>
  (bp_tryHours tp v2 0 (mj_up q6 47 3 (.int s37.1))).bind fun q7 =>
  (if (sa_isDone 47 v3 q7) = 0 then bp_chance_j93l37 tp v2 v3 (mj_I (q7 47 3)) s37.2.1 s37.2.2.1 q7 else
  bp_chance_j93l37 tp v2 v3 (mj_I (q7 47 3)) (s37.2.1 + 1) s37.2.2.1 q7))
def bp_chance (tp : Nat) (v1 : Int32) (v2 : Int32) (v3 : Int32) (m : mj_M) : Option (Int32 × mj_M) :=
  (if v1 < 0 then some ((-1), m) else
  (if v2 < 1 then some ((-1), m) else
  (if 99 < v2 then some ((-1), m) else
  (if (to_isWork tp v3 m) = 0 then some ((-1), m) else
  (mj_loop (bp_chance_l37 tp v2 v3) mj_F (v1, 0, 0, m)).bind fun q9 =>
  some (q9.2.2.1, q9.2.2.2.2)))))
set_option maxRecDepth 20000 in
theorem bp_chance_j93l37_x {Ls tp ip x d : Nat} {Z : mj_X} {R : Option Value → mj_G → mj_M → Prop} {P : mj_K → Prop} (hC : mj_cls false (mj_sh Ls) (mj_rf tp ip) mj_dv mj_cd_47 (mj_Ex false (mj_sh Ls) (mj_rf tp ip) Z d) R P) (hd : 7 ≤ d) (htp : tp = 3 ∨ tp = 17)  {v2 : Int32} {v3 : Int32} {v4 : Int32} {v5 : Int32} {v6 : Int32}  {m : mj_M} {t : Nat} {w : (Int32 × Int32 × Int32 × mj_M)} (h : bp_chance_j93l37 tp  v2 v3 v4 v5 v6 m = some (t, w)) (h0 : t = 0 → P (37, [some (.ref 1), none, some (.int v2), some (.int v3), some (.int w.1), some (.int w.2.1), some (.int w.2.2.1)], [], (110, x), w.2.2.2)) (h1 : t = 1 → P (99, [none, none, none, none, none, some (.int w.2.1), none], [], (110, x), w.2.2.2)) : P (93, [some (.ref 1), none, some (.int v2), some (.int v3), some (.int v4), some (.int v5), some (.int v6)], [], (110, x), m) := by
  unfold bp_chance_j93l37 at h
  rcases htp with rfl | rfl
  all_goals
    refine mj_gcp hC 2 ?_
    show P (37, [some (.ref 1), none, some (.int v2), some (.int v3), some (.int v4), some (.int v5), some (.int (v6 + 1))], [], (110, x), m)
    cases h
    exact mj_less hC (L0 := [some (.ref 1), none, some (.int v2), some (.int v3), some (.int v4), some (.int v5), some (.int (v6 + 1))]) (And.intro rfl (And.intro rfl (And.intro rfl (And.intro rfl (And.intro rfl (And.intro rfl trivial)))))) (h0 rfl)
set_option maxRecDepth 20000 in
theorem bp_chance_l37_x {Ls tp ip x d : Nat} {Z : mj_X} {R : Option Value → mj_G → mj_M → Prop} {P : mj_K → Prop} (hC : mj_cls false (mj_sh Ls) (mj_rf tp ip) mj_dv mj_cd_47 (mj_Ex false (mj_sh Ls) (mj_rf tp ip) Z d) R P) (hd : 7 ≤ d) (htp : tp = 3 ∨ tp = 17) {v2 : Int32} {v3 : Int32} (s37 : (Int32 × Int32 × Int32 × mj_M)) {t : Nat} {w : (Int32 × Int32 × Int32 × mj_M)} (h : bp_chance_l37 tp v2 v3 s37 = some (t, w)) (h0 : t = 0 → P (37, [some (.ref 1), none, some (.int v2), some (.int v3), some (.int w.1), some (.int w.2.1), some (.int w.2.2.1)], [], (110, x), w.2.2.2)) (h1 : t = 1 → P (99, [none, none, none, none, none, some (.int w.2.1), none], [], (110, x), w.2.2.2)) : P (37, [some (.ref 1), none, some (.int v2), some (.int v3), some (.int s37.1), some (.int s37.2.1), some (.int s37.2.2.1)], [], (110, x), s37.2.2.2) := by
  unfold bp_chance_l37 at h
  rcases htp with rfl | rfl
  all_goals
    refine mj_gcp hC 3 ?_
    show P (mj_pick 99 44 (10 ≤ s37.2.2.1), [some (.ref 1), none, some (.int v2), some (.int v3), some (.int s37.1), some (.int s37.2.1), some (.int s37.2.2.1)], [], (110, x), s37.2.2.2)
    refine mj_pbr (fun c5 => ?_) (fun c5 => ?_)
    · rw [if_pos c5] at h
      cases h
      exact mj_less hC (L0 := [none, none, none, none, none, some (.int s37.2.1), none]) (And.intro rfl trivial) (h1 rfl)
    · rw [if_neg c5] at h
      refine mj_gcp hC 4 ?_
      show P (52, [some (.ref 1), none, some (.int v2), some (.int v3), some (.int s37.1), some (.int s37.2.1), some (.int s37.2.2.1)], [.ref 42, .ref 47], (110, x), s37.2.2.2)
      obtain ⟨q6, eq6, h⟩ := mj_bnd h
      refine mj_pcall hC rfl (sa_copy_x (Nat.le_trans (by decide) hd) (by decide) eq6) ?_
      show P (55, [some (.ref 1), none, some (.int v2), some (.int v3), some (.int s37.1), some (.int s37.2.1), some (.int s37.2.2.1)], [], (110, x), q6)
      refine mj_gcp hC 7 ?_
      show P (67, [some (.ref 1), none, some (.int v2), some (.int v3), some (.int s37.1), some (.int s37.2.1), some (.int s37.2.2.1)], [.int 0, .int v2, .ref 1], (110, x), (mj_up q6 47 3 (.int s37.1)))
      obtain ⟨q7, eq7, h⟩ := mj_bnd h
      refine mj_pcall hC rfl (bp_tryHours_x (Nat.le_trans (by decide) hd) (by decide) eq7) ?_
      show P (70, [some (.ref 1), none, some (.int v2), some (.int v3), some (.int s37.1), some (.int s37.2.1), some (.int s37.2.2.1)], [], (110, x), q7)
      refine mj_gcp hC 7 ?_
      show P (84, [some (.ref 1), none, some (.int v2), some (.int v3), some (.int (mj_I (q7 47 3))), some (.int s37.2.1), some (.int s37.2.2.1)], [.int v3, .ref 47], (110, x), q7)
      refine mj_pcall hC rfl (sa_isDone_x (Nat.le_trans (by decide) hd) (by decide)) ?_
      show P (87, [some (.ref 1), none, some (.int v2), some (.int v3), some (.int (mj_I (q7 47 3))), some (.int s37.2.1), some (.int s37.2.2.1)], [.int (sa_isDone 47 v3 q7)], (110, x), q7)
      refine mj_gcp hC 1 ?_
      show P (mj_pick 93 90 ((sa_isDone 47 v3 q7) = 0), [some (.ref 1), none, some (.int v2), some (.int v3), some (.int (mj_I (q7 47 3))), some (.int s37.2.1), some (.int s37.2.2.1)], [], (110, x), q7)
      refine mj_pbr (fun c8 => ?_) (fun c8 => ?_)
      · rw [if_pos c8] at h
        exact mj_less hC (L0 := [some (.ref 1), none, some (.int v2), some (.int v3), some (.int (mj_I (q7 47 3))), some (.int s37.2.1), some (.int s37.2.2.1)]) (And.intro rfl (And.intro rfl (And.intro rfl (And.intro rfl (And.intro rfl (And.intro rfl trivial)))))) (bp_chance_j93l37_x hC hd (by decide) h h0 h1)
      · rw [if_neg c8] at h
        refine mj_gcp hC 1 ?_
        show P (93, [some (.ref 1), none, some (.int v2), some (.int v3), some (.int (mj_I (q7 47 3))), some (.int (s37.2.1 + 1)), some (.int s37.2.2.1)], [], (110, x), q7)
        exact mj_less hC (L0 := [some (.ref 1), none, some (.int v2), some (.int v3), some (.int (mj_I (q7 47 3))), some (.int (s37.2.1 + 1)), some (.int s37.2.2.1)]) (And.intro rfl (And.intro rfl (And.intro rfl (And.intro rfl (And.intro rfl (And.intro rfl trivial)))))) (bp_chance_j93l37_x hC hd (by decide) h h0 h1)
set_option maxRecDepth 20000 in
theorem bp_chance_p {Ls tp ip x d : Nat} {Z : mj_X} {R : Option Value → mj_G → mj_M → Prop} {P : mj_K → Prop} (hC : mj_cls false (mj_sh Ls) (mj_rf tp ip) mj_dv mj_cd_47 (mj_Ex false (mj_sh Ls) (mj_rf tp ip) Z d) R P) (hd : 7 ≤ d) (htp : tp = 3 ∨ tp = 17) {v1 : Int32} {v2 : Int32} {v3 : Int32} {m : mj_M} {r : (Int32 × mj_M)} (h : bp_chance tp v1 v2 v3 m = some r) (hR : R (some (.int r.1)) (110, x) r.2) : P (0, [some (.ref 1), some (.int v1), some (.int v2), some (.int v3), none, none, none], [], (110, x), m) := by
  unfold bp_chance at h
  rcases htp with rfl | rfl
  all_goals
    refine mj_gcp hC 2 ?_
    show P (mj_pick 26 4 (v1 < 0), [some (.ref 1), some (.int v1), some (.int v2), some (.int v3), none, none, none], [], (110, x), m)
    refine mj_pbr (fun c1 => ?_) (fun c1 => ?_)
    · rw [if_pos c1] at h
      refine mj_gcp hC 1 ?_
      show P (27, [some (.ref 1), some (.int v1), some (.int v2), some (.int v3), none, none, none], [.int (-1)], (110, x), m)
      cases h
      exact mj_pret hC rfl hR
    · rw [if_neg c1] at h
      refine mj_gcp hC 3 ?_
      show P (mj_pick 26 9 (v2 < 1), [some (.ref 1), some (.int v1), some (.int v2), some (.int v3), none, none, none], [], (110, x), m)
      refine mj_pbr (fun c2 => ?_) (fun c2 => ?_)
      · rw [if_pos c2] at h
        refine mj_gcp hC 1 ?_
        show P (27, [some (.ref 1), some (.int v1), some (.int v2), some (.int v3), none, none, none], [.int (-1)], (110, x), m)
        cases h
        exact mj_pret hC rfl hR
      · rw [if_neg c2] at h
        refine mj_gcp hC 3 ?_
        show P (mj_pick 26 15 (99 < v2), [some (.ref 1), some (.int v1), some (.int v2), some (.int v3), none, none, none], [], (110, x), m)
        refine mj_pbr (fun c3 => ?_) (fun c3 => ?_)
        · rw [if_pos c3] at h
          refine mj_gcp hC 1 ?_
          show P (27, [some (.ref 1), some (.int v1), some (.int v2), some (.int v3), none, none, none], [.int (-1)], (110, x), m)
          cases h
          exact mj_pret hC rfl hR
        · rw [if_neg c3] at h
          refine mj_gcp hC 3 ?_
          show P (20, [some (.ref 1), some (.int v1), some (.int v2), some (.int v3), none, none, none], [.int v3, .ref _], (110, x), m)
          refine mj_pcall hC rfl (to_isWork_x (Nat.le_trans (by decide) hd) (by decide)) ?_
          show P (23, [some (.ref 1), some (.int v1), some (.int v2), some (.int v3), none, none, none], [.int (to_isWork _ v3 m)], (110, x), m)
          refine mj_gcp hC 1 ?_
          show P (mj_pick 26 28 ((to_isWork _ v3 m) = 0), [some (.ref 1), some (.int v1), some (.int v2), some (.int v3), none, none, none], [], (110, x), m)
          refine mj_pbr (fun c4 => ?_) (fun c4 => ?_)
          · rw [if_pos c4] at h
            refine mj_gcp hC 1 ?_
            show P (27, [some (.ref 1), some (.int v1), some (.int v2), some (.int v3), none, none, none], [.int (-1)], (110, x), m)
            cases h
            exact mj_pret hC rfl hR
          · rw [if_neg c4] at h
            refine mj_gcp hC 6 ?_
            show P (37, [some (.ref 1), some (.int v1), some (.int v2), some (.int v3), some (.int v1), some (.int 0), some (.int 0)], [], (110, x), m)
            obtain ⟨q9, eq9, h⟩ := mj_bnd h
            refine mj_less hC (L0 := [some (.ref 1), none, some (.int v2), some (.int v3), some (.int v1), some (.int 0), some (.int 0)]) (And.intro rfl (And.intro rfl (And.intro rfl (And.intro rfl (And.intro rfl (And.intro rfl trivial)))))) ?_
            refine mj_loop_P (A := fun z37 => P (37, [some (.ref 1), none, some (.int v2), some (.int v3), some (.int z37.1), some (.int z37.2.1), some (.int z37.2.2.1)], [], (110, x), z37.2.2.2)) (E := fun _ z37 => P (99, [none, none, none, none, none, some (.int z37.2.1), none], [], (110, x), z37.2.2.2)) (fun zz t w hb h0 h1 => bp_chance_l37_x hC hd (by decide) zz hb h0 (fun ht => h1 0 ht)) mj_F _ q9 eq9 ?_
            refine mj_gcp hC 1 ?_
            show P (101, [none, none, none, none, none, some (.int q9.2.2.1), none], [.int q9.2.2.1], (110, x), q9.2.2.2.2)
            cases h
            exact mj_pret hC rfl hR
set_option maxRecDepth 20000 in
theorem bp_chance_x {Ls tp ip x d : Nat} {Z : mj_X} (hd : 8 ≤ d) (htp : tp = 3 ∨ tp = 17) {v1 : Int32} {v2 : Int32} {v3 : Int32} {m : mj_M} {r : (Int32 × mj_M)} (h : bp_chance tp v1 v2 v3 m = some r) : mj_Ex false (mj_sh Ls) (mj_rf tp ip) Z d 47 [.ref 1, .int v1, .int v2, .int v3] (110, x) m (some (.int r.1)) (110, x) r.2 := by
  exact mj_Ex_of (cd := mj_cd_47) (L := [some (.ref 1), some (.int v1), some (.int v2), some (.int v3), none, none, none]) (by omega) (by decide) rfl (Nat.le_of_ble_eq_true rfl) rfl (fun P hC => bp_chance_p hC (by omega) htp h ⟨rfl, rfl, rfl⟩)
def bp_tried_j148 (tp : Nat)  (s1 : Int32) (s2 : Int32) (m : mj_M) : Option (Int32 × mj_M) :=
  (bp_tryHours tp s1 s2 m).bind fun q10 =>
  (sa_allSlips 47 q10).bind fun q11 =>
  (sa_allSlips 42 q10).bind fun q12 =>
  some ((q11 - q12), q10)
def bp_tried_j137 (tp : Nat) (v1 : Int32) (v3 : Int32)  (m : mj_M) : Option (Int32 × mj_M) :=
  (if v1 = 0 then bp_tried_j148 tp v3 2 m else
  bp_tried_j148 tp v3 1 m)
def bp_tried_j44 (tp : Nat) (v1 : Int32) (v2 : Int32) (v3 : Int32)  (m : mj_M) : Option (Int32 × mj_M) :=
  (sa_copy 47 42 m).bind fun q7 =>
  (if v1 = 1 then bp_tried_j137 tp v1 v3 (fx_fill q7 49 0) else
  (if v1 = 2 then (sa_sendAway 47 v2 q7).bind fun q14 =>
  bp_tried_j137 tp v1 v3 q14 else
  (if v1 = 3 then bp_tried_j137 tp v1 v3 (mj_up q7 47 1 (.int 999)) else
  (if v1 = 4 then bp_tried_j137 tp v1 v3 (mj_up q7 47 2 (.int 0)) else
  bp_tried_j137 tp v1 v3 q7))))
def bp_tried (tp : Nat) (v1 : Int32) (v2 : Int32) (v3 : Int32) (m : mj_M) : Option (Int32 × mj_M) :=
  (if v1 < 0 then some ((-1), m) else
  (if 4 < v1 then some ((-1), m) else
  (if v3 < 0 then some ((-1), m) else
  (if 99 < v3 then some ((-1), m) else
  (if v1 = 2 then (if (to_isMan tp v2 m) = 0 then some ((-1), m) else
  bp_tried_j44 tp v1 v2 v3 m) else
  (if v2 = 0 then bp_tried_j44 tp v1 v2 v3 m else
  some ((-1), m)))))))
set_option maxRecDepth 20000 in
theorem bp_tried_j148_x {Ls tp ip x d : Nat} {Z : mj_X} {R : Option Value → mj_G → mj_M → Prop} {P : mj_K → Prop} (hC : mj_cls false (mj_sh Ls) (mj_rf tp ip) mj_dv mj_cd_48 (mj_Ex false (mj_sh Ls) (mj_rf tp ip) Z d) R P) (hd : 7 ≤ d) (htp : tp = 3 ∨ tp = 17)  {s1 : Int32} {s2 : Int32} {m : mj_M} {r : (Int32 × mj_M)} (h : bp_tried_j148 tp s1 s2 m = some r) (hR : R (some (.int r.1)) (110, x) r.2) : P (148, [some (.ref 1), none, none, none], [.int s2, .int s1, .ref 1], (110, x), m) := by
  unfold bp_tried_j148 at h
  rcases htp with rfl | rfl
  all_goals
    obtain ⟨q10, eq10, h⟩ := mj_bnd h
    refine mj_pcall hC rfl (bp_tryHours_x (Nat.le_trans (by decide) hd) (by decide) eq10) ?_
    show P (151, [some (.ref 1), none, none, none], [], (110, x), q10)
    refine mj_gcp hC 2 ?_
    show P (155, [some (.ref 1), none, none, none], [.ref 47], (110, x), q10)
    obtain ⟨q11, eq11, h⟩ := mj_bnd h
    refine mj_pcall hC rfl (sa_allSlips_x (Nat.le_trans (by decide) hd) (by decide) eq11) ?_
    show P (158, [some (.ref 1), none, none, none], [.int q11], (110, x), q10)
    refine mj_gcp hC 2 ?_
    show P (162, [some (.ref 1), none, none, none], [.ref 42, .int q11], (110, x), q10)
    obtain ⟨q12, eq12, h⟩ := mj_bnd h
    refine mj_pcall hC rfl (sa_allSlips_x (Nat.le_trans (by decide) hd) (by decide) eq12) ?_
    show P (165, [some (.ref 1), none, none, none], [.int q12, .int q11], (110, x), q10)
    refine mj_gcp hC 1 ?_
    show P (166, [some (.ref 1), none, none, none], [.int (q11 - q12)], (110, x), q10)
    cases h
    exact mj_pret hC rfl hR
set_option maxRecDepth 20000 in
theorem bp_tried_j137_x {Ls tp ip x d : Nat} {Z : mj_X} {R : Option Value → mj_G → mj_M → Prop} {P : mj_K → Prop} (hC : mj_cls false (mj_sh Ls) (mj_rf tp ip) mj_dv mj_cd_48 (mj_Ex false (mj_sh Ls) (mj_rf tp ip) Z d) R P) (hd : 7 ≤ d) (htp : tp = 3 ∨ tp = 17) {v1 : Int32} {v3 : Int32}  {m : mj_M} {r : (Int32 × mj_M)} (h : bp_tried_j137 tp v1 v3 m = some r) (hR : R (some (.int r.1)) (110, x) r.2) : P (137, [some (.ref 1), some (.int v1), none, some (.int v3)], [], (110, x), m) := by
  unfold bp_tried_j137 at h
  rcases htp with rfl | rfl
  all_goals
    refine mj_gcp hC 4 ?_
    show P (mj_pick 143 147 (v1 = 0), [some (.ref 1), some (.int v1), none, some (.int v3)], [.int v3, .ref 1], (110, x), m)
    refine mj_pbr (fun c9 => ?_) (fun c9 => ?_)
    · rw [if_pos c9] at h
      refine mj_gcp hC 2 ?_
      show P (148, [some (.ref 1), some (.int v1), none, some (.int v3)], [.int 2, .int v3, .ref 1], (110, x), m)
      exact mj_less hC (L0 := [some (.ref 1), none, none, none]) (And.intro rfl trivial) (bp_tried_j148_x hC hd (by decide) h hR)
    · rw [if_neg c9] at h
      refine mj_gcp hC 1 ?_
      show P (148, [some (.ref 1), some (.int v1), none, some (.int v3)], [.int 1, .int v3, .ref 1], (110, x), m)
      exact mj_less hC (L0 := [some (.ref 1), none, none, none]) (And.intro rfl trivial) (bp_tried_j148_x hC hd (by decide) h hR)
set_option maxRecDepth 20000 in
theorem bp_tried_j44_x {Ls tp ip x d : Nat} {Z : mj_X} {R : Option Value → mj_G → mj_M → Prop} {P : mj_K → Prop} (hC : mj_cls false (mj_sh Ls) (mj_rf tp ip) mj_dv mj_cd_48 (mj_Ex false (mj_sh Ls) (mj_rf tp ip) Z d) R P) (hd : 7 ≤ d) (htp : tp = 3 ∨ tp = 17) {v1 : Int32} {v2 : Int32} {v3 : Int32}  {m : mj_M} {r : (Int32 × mj_M)} (h : bp_tried_j44 tp v1 v2 v3 m = some r) (hR : R (some (.int r.1)) (110, x) r.2) : P (44, [some (.ref 1), some (.int v1), some (.int v2), some (.int v3)], [], (110, x), m) := by
  unfold bp_tried_j44 at h
  rcases htp with rfl | rfl
  all_goals
    refine mj_gcp hC 4 ?_
    show P (52, [some (.ref 1), some (.int v1), some (.int v2), some (.int v3)], [.ref 42, .ref 47], (110, x), m)
    obtain ⟨q7, eq7, h⟩ := mj_bnd h
    refine mj_pcall hC rfl (sa_copy_x (Nat.le_trans (by decide) hd) (by decide) eq7) ?_
    show P (55, [some (.ref 1), some (.int v1), some (.int v2), some (.int v3)], [], (110, x), q7)
    refine mj_gcp hC 2 ?_
    show P ((mj_sw v1 [(1, 88), (2, 102), (3, 113), (4, 126)] 137), [some (.ref 1), some (.int v1), some (.int v2), some (.int v3)], [], (110, x), q7)
    refine mj_psw (fun c8 => ?_) (fun c8 => ?_)
    · rw [if_pos c8] at h
      refine mj_gcp hC 4 ?_
      show P (96, [some (.ref 1), some (.int v1), some (.int v2), some (.int v3)], [.int 0, .ref 49], (110, x), q7)
      refine mj_pcall hC rfl (bp_fill_x (Nat.le_trans (by decide) hd) (by decide)) ?_
      show P (99, [some (.ref 1), some (.int v1), some (.int v2), some (.int v3)], [], (110, x), (fx_fill q7 49 0))
      refine mj_gcp hC 1 ?_
      show P (137, [some (.ref 1), some (.int v1), some (.int v2), some (.int v3)], [], (110, x), (fx_fill q7 49 0))
      exact mj_less hC (L0 := [some (.ref 1), some (.int v1), none, some (.int v3)]) (And.intro rfl (And.intro rfl (And.intro rfl trivial))) (bp_tried_j137_x hC hd (by decide) h hR)
    · rw [if_neg c8] at h
      refine mj_psw (fun c13 => ?_) (fun c13 => ?_)
      · rw [if_pos c13] at h
        refine mj_gcp hC 3 ?_
        show P (107, [some (.ref 1), some (.int v1), some (.int v2), some (.int v3)], [.int v2, .ref 47], (110, x), q7)
        obtain ⟨q14, eq14, h⟩ := mj_bnd h
        refine mj_pcall hC rfl (sa_sendAway_x (Nat.le_trans (by decide) hd) (by decide) eq14) ?_
        show P (110, [some (.ref 1), some (.int v1), some (.int v2), some (.int v3)], [], (110, x), q14)
        refine mj_gcp hC 1 ?_
        show P (137, [some (.ref 1), some (.int v1), some (.int v2), some (.int v3)], [], (110, x), q14)
        exact mj_less hC (L0 := [some (.ref 1), some (.int v1), none, some (.int v3)]) (And.intro rfl (And.intro rfl (And.intro rfl trivial))) (bp_tried_j137_x hC hd (by decide) h hR)
      · rw [if_neg c13] at h
        refine mj_psw (fun c15 => ?_) (fun c15 => ?_)
        · rw [if_pos c15] at h
          refine mj_gcp hC 5 ?_
          show P (137, [some (.ref 1), some (.int v1), some (.int v2), some (.int v3)], [], (110, x), (mj_up q7 47 1 (.int 999)))
          exact mj_less hC (L0 := [some (.ref 1), some (.int v1), none, some (.int v3)]) (And.intro rfl (And.intro rfl (And.intro rfl trivial))) (bp_tried_j137_x hC hd (by decide) h hR)
        · rw [if_neg c15] at h
          refine mj_psw (fun c16 => ?_) (fun c16 => ?_)
          · rw [if_pos c16] at h
            refine mj_gcp hC 5 ?_
            show P (137, [some (.ref 1), some (.int v1), some (.int v2), some (.int v3)], [], (110, x), (mj_up q7 47 2 (.int 0)))
            exact mj_less hC (L0 := [some (.ref 1), some (.int v1), none, some (.int v3)]) (And.intro rfl (And.intro rfl (And.intro rfl trivial))) (bp_tried_j137_x hC hd (by decide) h hR)
          · rw [if_neg c16] at h
            show P (137, [some (.ref 1), some (.int v1), some (.int v2), some (.int v3)], [], (110, x), q7)
            exact mj_less hC (L0 := [some (.ref 1), some (.int v1), none, some (.int v3)]) (And.intro rfl (And.intro rfl (And.intro rfl trivial))) (bp_tried_j137_x hC hd (by decide) h hR)
set_option maxRecDepth 20000 in
theorem bp_tried_p {Ls tp ip x d : Nat} {Z : mj_X} {R : Option Value → mj_G → mj_M → Prop} {P : mj_K → Prop} (hC : mj_cls false (mj_sh Ls) (mj_rf tp ip) mj_dv mj_cd_48 (mj_Ex false (mj_sh Ls) (mj_rf tp ip) Z d) R P) (hd : 7 ≤ d) (htp : tp = 3 ∨ tp = 17) {v1 : Int32} {v2 : Int32} {v3 : Int32} {m : mj_M} {r : (Int32 × mj_M)} (h : bp_tried tp v1 v2 v3 m = some r) (hR : R (some (.int r.1)) (110, x) r.2) : P (0, [some (.ref 1), some (.int v1), some (.int v2), some (.int v3)], [], (110, x), m) := by
  unfold bp_tried at h
  rcases htp with rfl | rfl
  all_goals
    refine mj_gcp hC 2 ?_
    show P (mj_pick 42 4 (v1 < 0), [some (.ref 1), some (.int v1), some (.int v2), some (.int v3)], [], (110, x), m)
    refine mj_pbr (fun c1 => ?_) (fun c1 => ?_)
    · rw [if_pos c1] at h
      refine mj_gcp hC 1 ?_
      show P (43, [some (.ref 1), some (.int v1), some (.int v2), some (.int v3)], [.int (-1)], (110, x), m)
      cases h
      exact mj_pret hC rfl hR
    · rw [if_neg c1] at h
      refine mj_gcp hC 3 ?_
      show P (mj_pick 42 9 (4 < v1), [some (.ref 1), some (.int v1), some (.int v2), some (.int v3)], [], (110, x), m)
      refine mj_pbr (fun c2 => ?_) (fun c2 => ?_)
      · rw [if_pos c2] at h
        refine mj_gcp hC 1 ?_
        show P (43, [some (.ref 1), some (.int v1), some (.int v2), some (.int v3)], [.int (-1)], (110, x), m)
        cases h
        exact mj_pret hC rfl hR
      · rw [if_neg c2] at h
        refine mj_gcp hC 2 ?_
        show P (mj_pick 42 13 (v3 < 0), [some (.ref 1), some (.int v1), some (.int v2), some (.int v3)], [], (110, x), m)
        refine mj_pbr (fun c3 => ?_) (fun c3 => ?_)
        · rw [if_pos c3] at h
          refine mj_gcp hC 1 ?_
          show P (43, [some (.ref 1), some (.int v1), some (.int v2), some (.int v3)], [.int (-1)], (110, x), m)
          cases h
          exact mj_pret hC rfl hR
        · rw [if_neg c3] at h
          refine mj_gcp hC 3 ?_
          show P (mj_pick 42 19 (99 < v3), [some (.ref 1), some (.int v1), some (.int v2), some (.int v3)], [], (110, x), m)
          refine mj_pbr (fun c4 => ?_) (fun c4 => ?_)
          · rw [if_pos c4] at h
            refine mj_gcp hC 1 ?_
            show P (43, [some (.ref 1), some (.int v1), some (.int v2), some (.int v3)], [.int (-1)], (110, x), m)
            cases h
            exact mj_pret hC rfl hR
          · rw [if_neg c4] at h
            refine mj_gcp hC 3 ?_
            show P (mj_pick 24 38 (v1 = 2), [some (.ref 1), some (.int v1), some (.int v2), some (.int v3)], [], (110, x), m)
            refine mj_pbr (fun c5 => ?_) (fun c5 => ?_)
            · rw [if_pos c5] at h
              refine mj_gcp hC 3 ?_
              show P (29, [some (.ref 1), some (.int v1), some (.int v2), some (.int v3)], [.int v2, .ref _], (110, x), m)
              refine mj_pcall hC rfl (to_isMan_x (Nat.le_trans (by decide) hd) (by decide)) ?_
              show P (32, [some (.ref 1), some (.int v1), some (.int v2), some (.int v3)], [.int (to_isMan _ v2 m)], (110, x), m)
              refine mj_gcp hC 1 ?_
              show P (mj_pick 35 44 ((to_isMan _ v2 m) = 0), [some (.ref 1), some (.int v1), some (.int v2), some (.int v3)], [], (110, x), m)
              refine mj_pbr (fun c6 => ?_) (fun c6 => ?_)
              · rw [if_pos c6] at h
                refine mj_gcp hC 1 ?_
                show P (42, [some (.ref 1), some (.int v1), some (.int v2), some (.int v3)], [], (110, x), m)
                refine mj_gcp hC 1 ?_
                show P (43, [some (.ref 1), some (.int v1), some (.int v2), some (.int v3)], [.int (-1)], (110, x), m)
                cases h
                exact mj_pret hC rfl hR
              · rw [if_neg c6] at h
                exact mj_less hC (L0 := [some (.ref 1), some (.int v1), some (.int v2), some (.int v3)]) (And.intro rfl (And.intro rfl (And.intro rfl (And.intro rfl trivial)))) (bp_tried_j44_x hC hd (by decide) h hR)
            · rw [if_neg c5] at h
              refine mj_gcp hC 2 ?_
              show P (mj_pick 44 42 (v2 = 0), [some (.ref 1), some (.int v1), some (.int v2), some (.int v3)], [], (110, x), m)
              refine mj_pbr (fun c17 => ?_) (fun c17 => ?_)
              · rw [if_pos c17] at h
                exact mj_less hC (L0 := [some (.ref 1), some (.int v1), some (.int v2), some (.int v3)]) (And.intro rfl (And.intro rfl (And.intro rfl (And.intro rfl trivial)))) (bp_tried_j44_x hC hd (by decide) h hR)
              · rw [if_neg c17] at h
                refine mj_gcp hC 1 ?_
                show P (43, [some (.ref 1), some (.int v1), some (.int v2), some (.int v3)], [.int (-1)], (110, x), m)
                cases h
                exact mj_pret hC rfl hR
set_option maxRecDepth 20000 in
theorem bp_tried_x {Ls tp ip x d : Nat} {Z : mj_X} (hd : 8 ≤ d) (htp : tp = 3 ∨ tp = 17) {v1 : Int32} {v2 : Int32} {v3 : Int32} {m : mj_M} {r : (Int32 × mj_M)} (h : bp_tried tp v1 v2 v3 m = some r) : mj_Ex false (mj_sh Ls) (mj_rf tp ip) Z d 48 [.ref 1, .int v1, .int v2, .int v3] (110, x) m (some (.int r.1)) (110, x) r.2 := by
  exact mj_Ex_of (cd := mj_cd_48) (L := [some (.ref 1), some (.int v1), some (.int v2), some (.int v3)]) (by omega) (by decide) rfl (Nat.le_of_ble_eq_true rfl) rfl (fun P hC => bp_tried_p hC (by omega) htp h ⟨rfl, rfl, rfl⟩)
def bp_ahead_j55 (tp : Nat) (v1 : Int32) (v2 : Int32) (v3 : Int32)  (m : mj_M) : Option (Int32 × mj_M) :=
  (sa_copy 47 42 m).bind fun q9 =>
  (bp_tryHours tp v1 1 q9).bind fun q10 =>
  (if v2 = 0 then some ((fx_at q10 50 v3), q10) else
  (if v2 = 1 then some (((fx_at q10 48 v3) - (fx_at q10 43 v3)), q10) else
  (if v2 = 2 then some ((mj_I (q10 47 1)), q10) else
  (sa_doneCount 47 (mj_I (q10 tp 5)) q10).bind fun q14 =>
  (sa_doneCount 42 (mj_I (q10 tp 5)) q10).bind fun q15 =>
  some ((q14 - q15), q10))))
def bp_ahead_j37 (tp : Nat) (v1 : Int32) (v2 : Int32) (v3 : Int32)  (m : mj_M) : Option (Int32 × mj_M) :=
  (if v2 = 1 then (if (to_isMan tp v3 m) = 0 then some ((-1), m) else
  bp_ahead_j55 tp v1 v2 v3 m) else
  bp_ahead_j55 tp v1 v2 v3 m)
def bp_ahead (tp : Nat) (v1 : Int32) (v2 : Int32) (v3 : Int32) (m : mj_M) : Option (Int32 × mj_M) :=
  (if v1 < 0 then some ((-1), m) else
  (if 200 < v1 then some ((-1), m) else
  (if v2 < 0 then some ((-1), m) else
  (if v2 ≤ 3 then (if v2 = 0 then (if (to_isWork tp v3 m) = 0 then some ((-1), m) else
  bp_ahead_j37 tp v1 v2 v3 m) else
  bp_ahead_j37 tp v1 v2 v3 m) else
  some ((-1), m)))))
set_option maxRecDepth 20000 in
theorem bp_ahead_j55_x {Ls tp ip x d : Nat} {Z : mj_X} {R : Option Value → mj_G → mj_M → Prop} {P : mj_K → Prop} (hC : mj_cls false (mj_sh Ls) (mj_rf tp ip) mj_dv mj_cd_17 (mj_Ex false (mj_sh Ls) (mj_rf tp ip) Z d) R P) (hd : 7 ≤ d) (htp : tp = 3 ∨ tp = 17) {v1 : Int32} {v2 : Int32} {v3 : Int32}  {m : mj_M} {r : (Int32 × mj_M)} (h : bp_ahead_j55 tp v1 v2 v3 m = some r) (hR : R (some (.int r.1)) (110, x) r.2) : P (55, [some (.ref 1), some (.int v1), some (.int v2), some (.int v3)], [], (110, x), m) := by
  unfold bp_ahead_j55 at h
  rcases htp with rfl | rfl
  all_goals
    refine mj_gcp hC 4 ?_
    show P (63, [some (.ref 1), some (.int v1), some (.int v2), some (.int v3)], [.ref 42, .ref 47], (110, x), m)
    obtain ⟨q9, eq9, h⟩ := mj_bnd h
    refine mj_pcall hC rfl (sa_copy_x (Nat.le_trans (by decide) hd) (by decide) eq9) ?_
    show P (66, [some (.ref 1), some (.int v1), some (.int v2), some (.int v3)], [], (110, x), q9)
    refine mj_gcp hC 3 ?_
    show P (69, [some (.ref 1), some (.int v1), some (.int v2), some (.int v3)], [.int 1, .int v1, .ref 1], (110, x), q9)
    obtain ⟨q10, eq10, h⟩ := mj_bnd h
    refine mj_pcall hC rfl (bp_tryHours_x (Nat.le_trans (by decide) hd) (by decide) eq10) ?_
    show P (72, [some (.ref 1), some (.int v1), some (.int v2), some (.int v3)], [], (110, x), q10)
    refine mj_gcp hC 2 ?_
    show P ((mj_sw v2 [(0, 100), (1, 112), (2, 136)] 144), [some (.ref 1), some (.int v1), some (.int v2), some (.int v3)], [], (110, x), q10)
    refine mj_psw (fun c11 => ?_) (fun c11 => ?_)
    · rw [if_pos c11] at h
      refine mj_gcp hC 4 ?_
      show P (108, [some (.ref 1), some (.int v1), some (.int v2), some (.int v3)], [.int v3, .ref 50], (110, x), q10)
      refine mj_pcall hC rfl (bp_at_x (Nat.le_trans (by decide) hd) (by decide)) ?_
      show P (111, [some (.ref 1), some (.int v1), some (.int v2), some (.int v3)], [.int (fx_at q10 50 v3)], (110, x), q10)
      cases h
      exact mj_pret hC rfl hR
    · rw [if_neg c11] at h
      refine mj_psw (fun c12 => ?_) (fun c12 => ?_)
      · rw [if_pos c12] at h
        refine mj_gcp hC 4 ?_
        show P (120, [some (.ref 1), some (.int v1), some (.int v2), some (.int v3)], [.int v3, .ref 48], (110, x), q10)
        refine mj_pcall hC rfl (bp_at_x (Nat.le_trans (by decide) hd) (by decide)) ?_
        show P (123, [some (.ref 1), some (.int v1), some (.int v2), some (.int v3)], [.int (fx_at q10 48 v3)], (110, x), q10)
        refine mj_gcp hC 4 ?_
        show P (131, [some (.ref 1), some (.int v1), some (.int v2), some (.int v3)], [.int v3, .ref 43, .int (fx_at q10 48 v3)], (110, x), q10)
        refine mj_pcall hC rfl (bp_at_x (Nat.le_trans (by decide) hd) (by decide)) ?_
        show P (134, [some (.ref 1), some (.int v1), some (.int v2), some (.int v3)], [.int (fx_at q10 43 v3), .int (fx_at q10 48 v3)], (110, x), q10)
        refine mj_gcp hC 1 ?_
        show P (135, [some (.ref 1), some (.int v1), some (.int v2), some (.int v3)], [.int ((fx_at q10 48 v3) - (fx_at q10 43 v3))], (110, x), q10)
        cases h
        exact mj_pret hC rfl hR
      · rw [if_neg c12] at h
        refine mj_psw (fun c13 => ?_) (fun c13 => ?_)
        · rw [if_pos c13] at h
          refine mj_gcp hC 3 ?_
          show P (143, [some (.ref 1), some (.int v1), some (.int v2), some (.int v3)], [.int (mj_I (q10 47 1))], (110, x), q10)
          cases h
          exact mj_pret hC rfl hR
        · rw [if_neg c13] at h
          show P (144, [some (.ref 1), some (.int v1), some (.int v2), some (.int v3)], [], (110, x), q10)
          refine mj_gcp hC 5 ?_
          show P (155, [some (.ref 1), some (.int v1), some (.int v2), some (.int v3)], [.int (mj_I (q10 _ 5)), .ref 47], (110, x), q10)
          obtain ⟨q14, eq14, h⟩ := mj_bnd h
          refine mj_pcall hC rfl (sa_doneCount_x (Nat.le_trans (by decide) hd) (by decide) eq14) ?_
          show P (158, [some (.ref 1), some (.int v1), some (.int v2), some (.int v3)], [.int q14], (110, x), q10)
          refine mj_gcp hC 5 ?_
          show P (169, [some (.ref 1), some (.int v1), some (.int v2), some (.int v3)], [.int (mj_I (q10 _ 5)), .ref 42, .int q14], (110, x), q10)
          obtain ⟨q15, eq15, h⟩ := mj_bnd h
          refine mj_pcall hC rfl (sa_doneCount_x (Nat.le_trans (by decide) hd) (by decide) eq15) ?_
          show P (172, [some (.ref 1), some (.int v1), some (.int v2), some (.int v3)], [.int q15, .int q14], (110, x), q10)
          refine mj_gcp hC 1 ?_
          show P (173, [some (.ref 1), some (.int v1), some (.int v2), some (.int v3)], [.int (q14 - q15)], (110, x), q10)
          cases h
          exact mj_pret hC rfl hR
set_option maxRecDepth 20000 in
theorem bp_ahead_j37_x {Ls tp ip x d : Nat} {Z : mj_X} {R : Option Value → mj_G → mj_M → Prop} {P : mj_K → Prop} (hC : mj_cls false (mj_sh Ls) (mj_rf tp ip) mj_dv mj_cd_17 (mj_Ex false (mj_sh Ls) (mj_rf tp ip) Z d) R P) (hd : 7 ≤ d) (htp : tp = 3 ∨ tp = 17) {v1 : Int32} {v2 : Int32} {v3 : Int32}  {m : mj_M} {r : (Int32 × mj_M)} (h : bp_ahead_j37 tp v1 v2 v3 m = some r) (hR : R (some (.int r.1)) (110, x) r.2) : P (37, [some (.ref 1), some (.int v1), some (.int v2), some (.int v3)], [], (110, x), m) := by
  unfold bp_ahead_j37 at h
  rcases htp with rfl | rfl
  all_goals
    refine mj_gcp hC 3 ?_
    show P (mj_pick 42 55 (v2 = 1), [some (.ref 1), some (.int v1), some (.int v2), some (.int v3)], [], (110, x), m)
    refine mj_pbr (fun c7 => ?_) (fun c7 => ?_)
    · rw [if_pos c7] at h
      refine mj_gcp hC 3 ?_
      show P (47, [some (.ref 1), some (.int v1), some (.int v2), some (.int v3)], [.int v3, .ref _], (110, x), m)
      refine mj_pcall hC rfl (to_isMan_x (Nat.le_trans (by decide) hd) (by decide)) ?_
      show P (50, [some (.ref 1), some (.int v1), some (.int v2), some (.int v3)], [.int (to_isMan _ v3 m)], (110, x), m)
      refine mj_gcp hC 1 ?_
      show P (mj_pick 53 55 ((to_isMan _ v3 m) = 0), [some (.ref 1), some (.int v1), some (.int v2), some (.int v3)], [], (110, x), m)
      refine mj_pbr (fun c8 => ?_) (fun c8 => ?_)
      · rw [if_pos c8] at h
        refine mj_gcp hC 1 ?_
        show P (54, [some (.ref 1), some (.int v1), some (.int v2), some (.int v3)], [.int (-1)], (110, x), m)
        cases h
        exact mj_pret hC rfl hR
      · rw [if_neg c8] at h
        exact mj_less hC (L0 := [some (.ref 1), some (.int v1), some (.int v2), some (.int v3)]) (And.intro rfl (And.intro rfl (And.intro rfl (And.intro rfl trivial)))) (bp_ahead_j55_x hC hd (by decide) h hR)
    · rw [if_neg c7] at h
      exact mj_less hC (L0 := [some (.ref 1), some (.int v1), some (.int v2), some (.int v3)]) (And.intro rfl (And.intro rfl (And.intro rfl (And.intro rfl trivial)))) (bp_ahead_j55_x hC hd (by decide) h hR)
set_option maxRecDepth 20000 in
theorem bp_ahead_p {Ls tp ip x d : Nat} {Z : mj_X} {R : Option Value → mj_G → mj_M → Prop} {P : mj_K → Prop} (hC : mj_cls false (mj_sh Ls) (mj_rf tp ip) mj_dv mj_cd_17 (mj_Ex false (mj_sh Ls) (mj_rf tp ip) Z d) R P) (hd : 7 ≤ d) (htp : tp = 3 ∨ tp = 17) {v1 : Int32} {v2 : Int32} {v3 : Int32} {m : mj_M} {r : (Int32 × mj_M)} (h : bp_ahead tp v1 v2 v3 m = some r) (hR : R (some (.int r.1)) (110, x) r.2) : P (0, [some (.ref 1), some (.int v1), some (.int v2), some (.int v3)], [], (110, x), m) := by
  unfold bp_ahead at h
  rcases htp with rfl | rfl
  all_goals
    refine mj_gcp hC 2 ?_
    show P (mj_pick 20 4 (v1 < 0), [some (.ref 1), some (.int v1), some (.int v2), some (.int v3)], [], (110, x), m)
    refine mj_pbr (fun c1 => ?_) (fun c1 => ?_)
    · rw [if_pos c1] at h
      refine mj_gcp hC 1 ?_
      show P (21, [some (.ref 1), some (.int v1), some (.int v2), some (.int v3)], [.int (-1)], (110, x), m)
      cases h
      exact mj_pret hC rfl hR
    · rw [if_neg c1] at h
      refine mj_gcp hC 3 ?_
      show P (mj_pick 20 11 (200 < v1), [some (.ref 1), some (.int v1), some (.int v2), some (.int v3)], [], (110, x), m)
      refine mj_pbr (fun c2 => ?_) (fun c2 => ?_)
      · rw [if_pos c2] at h
        refine mj_gcp hC 1 ?_
        show P (21, [some (.ref 1), some (.int v1), some (.int v2), some (.int v3)], [.int (-1)], (110, x), m)
        cases h
        exact mj_pret hC rfl hR
      · rw [if_neg c2] at h
        refine mj_gcp hC 2 ?_
        show P (mj_pick 20 15 (v2 < 0), [some (.ref 1), some (.int v1), some (.int v2), some (.int v3)], [], (110, x), m)
        refine mj_pbr (fun c3 => ?_) (fun c3 => ?_)
        · rw [if_pos c3] at h
          refine mj_gcp hC 1 ?_
          show P (21, [some (.ref 1), some (.int v1), some (.int v2), some (.int v3)], [.int (-1)], (110, x), m)
          cases h
          exact mj_pret hC rfl hR
        · rw [if_neg c3] at h
          refine mj_gcp hC 3 ?_
          show P (mj_pick 22 20 (v2 ≤ 3), [some (.ref 1), some (.int v1), some (.int v2), some (.int v3)], [], (110, x), m)
          refine mj_pbr (fun c4 => ?_) (fun c4 => ?_)
          · rw [if_pos c4] at h
            refine mj_gcp hC 2 ?_
            show P (mj_pick 26 37 (v2 = 0), [some (.ref 1), some (.int v1), some (.int v2), some (.int v3)], [], (110, x), m)
            refine mj_pbr (fun c5 => ?_) (fun c5 => ?_)
            · rw [if_pos c5] at h
              refine mj_gcp hC 3 ?_
              show P (31, [some (.ref 1), some (.int v1), some (.int v2), some (.int v3)], [.int v3, .ref _], (110, x), m)
              refine mj_pcall hC rfl (to_isWork_x (Nat.le_trans (by decide) hd) (by decide)) ?_
              show P (34, [some (.ref 1), some (.int v1), some (.int v2), some (.int v3)], [.int (to_isWork _ v3 m)], (110, x), m)
              refine mj_gcp hC 1 ?_
              show P (mj_pick 53 37 ((to_isWork _ v3 m) = 0), [some (.ref 1), some (.int v1), some (.int v2), some (.int v3)], [], (110, x), m)
              refine mj_pbr (fun c6 => ?_) (fun c6 => ?_)
              · rw [if_pos c6] at h
                refine mj_gcp hC 1 ?_
                show P (54, [some (.ref 1), some (.int v1), some (.int v2), some (.int v3)], [.int (-1)], (110, x), m)
                cases h
                exact mj_pret hC rfl hR
              · rw [if_neg c6] at h
                exact mj_less hC (L0 := [some (.ref 1), some (.int v1), some (.int v2), some (.int v3)]) (And.intro rfl (And.intro rfl (And.intro rfl (And.intro rfl trivial)))) (bp_ahead_j37_x hC hd (by decide) h hR)
            · rw [if_neg c5] at h
              exact mj_less hC (L0 := [some (.ref 1), some (.int v1), some (.int v2), some (.int v3)]) (And.intro rfl (And.intro rfl (And.intro rfl (And.intro rfl trivial)))) (bp_ahead_j37_x hC hd (by decide) h hR)
          · rw [if_neg c4] at h
            refine mj_gcp hC 1 ?_
            show P (21, [some (.ref 1), some (.int v1), some (.int v2), some (.int v3)], [.int (-1)], (110, x), m)
            cases h
            exact mj_pret hC rfl hR
set_option maxRecDepth 20000 in
theorem bp_ahead_x {Ls tp ip x d : Nat} {Z : mj_X} (hd : 8 ≤ d) (htp : tp = 3 ∨ tp = 17) {v1 : Int32} {v2 : Int32} {v3 : Int32} {m : mj_M} {r : (Int32 × mj_M)} (h : bp_ahead tp v1 v2 v3 m = some r) : mj_Ex false (mj_sh Ls) (mj_rf tp ip) Z d 17 [.ref 1, .int v1, .int v2, .int v3] (110, x) m (some (.int r.1)) (110, x) r.2 := by
  exact mj_Ex_of (cd := mj_cd_17) (L := [some (.ref 1), some (.int v1), some (.int v2), some (.int v3)]) (by omega) (by decide) rfl (Nat.le_of_ble_eq_true rfl) rfl (fun P hC => bp_ahead_p hC (by omega) htp h ⟨rfl, rfl, rfl⟩)
def bp_pace_j127l33 (tp : Nat)  (v1 : Int32) (v2 : Int32) (v3 : Int32) (v4 : Int32) (v5 : Int32) (v6 : Int32)  (m : mj_M) : Option (Nat × (Int32 × Int32 × Int32 × Int32 × mj_M)) :=
  some (0, (v3, v4, v5, (v6 + 1), m))
def bp_pace_j116l33 (tp : Nat)  (v1 : Int32) (v2 : Int32) (v6 : Int32) (v7 : Int32) (v8 : Int32)  (m : mj_M) : Option (Nat × (Int32 × Int32 × Int32 × Int32 × mj_M)) :=
  bp_pace_j127l33 tp v1 v2 v6 v7 v8 v6 m
def bp_pace_l33 (tp : Nat) (v1 : Int32) (v2 : Int32) (s33 : (Int32 × Int32 × Int32 × Int32 × mj_M)) : Option (Nat × (Int32 × Int32 × Int32 × Int32 × mj_M)) :=
  (if 99 < s33.2.2.2.1 then some (1, (s33.1, s33.2.1, s33.2.2.1, s33.2.2.2.1, s33.2.2.2.2)) else
  (bp_tryPace tp v1 s33.2.2.2.1 s33.2.2.2.2).bind fun q6 =>
  (sa_doneCount 47 (mj_I (q6 tp 5)) q6).bind fun q7 =>
  (sa_doneCount 42 (mj_I (q6 tp 5)) q6).bind fun q8 =>
  (sa_allSlips 47 q6).bind fun q9 =>
  (sa_allSlips 42 q6).bind fun q10 =>
  (if s33.2.1 < (q7 - q8) then bp_pace_j116l33 tp v1 v2 s33.2.2.2.1 (q7 - q8) (q9 - q10) q6 else
  (if (q7 - q8) = s33.2.1 then (if s33.2.2.1 ≤ (q9 - q10) then bp_pace_j127l33 tp v1 v2 s33.1 s33.2.1 s33.2.2.1 s33.2.2.2.1 q6 else
  bp_pace_j116l33 tp v1 v2 s33.2.2.2.1 (q7 - q8) (q9 - q10) q6) else
  bp_pace_j127l33 tp v1 v2 s33.1 s33.2.1 s33.2.2.1 s33.2.2.2.1 q6)))
def bp_pace (tp : Nat) (v1 : Int32) (v2 : Int32) (m : mj_M) : Option (Int32 × mj_M) :=
  (if v1 < 1 then some ((-1), m) else
  (if 60 < v1 then some ((-1), m) else
  (if v2 < 0 then some ((-1), m) else
  (if v2 ≤ 2 then (mj_loop (bp_pace_l33 tp v1 v2) mj_F (0, (-1), 0, 1, m)).bind fun q14 =>
  (if v2 = 0 then some (q14.2.1, q14.2.2.2.2.2) else
  (if v2 = 1 then some (q14.2.2.1, q14.2.2.2.2.2) else
  some (q14.2.2.2.1, q14.2.2.2.2.2))) else
  some ((-1), m)))))
set_option maxRecDepth 20000 in
theorem bp_pace_j127l33_x {Ls tp ip x d : Nat} {Z : mj_X} {R : Option Value → mj_G → mj_M → Prop} {P : mj_K → Prop} (hC : mj_cls false (mj_sh Ls) (mj_rf tp ip) mj_dv mj_cd_21 (mj_Ex false (mj_sh Ls) (mj_rf tp ip) Z d) R P) (hd : 7 ≤ d) (htp : tp = 3 ∨ tp = 17)  {v1 : Int32} {v2 : Int32} {v3 : Int32} {v4 : Int32} {v5 : Int32} {v6 : Int32}  {m : mj_M} {t : Nat} {w : (Int32 × Int32 × Int32 × Int32 × mj_M)} (h : bp_pace_j127l33 tp  v1 v2 v3 v4 v5 v6 m = some (t, w)) (h0 : t = 0 → P (33, [some (.ref 1), some (.int v1), some (.int v2), some (.int w.1), some (.int w.2.1), some (.int w.2.2.1), some (.int w.2.2.2.1), none, none], [], (110, x), w.2.2.2.2)) (h1 : t = 1 → P (133, [none, none, some (.int v2), some (.int w.1), some (.int w.2.1), some (.int w.2.2.1), none, none, none], [], (110, x), w.2.2.2.2)) : P (127, [some (.ref 1), some (.int v1), some (.int v2), some (.int v3), some (.int v4), some (.int v5), some (.int v6), none, none], [], (110, x), m) := by
  unfold bp_pace_j127l33 at h
  rcases htp with rfl | rfl
  all_goals
    refine mj_gcp hC 2 ?_
    show P (33, [some (.ref 1), some (.int v1), some (.int v2), some (.int v3), some (.int v4), some (.int v5), some (.int (v6 + 1)), none, none], [], (110, x), m)
    cases h
    exact mj_less hC (L0 := [some (.ref 1), some (.int v1), some (.int v2), some (.int v3), some (.int v4), some (.int v5), some (.int (v6 + 1)), none, none]) (And.intro rfl (And.intro rfl (And.intro rfl (And.intro rfl (And.intro rfl (And.intro rfl (And.intro rfl trivial))))))) (h0 rfl)
set_option maxRecDepth 20000 in
theorem bp_pace_j116l33_x {Ls tp ip x d : Nat} {Z : mj_X} {R : Option Value → mj_G → mj_M → Prop} {P : mj_K → Prop} (hC : mj_cls false (mj_sh Ls) (mj_rf tp ip) mj_dv mj_cd_21 (mj_Ex false (mj_sh Ls) (mj_rf tp ip) Z d) R P) (hd : 7 ≤ d) (htp : tp = 3 ∨ tp = 17)  {v1 : Int32} {v2 : Int32} {v6 : Int32} {v7 : Int32} {v8 : Int32}  {m : mj_M} {t : Nat} {w : (Int32 × Int32 × Int32 × Int32 × mj_M)} (h : bp_pace_j116l33 tp  v1 v2 v6 v7 v8 m = some (t, w)) (h0 : t = 0 → P (33, [some (.ref 1), some (.int v1), some (.int v2), some (.int w.1), some (.int w.2.1), some (.int w.2.2.1), some (.int w.2.2.2.1), none, none], [], (110, x), w.2.2.2.2)) (h1 : t = 1 → P (133, [none, none, some (.int v2), some (.int w.1), some (.int w.2.1), some (.int w.2.2.1), none, none, none], [], (110, x), w.2.2.2.2)) : P (116, [some (.ref 1), some (.int v1), some (.int v2), none, none, none, some (.int v6), some (.int v7), some (.int v8)], [], (110, x), m) := by
  unfold bp_pace_j116l33 at h
  rcases htp with rfl | rfl
  all_goals
    refine mj_gcp hC 6 ?_
    show P (127, [some (.ref 1), some (.int v1), some (.int v2), some (.int v6), some (.int v7), some (.int v8), some (.int v6), some (.int v7), some (.int v8)], [], (110, x), m)
    exact mj_less hC (L0 := [some (.ref 1), some (.int v1), some (.int v2), some (.int v6), some (.int v7), some (.int v8), some (.int v6), none, none]) (And.intro rfl (And.intro rfl (And.intro rfl (And.intro rfl (And.intro rfl (And.intro rfl (And.intro rfl trivial))))))) (bp_pace_j127l33_x hC hd (by decide) h h0 h1)
set_option maxRecDepth 20000 in
theorem bp_pace_l33_x {Ls tp ip x d : Nat} {Z : mj_X} {R : Option Value → mj_G → mj_M → Prop} {P : mj_K → Prop} (hC : mj_cls false (mj_sh Ls) (mj_rf tp ip) mj_dv mj_cd_21 (mj_Ex false (mj_sh Ls) (mj_rf tp ip) Z d) R P) (hd : 7 ≤ d) (htp : tp = 3 ∨ tp = 17) {v1 : Int32} {v2 : Int32} (s33 : (Int32 × Int32 × Int32 × Int32 × mj_M)) {t : Nat} {w : (Int32 × Int32 × Int32 × Int32 × mj_M)} (h : bp_pace_l33 tp v1 v2 s33 = some (t, w)) (h0 : t = 0 → P (33, [some (.ref 1), some (.int v1), some (.int v2), some (.int w.1), some (.int w.2.1), some (.int w.2.2.1), some (.int w.2.2.2.1), none, none], [], (110, x), w.2.2.2.2)) (h1 : t = 1 → P (133, [none, none, some (.int v2), some (.int w.1), some (.int w.2.1), some (.int w.2.2.1), none, none, none], [], (110, x), w.2.2.2.2)) : P (33, [some (.ref 1), some (.int v1), some (.int v2), some (.int s33.1), some (.int s33.2.1), some (.int s33.2.2.1), some (.int s33.2.2.2.1), none, none], [], (110, x), s33.2.2.2.2) := by
  unfold bp_pace_l33 at h
  rcases htp with rfl | rfl
  all_goals
    refine mj_gcp hC 3 ?_
    show P (mj_pick 133 40 (99 < s33.2.2.2.1), [some (.ref 1), some (.int v1), some (.int v2), some (.int s33.1), some (.int s33.2.1), some (.int s33.2.2.1), some (.int s33.2.2.2.1), none, none], [], (110, x), s33.2.2.2.2)
    refine mj_pbr (fun c5 => ?_) (fun c5 => ?_)
    · rw [if_pos c5] at h
      cases h
      exact mj_less hC (L0 := [none, none, some (.int v2), some (.int s33.1), some (.int s33.2.1), some (.int s33.2.2.1), none, none, none]) (And.intro rfl (And.intro rfl (And.intro rfl (And.intro rfl trivial)))) (h1 rfl)
    · rw [if_neg c5] at h
      refine mj_gcp hC 3 ?_
      show P (44, [some (.ref 1), some (.int v1), some (.int v2), some (.int s33.1), some (.int s33.2.1), some (.int s33.2.2.1), some (.int s33.2.2.2.1), none, none], [.int s33.2.2.2.1, .int v1, .ref 1], (110, x), s33.2.2.2.2)
      obtain ⟨q6, eq6, h⟩ := mj_bnd h
      refine mj_pcall hC rfl (bp_tryPace_x (Nat.le_trans (by decide) hd) (by decide) eq6) ?_
      show P (47, [some (.ref 1), some (.int v1), some (.int v2), some (.int s33.1), some (.int s33.2.1), some (.int s33.2.2.1), some (.int s33.2.2.2.1), none, none], [], (110, x), q6)
      refine mj_gcp hC 5 ?_
      show P (58, [some (.ref 1), some (.int v1), some (.int v2), some (.int s33.1), some (.int s33.2.1), some (.int s33.2.2.1), some (.int s33.2.2.2.1), none, none], [.int (mj_I (q6 _ 5)), .ref 47], (110, x), q6)
      obtain ⟨q7, eq7, h⟩ := mj_bnd h
      refine mj_pcall hC rfl (sa_doneCount_x (Nat.le_trans (by decide) hd) (by decide) eq7) ?_
      show P (61, [some (.ref 1), some (.int v1), some (.int v2), some (.int s33.1), some (.int s33.2.1), some (.int s33.2.2.1), some (.int s33.2.2.2.1), none, none], [.int q7], (110, x), q6)
      refine mj_gcp hC 5 ?_
      show P (72, [some (.ref 1), some (.int v1), some (.int v2), some (.int s33.1), some (.int s33.2.1), some (.int s33.2.2.1), some (.int s33.2.2.2.1), none, none], [.int (mj_I (q6 _ 5)), .ref 42, .int q7], (110, x), q6)
      obtain ⟨q8, eq8, h⟩ := mj_bnd h
      refine mj_pcall hC rfl (sa_doneCount_x (Nat.le_trans (by decide) hd) (by decide) eq8) ?_
      show P (75, [some (.ref 1), some (.int v1), some (.int v2), some (.int s33.1), some (.int s33.2.1), some (.int s33.2.2.1), some (.int s33.2.2.2.1), none, none], [.int q8, .int q7], (110, x), q6)
      refine mj_gcp hC 4 ?_
      show P (82, [some (.ref 1), some (.int v1), some (.int v2), some (.int s33.1), some (.int s33.2.1), some (.int s33.2.2.1), some (.int s33.2.2.2.1), some (.int (q7 - q8)), none], [.ref 47], (110, x), q6)
      obtain ⟨q9, eq9, h⟩ := mj_bnd h
      refine mj_pcall hC rfl (sa_allSlips_x (Nat.le_trans (by decide) hd) (by decide) eq9) ?_
      show P (85, [some (.ref 1), some (.int v1), some (.int v2), some (.int s33.1), some (.int s33.2.1), some (.int s33.2.2.1), some (.int s33.2.2.2.1), some (.int (q7 - q8)), none], [.int q9], (110, x), q6)
      refine mj_gcp hC 2 ?_
      show P (89, [some (.ref 1), some (.int v1), some (.int v2), some (.int s33.1), some (.int s33.2.1), some (.int s33.2.2.1), some (.int s33.2.2.2.1), some (.int (q7 - q8)), none], [.ref 42, .int q9], (110, x), q6)
      obtain ⟨q10, eq10, h⟩ := mj_bnd h
      refine mj_pcall hC rfl (sa_allSlips_x (Nat.le_trans (by decide) hd) (by decide) eq10) ?_
      show P (92, [some (.ref 1), some (.int v1), some (.int v2), some (.int s33.1), some (.int s33.2.1), some (.int s33.2.2.1), some (.int s33.2.2.2.1), some (.int (q7 - q8)), none], [.int q10, .int q9], (110, x), q6)
      refine mj_gcp hC 5 ?_
      show P (mj_pick 116 102 (s33.2.1 < (q7 - q8)), [some (.ref 1), some (.int v1), some (.int v2), some (.int s33.1), some (.int s33.2.1), some (.int s33.2.2.1), some (.int s33.2.2.2.1), some (.int (q7 - q8)), some (.int (q9 - q10))], [], (110, x), q6)
      refine mj_pbr (fun c11 => ?_) (fun c11 => ?_)
      · rw [if_pos c11] at h
        exact mj_less hC (L0 := [some (.ref 1), some (.int v1), some (.int v2), none, none, none, some (.int s33.2.2.2.1), some (.int (q7 - q8)), some (.int (q9 - q10))]) (And.intro rfl (And.intro rfl (And.intro rfl (And.intro rfl (And.intro rfl (And.intro rfl trivial)))))) (bp_pace_j116l33_x hC hd (by decide) h h0 h1)
      · rw [if_neg c11] at h
        refine mj_gcp hC 3 ?_
        show P (mj_pick 109 127 ((q7 - q8) = s33.2.1), [some (.ref 1), some (.int v1), some (.int v2), some (.int s33.1), some (.int s33.2.1), some (.int s33.2.2.1), some (.int s33.2.2.2.1), some (.int (q7 - q8)), some (.int (q9 - q10))], [], (110, x), q6)
        refine mj_pbr (fun c12 => ?_) (fun c12 => ?_)
        · rw [if_pos c12] at h
          refine mj_gcp hC 3 ?_
          show P (mj_pick 127 116 (s33.2.2.1 ≤ (q9 - q10)), [some (.ref 1), some (.int v1), some (.int v2), some (.int s33.1), some (.int s33.2.1), some (.int s33.2.2.1), some (.int s33.2.2.2.1), some (.int (q7 - q8)), some (.int (q9 - q10))], [], (110, x), q6)
          refine mj_pbr (fun c13 => ?_) (fun c13 => ?_)
          · rw [if_pos c13] at h
            exact mj_less hC (L0 := [some (.ref 1), some (.int v1), some (.int v2), some (.int s33.1), some (.int s33.2.1), some (.int s33.2.2.1), some (.int s33.2.2.2.1), none, none]) (And.intro rfl (And.intro rfl (And.intro rfl (And.intro rfl (And.intro rfl (And.intro rfl (And.intro rfl trivial))))))) (bp_pace_j127l33_x hC hd (by decide) h h0 h1)
          · rw [if_neg c13] at h
            exact mj_less hC (L0 := [some (.ref 1), some (.int v1), some (.int v2), none, none, none, some (.int s33.2.2.2.1), some (.int (q7 - q8)), some (.int (q9 - q10))]) (And.intro rfl (And.intro rfl (And.intro rfl (And.intro rfl (And.intro rfl (And.intro rfl trivial)))))) (bp_pace_j116l33_x hC hd (by decide) h h0 h1)
        · rw [if_neg c12] at h
          exact mj_less hC (L0 := [some (.ref 1), some (.int v1), some (.int v2), some (.int s33.1), some (.int s33.2.1), some (.int s33.2.2.1), some (.int s33.2.2.2.1), none, none]) (And.intro rfl (And.intro rfl (And.intro rfl (And.intro rfl (And.intro rfl (And.intro rfl (And.intro rfl trivial))))))) (bp_pace_j127l33_x hC hd (by decide) h h0 h1)
set_option maxRecDepth 20000 in
theorem bp_pace_p {Ls tp ip x d : Nat} {Z : mj_X} {R : Option Value → mj_G → mj_M → Prop} {P : mj_K → Prop} (hC : mj_cls false (mj_sh Ls) (mj_rf tp ip) mj_dv mj_cd_21 (mj_Ex false (mj_sh Ls) (mj_rf tp ip) Z d) R P) (hd : 7 ≤ d) (htp : tp = 3 ∨ tp = 17) {v1 : Int32} {v2 : Int32} {m : mj_M} {r : (Int32 × mj_M)} (h : bp_pace tp v1 v2 m = some r) (hR : R (some (.int r.1)) (110, x) r.2) : P (0, [some (.ref 1), some (.int v1), some (.int v2), none, none, none, none, none, none], [], (110, x), m) := by
  unfold bp_pace at h
  rcases htp with rfl | rfl
  all_goals
    refine mj_gcp hC 3 ?_
    show P (mj_pick 20 5 (v1 < 1), [some (.ref 1), some (.int v1), some (.int v2), none, none, none, none, none, none], [], (110, x), m)
    refine mj_pbr (fun c1 => ?_) (fun c1 => ?_)
    · rw [if_pos c1] at h
      refine mj_gcp hC 1 ?_
      show P (21, [some (.ref 1), some (.int v1), some (.int v2), none, none, none, none, none, none], [.int (-1)], (110, x), m)
      cases h
      exact mj_pret hC rfl hR
    · rw [if_neg c1] at h
      refine mj_gcp hC 3 ?_
      show P (mj_pick 20 11 (60 < v1), [some (.ref 1), some (.int v1), some (.int v2), none, none, none, none, none, none], [], (110, x), m)
      refine mj_pbr (fun c2 => ?_) (fun c2 => ?_)
      · rw [if_pos c2] at h
        refine mj_gcp hC 1 ?_
        show P (21, [some (.ref 1), some (.int v1), some (.int v2), none, none, none, none, none, none], [.int (-1)], (110, x), m)
        cases h
        exact mj_pret hC rfl hR
      · rw [if_neg c2] at h
        refine mj_gcp hC 2 ?_
        show P (mj_pick 20 15 (v2 < 0), [some (.ref 1), some (.int v1), some (.int v2), none, none, none, none, none, none], [], (110, x), m)
        refine mj_pbr (fun c3 => ?_) (fun c3 => ?_)
        · rw [if_pos c3] at h
          refine mj_gcp hC 1 ?_
          show P (21, [some (.ref 1), some (.int v1), some (.int v2), none, none, none, none, none, none], [.int (-1)], (110, x), m)
          cases h
          exact mj_pret hC rfl hR
        · rw [if_neg c3] at h
          refine mj_gcp hC 3 ?_
          show P (mj_pick 22 20 (v2 ≤ 2), [some (.ref 1), some (.int v1), some (.int v2), none, none, none, none, none, none], [], (110, x), m)
          refine mj_pbr (fun c4 => ?_) (fun c4 => ?_)
          · rw [if_pos c4] at h
            refine mj_gcp hC 8 ?_
            show P (33, [some (.ref 1), some (.int v1), some (.int v2), some (.int 0), some (.int (-1)), some (.int 0), some (.int 1), none, none], [], (110, x), m)
            obtain ⟨q14, eq14, h⟩ := mj_bnd h
            refine mj_less hC (L0 := [some (.ref 1), some (.int v1), some (.int v2), some (.int 0), some (.int (-1)), some (.int 0), some (.int 1), none, none]) (And.intro rfl (And.intro rfl (And.intro rfl (And.intro rfl (And.intro rfl (And.intro rfl (And.intro rfl trivial))))))) ?_
            refine mj_loop_P (A := fun z33 => P (33, [some (.ref 1), some (.int v1), some (.int v2), some (.int z33.1), some (.int z33.2.1), some (.int z33.2.2.1), some (.int z33.2.2.2.1), none, none], [], (110, x), z33.2.2.2.2)) (E := fun _ z33 => P (133, [none, none, some (.int v2), some (.int z33.1), some (.int z33.2.1), some (.int z33.2.2.1), none, none, none], [], (110, x), z33.2.2.2.2)) (fun zz t w hb h0 h1 => bp_pace_l33_x hC hd (by decide) zz hb h0 (fun ht => h1 0 ht)) mj_F _ q14 eq14 ?_
            refine mj_gcp hC 2 ?_
            show P (mj_pick 137 141 (v2 = 0), [none, none, some (.int v2), some (.int q14.2.1), some (.int q14.2.2.1), some (.int q14.2.2.2.1), none, none, none], [], (110, x), q14.2.2.2.2.2)
            refine mj_pbr (fun c15 => ?_) (fun c15 => ?_)
            · rw [if_pos c15] at h
              refine mj_gcp hC 2 ?_
              show P (153, [none, none, some (.int v2), some (.int q14.2.1), some (.int q14.2.2.1), some (.int q14.2.2.2.1), none, none, none], [.int q14.2.1], (110, x), q14.2.2.2.2.2)
              cases h
              exact mj_pret hC rfl hR
            · rw [if_neg c15] at h
              refine mj_gcp hC 3 ?_
              show P (mj_pick 146 151 (v2 = 1), [none, none, some (.int v2), some (.int q14.2.1), some (.int q14.2.2.1), some (.int q14.2.2.2.1), none, none, none], [], (110, x), q14.2.2.2.2.2)
              refine mj_pbr (fun c16 => ?_) (fun c16 => ?_)
              · rw [if_pos c16] at h
                refine mj_gcp hC 2 ?_
                show P (153, [none, none, some (.int v2), some (.int q14.2.1), some (.int q14.2.2.1), some (.int q14.2.2.2.1), none, none, none], [.int q14.2.2.1], (110, x), q14.2.2.2.2.2)
                cases h
                exact mj_pret hC rfl hR
              · rw [if_neg c16] at h
                refine mj_gcp hC 1 ?_
                show P (153, [none, none, some (.int v2), some (.int q14.2.1), some (.int q14.2.2.1), some (.int q14.2.2.2.1), none, none, none], [.int q14.2.2.2.1], (110, x), q14.2.2.2.2.2)
                cases h
                exact mj_pret hC rfl hR
          · rw [if_neg c4] at h
            refine mj_gcp hC 1 ?_
            show P (21, [some (.ref 1), some (.int v1), some (.int v2), none, none, none, none, none, none], [.int (-1)], (110, x), m)
            cases h
            exact mj_pret hC rfl hR
set_option maxRecDepth 20000 in
theorem bp_pace_x {Ls tp ip x d : Nat} {Z : mj_X} (hd : 8 ≤ d) (htp : tp = 3 ∨ tp = 17) {v1 : Int32} {v2 : Int32} {m : mj_M} {r : (Int32 × mj_M)} (h : bp_pace tp v1 v2 m = some r) : mj_Ex false (mj_sh Ls) (mj_rf tp ip) Z d 21 [.ref 1, .int v1, .int v2] (110, x) m (some (.int r.1)) (110, x) r.2 := by
  exact mj_Ex_of (cd := mj_cd_21) (L := [some (.ref 1), some (.int v1), some (.int v2), none, none, none, none, none, none]) (by omega) (by decide) rfl (Nat.le_of_ble_eq_true rfl) rfl (fun P hC => bp_pace_p hC (by omega) htp h ⟨rfl, rfl, rfl⟩)
def bp_shifts_j49l22 (tp : Nat)  (v1 : Int32) (v2 : Int32) (v3 : Int32) (v4 : Int32)  (m : mj_M) : Option (Nat × (Int32 × Int32 × mj_M)) :=
  some (0, (v3, (v4 + 1), m))
def bp_shifts_l22 (tp : Nat) (v1 : Int32) (v2 : Int32) (s22 : (Int32 × Int32 × mj_M)) : Option (Nat × (Int32 × Int32 × mj_M)) :=
  (if 10 ≤ s22.2.1 then some (1, (s22.1, s22.2.1, s22.2.2)) else
  (bp_isShiftedBy tp ((3 : Int32) * s22.2.1) v1 v2 s22.2.2).bind fun q4 =>
  (if q4.1 = 0 then bp_shifts_j49l22 tp v1 v2 s22.1 s22.2.1 q4.2 else
  bp_shifts_j49l22 tp v1 v2 (s22.1 ||| ((1 : Int32) <<< (s22.2.1 &&& 31))) s22.2.1 q4.2))
def bp_shifts (tp : Nat)  (m : mj_M) : Option (Int32 × mj_M) :=
  (si_standing m).bind fun q1 =>
  (si_lastHour q1 m).bind fun q2 =>
  (mj_loop (bp_shifts_l22 tp q1 q2) mj_F (0, 0, m)).bind fun q6 =>
  some (q6.2.1, q6.2.2.2)
set_option maxRecDepth 20000 in
theorem bp_shifts_j49l22_x {Ls tp ip x d : Nat} {Z : mj_X} {R : Option Value → mj_G → mj_M → Prop} {P : mj_K → Prop} (hC : mj_cls false (mj_sh Ls) (mj_rf tp ip) mj_dv mj_cd_45 (mj_Ex false (mj_sh Ls) (mj_rf tp ip) Z d) R P) (hd : 7 ≤ d) (htp : tp = 3 ∨ tp = 17)  {v1 : Int32} {v2 : Int32} {v3 : Int32} {v4 : Int32}  {m : mj_M} {t : Nat} {w : (Int32 × Int32 × mj_M)} (h : bp_shifts_j49l22 tp  v1 v2 v3 v4 m = some (t, w)) (h0 : t = 0 → P (22, [some (.ref 1), some (.int v1), some (.int v2), some (.int w.1), some (.int w.2.1)], [], (110, x), w.2.2)) (h1 : t = 1 → P (55, [none, none, none, some (.int w.1), none], [], (110, x), w.2.2)) : P (49, [some (.ref 1), some (.int v1), some (.int v2), some (.int v3), some (.int v4)], [], (110, x), m) := by
  unfold bp_shifts_j49l22 at h
  rcases htp with rfl | rfl
  all_goals
    refine mj_gcp hC 2 ?_
    show P (22, [some (.ref 1), some (.int v1), some (.int v2), some (.int v3), some (.int (v4 + 1))], [], (110, x), m)
    cases h
    exact mj_less hC (L0 := [some (.ref 1), some (.int v1), some (.int v2), some (.int v3), some (.int (v4 + 1))]) (And.intro rfl (And.intro rfl (And.intro rfl (And.intro rfl (And.intro rfl trivial))))) (h0 rfl)
set_option maxRecDepth 20000 in
theorem bp_shifts_l22_x {Ls tp ip x d : Nat} {Z : mj_X} {R : Option Value → mj_G → mj_M → Prop} {P : mj_K → Prop} (hC : mj_cls false (mj_sh Ls) (mj_rf tp ip) mj_dv mj_cd_45 (mj_Ex false (mj_sh Ls) (mj_rf tp ip) Z d) R P) (hd : 7 ≤ d) (htp : tp = 3 ∨ tp = 17) {v1 : Int32} {v2 : Int32} (s22 : (Int32 × Int32 × mj_M)) {t : Nat} {w : (Int32 × Int32 × mj_M)} (h : bp_shifts_l22 tp v1 v2 s22 = some (t, w)) (h0 : t = 0 → P (22, [some (.ref 1), some (.int v1), some (.int v2), some (.int w.1), some (.int w.2.1)], [], (110, x), w.2.2)) (h1 : t = 1 → P (55, [none, none, none, some (.int w.1), none], [], (110, x), w.2.2)) : P (22, [some (.ref 1), some (.int v1), some (.int v2), some (.int s22.1), some (.int s22.2.1)], [], (110, x), s22.2.2) := by
  unfold bp_shifts_l22 at h
  rcases htp with rfl | rfl
  all_goals
    refine mj_gcp hC 3 ?_
    show P (mj_pick 55 29 (10 ≤ s22.2.1), [some (.ref 1), some (.int v1), some (.int v2), some (.int s22.1), some (.int s22.2.1)], [], (110, x), s22.2.2)
    refine mj_pbr (fun c3 => ?_) (fun c3 => ?_)
    · rw [if_pos c3] at h
      cases h
      exact mj_less hC (L0 := [none, none, none, some (.int s22.1), none]) (And.intro rfl trivial) (h1 rfl)
    · rw [if_neg c3] at h
      refine mj_gcp hC 6 ?_
      show P (36, [some (.ref 1), some (.int v1), some (.int v2), some (.int s22.1), some (.int s22.2.1)], [.int v2, .int v1, .int ((3 : Int32) * s22.2.1), .ref 1], (110, x), s22.2.2)
      obtain ⟨q4, eq4, h⟩ := mj_bnd h
      refine mj_pcall hC rfl (bp_isShiftedBy_x (Nat.le_trans (by decide) hd) (by decide) eq4) ?_
      show P (39, [some (.ref 1), some (.int v1), some (.int v2), some (.int s22.1), some (.int s22.2.1)], [.int q4.1], (110, x), q4.2)
      refine mj_gcp hC 1 ?_
      show P (mj_pick 49 42 (q4.1 = 0), [some (.ref 1), some (.int v1), some (.int v2), some (.int s22.1), some (.int s22.2.1)], [], (110, x), q4.2)
      refine mj_pbr (fun c5 => ?_) (fun c5 => ?_)
      · rw [if_pos c5] at h
        exact mj_less hC (L0 := [some (.ref 1), some (.int v1), some (.int v2), some (.int s22.1), some (.int s22.2.1)]) (And.intro rfl (And.intro rfl (And.intro rfl (And.intro rfl (And.intro rfl trivial))))) (bp_shifts_j49l22_x hC hd (by decide) h h0 h1)
      · rw [if_neg c5] at h
        refine mj_gcp hC 6 ?_
        show P (49, [some (.ref 1), some (.int v1), some (.int v2), some (.int (s22.1 ||| ((1 : Int32) <<< (s22.2.1 &&& 31)))), some (.int s22.2.1)], [], (110, x), q4.2)
        exact mj_less hC (L0 := [some (.ref 1), some (.int v1), some (.int v2), some (.int (s22.1 ||| ((1 : Int32) <<< (s22.2.1 &&& 31)))), some (.int s22.2.1)]) (And.intro rfl (And.intro rfl (And.intro rfl (And.intro rfl (And.intro rfl trivial))))) (bp_shifts_j49l22_x hC hd (by decide) h h0 h1)
set_option maxRecDepth 20000 in
theorem bp_shifts_p {Ls tp ip x d : Nat} {Z : mj_X} {R : Option Value → mj_G → mj_M → Prop} {P : mj_K → Prop} (hC : mj_cls false (mj_sh Ls) (mj_rf tp ip) mj_dv mj_cd_45 (mj_Ex false (mj_sh Ls) (mj_rf tp ip) Z d) R P) (hd : 7 ≤ d) (htp : tp = 3 ∨ tp = 17)  {m : mj_M} {r : (Int32 × mj_M)} (h : bp_shifts tp m = some r) (hR : R (some (.int r.1)) (110, x) r.2) : P (0, [some (.ref 1), none, none, none, none], [], (110, x), m) := by
  unfold bp_shifts at h
  rcases htp with rfl | rfl
  all_goals
    refine mj_gcp hC 2 ?_
    show P (4, [some (.ref 1), none, none, none, none], [.ref 61], (110, x), m)
    obtain ⟨q1, eq1, h⟩ := mj_bnd h
    refine mj_pcall hC rfl (si_standing_x (Nat.le_trans (by decide) hd) eq1) ?_
    show P (7, [some (.ref 1), none, none, none, none], [.int q1], (110, x), m)
    refine mj_gcp hC 4 ?_
    show P (13, [some (.ref 1), some (.int q1), none, none, none], [.int q1, .ref 61], (110, x), m)
    obtain ⟨q2, eq2, h⟩ := mj_bnd h
    refine mj_pcall hC rfl (si_lastHour_x (Nat.le_trans (by decide) hd) eq2) ?_
    show P (16, [some (.ref 1), some (.int q1), none, none, none], [.int q2], (110, x), m)
    refine mj_gcp hC 5 ?_
    show P (22, [some (.ref 1), some (.int q1), some (.int q2), some (.int 0), some (.int 0)], [], (110, x), m)
    obtain ⟨q6, eq6, h⟩ := mj_bnd h
    refine mj_less hC (L0 := [some (.ref 1), some (.int q1), some (.int q2), some (.int 0), some (.int 0)]) (And.intro rfl (And.intro rfl (And.intro rfl (And.intro rfl (And.intro rfl trivial))))) ?_
    refine mj_loop_P (A := fun z22 => P (22, [some (.ref 1), some (.int q1), some (.int q2), some (.int z22.1), some (.int z22.2.1)], [], (110, x), z22.2.2)) (E := fun _ z22 => P (55, [none, none, none, some (.int z22.1), none], [], (110, x), z22.2.2)) (fun zz t w hb h0 h1 => bp_shifts_l22_x hC hd (by decide) zz hb h0 (fun ht => h1 0 ht)) mj_F _ q6 eq6 ?_
    refine mj_gcp hC 1 ?_
    show P (56, [none, none, none, some (.int q6.2.1), none], [.int q6.2.1], (110, x), q6.2.2.2)
    cases h
    exact mj_pret hC rfl hR
set_option maxRecDepth 20000 in
theorem bp_shifts_x {Ls tp ip x d : Nat} {Z : mj_X} (hd : 8 ≤ d) (htp : tp = 3 ∨ tp = 17)  {m : mj_M} {r : (Int32 × mj_M)} (h : bp_shifts tp m = some r) : mj_Ex false (mj_sh Ls) (mj_rf tp ip) Z d 45 [.ref 1] (110, x) m (some (.int r.1)) (110, x) r.2 := by
  exact mj_Ex_of (cd := mj_cd_45) (L := [some (.ref 1), none, none, none, none]) (by omega) (by decide) rfl (Nat.le_of_ble_eq_true rfl) rfl (fun P hC => bp_shifts_p hC (by omega) htp h ⟨rfl, rfl, rfl⟩)
