/-! FUNCTIONS OUT OF THE INSTRUCTIONS, AND THAT A RUN GIVES THEM (made by wip/whole/emit.py) -/
def rk_value_j106l29 (q : Nat)  (v3 : Int32) (v4 : Int32)  (m : mj_M) : Option (Nat × (Int32 × mj_M)) :=
  some (0, ((v4 + 1), m))
def rk_value_l29 (q : Nat) (v3 : Int32) (s29 : (Int32 × mj_M)) : Option (Nat × (Int32 × mj_M)) :=
  (if v3 ≤ s29.1 then some (1, (s29.1, s29.2)) else
  (if (mj_I (s29.2 38 3)) = 0 then (if 10000 ≤ (fx_at s29.2 (q + 11) s29.1) then (if 20000 ≤ (fx_at s29.2 (q + 11) s29.1) then (rk_join ((fx_at s29.2 (q + 11) s29.1) - 20000) s29.2).bind fun q5 =>
  rk_value_j106l29 q v3 s29.1 q5 else
  (rk_nameValue ((fx_at s29.2 (q + 11) s29.1) - 10000) s29.2).bind fun q6 =>
  (rk_push q6 s29.2).bind fun q7 =>
  rk_value_j106l29 q v3 s29.1 q7) else
  (rk_push ((fx_at s29.2 (q + 11) s29.1).toInt64) s29.2).bind fun q8 =>
  rk_value_j106l29 q v3 s29.1 q8) else
  some (1, (s29.1, s29.2))))
def rk_value_j112 (q : Nat)   (m : mj_M) : Option (Int64 × mj_M) :=
  (rk_pop m).bind fun q10 =>
  (if (mj_I (q10.2 38 3)) = 0 then some (q10.1, q10.2) else
  some ((-9223372036854775808), q10.2))
def rk_value (q : Nat) (v2 : Int32) (m : mj_M) : Option (Int64 × mj_M) :=
  (mj_loop (rk_value_l29 q (fx_at (mj_up (mj_up m 38 2 (.int 0)) 38 3 (.int 0)) (q + 13) v2)) mj_F ((fx_at (mj_up (mj_up m 38 2 (.int 0)) 38 3 (.int 0)) (q + 12) v2), (mj_up (mj_up m 38 2 (.int 0)) 38 3 (.int 0)))).bind fun q9 =>
  rk_value_j112 q q9.2.2
set_option maxRecDepth 20000 in
theorem rk_value_j106l29_x {Ls tp ip x d : Nat} {Z : mj_X} {R : Option Value → mj_G → mj_M → Prop} {P : mj_K → Prop} (hC : mj_cls false (mj_sh Ls) (mj_rf tp ip) mj_dv mj_cd_124 (mj_Ex false (mj_sh Ls) (mj_rf tp ip) Z d) R P) (hd : 2 ≤ d) {q : Nat} (hq : q = 3 ∨ q = 17)  {v3 : Int32} {v4 : Int32}  {m : mj_M} {t : Nat} {w : (Int32 × mj_M)} (h : rk_value_j106l29 q  v3 v4 m = some (t, w)) (h0 : t = 0 → P (29, [some (.ref 38), some (.ref q), none, some (.int v3), some (.int w.1), none], [], (110, x), w.2)) (h1 : t = 1 → P (112, [some (.ref 38), none, none, none, none, none], [], (110, x), w.2)) : P (106, [some (.ref 38), some (.ref q), none, some (.int v3), some (.int v4), none], [], (110, x), m) := by
  unfold rk_value_j106l29 at h
  rcases hq with rfl | rfl
  all_goals
    refine mj_gcp hC 2 ?_
    show P (29, [some (.ref 38), some (.ref _), none, some (.int v3), some (.int (v4 + 1)), none], [], (110, x), m)
    cases h
    exact mj_less hC (L0 := [some (.ref 38), some (.ref _), none, some (.int v3), some (.int (v4 + 1)), none]) (And.intro rfl (And.intro rfl (And.intro rfl (And.intro rfl trivial)))) (h0 rfl)
set_option maxRecDepth 20000 in
theorem rk_value_l29_x {Ls tp ip x d : Nat} {Z : mj_X} {R : Option Value → mj_G → mj_M → Prop} {P : mj_K → Prop} (hC : mj_cls false (mj_sh Ls) (mj_rf tp ip) mj_dv mj_cd_124 (mj_Ex false (mj_sh Ls) (mj_rf tp ip) Z d) R P) (hd : 2 ≤ d) {q : Nat} (hq : q = 3 ∨ q = 17) {v3 : Int32} (s29 : (Int32 × mj_M)) {t : Nat} {w : (Int32 × mj_M)} (h : rk_value_l29 q v3 s29 = some (t, w)) (h0 : t = 0 → P (29, [some (.ref 38), some (.ref q), none, some (.int v3), some (.int w.1), none], [], (110, x), w.2)) (h1 : t = 1 → P (112, [some (.ref 38), none, none, none, none, none], [], (110, x), w.2)) : P (29, [some (.ref 38), some (.ref q), none, some (.int v3), some (.int s29.1), none], [], (110, x), s29.2) := by
  unfold rk_value_l29 at h
  rcases hq with rfl | rfl
  all_goals
    refine mj_gcp hC 3 ?_
    show P (mj_pick 112 35 (v3 ≤ s29.1), [some (.ref 38), some (.ref _), none, some (.int v3), some (.int s29.1), none], [], (110, x), s29.2)
    refine mj_pbr (fun c1 => ?_) (fun c1 => ?_)
    · rw [if_pos c1] at h
      cases h
      exact mj_less hC (L0 := [some (.ref 38), none, none, none, none, none]) (And.intro rfl trivial) (h1 rfl)
    · rw [if_neg c1] at h
      refine mj_gcp hC 3 ?_
      show P (mj_pick 42 112 ((mj_I (s29.2 38 3)) = 0), [some (.ref 38), some (.ref _), none, some (.int v3), some (.int s29.1), none], [], (110, x), s29.2)
      refine mj_pbr (fun c2 => ?_) (fun c2 => ?_)
      · rw [if_pos c2] at h
        refine mj_gcp hC 3 ?_
        show P (48, [some (.ref 38), some (.ref _), none, some (.int v3), some (.int s29.1), none], [.int s29.1, .ref _], (110, x), s29.2)
        refine mj_pcall hC rfl (bp_at_x (Nat.le_trans (by decide) hd) (by decide)) ?_
        show P (51, [some (.ref 38), some (.ref _), none, some (.int v3), some (.int s29.1), none], [.int (fx_at s29.2 _ s29.1)], (110, x), s29.2)
        refine mj_gcp hC 4 ?_
        show P (mj_pick 71 61 (10000 ≤ (fx_at s29.2 _ s29.1)), [some (.ref 38), some (.ref _), none, some (.int v3), some (.int s29.1), some (.int (fx_at s29.2 _ s29.1))], [], (110, x), s29.2)
        refine mj_pbr (fun c3 => ?_) (fun c3 => ?_)
        · rw [if_pos c3] at h
          refine mj_gcp hC 3 ?_
          show P (mj_pick 96 79 (20000 ≤ (fx_at s29.2 _ s29.1)), [some (.ref 38), some (.ref _), none, some (.int v3), some (.int s29.1), some (.int (fx_at s29.2 _ s29.1))], [], (110, x), s29.2)
          refine mj_pbr (fun c4 => ?_) (fun c4 => ?_)
          · rw [if_pos c4] at h
            refine mj_gcp hC 4 ?_
            show P (103, [some (.ref 38), some (.ref _), none, some (.int v3), some (.int s29.1), some (.int (fx_at s29.2 _ s29.1))], [.int ((fx_at s29.2 _ s29.1) - 20000), .ref 38], (110, x), s29.2)
            obtain ⟨q5, eq5, h⟩ := mj_bnd h
            refine mj_pcall hC rfl (rk_join_x (Nat.le_trans (by decide) hd) eq5) ?_
            show P (106, [some (.ref 38), some (.ref _), none, some (.int v3), some (.int s29.1), some (.int (fx_at s29.2 _ s29.1))], [], (110, x), q5)
            exact mj_less hC (L0 := [some (.ref 38), some (.ref _), none, some (.int v3), some (.int s29.1), none]) (And.intro rfl (And.intro rfl (And.intro rfl (And.intro rfl trivial)))) (rk_value_j106l29_x hC hd (by decide) h h0 h1)
          · rw [if_neg c4] at h
            refine mj_gcp hC 5 ?_
            show P (87, [some (.ref 38), some (.ref _), none, some (.int v3), some (.int s29.1), some (.int (fx_at s29.2 _ s29.1))], [.int ((fx_at s29.2 _ s29.1) - 10000), .ref 38, .ref 38], (110, x), s29.2)
            obtain ⟨q6, eq6, h⟩ := mj_bnd h
            refine mj_pcall hC rfl (rk_nameValue_x (Nat.le_trans (by decide) hd) eq6) ?_
            show P (90, [some (.ref 38), some (.ref _), none, some (.int v3), some (.int s29.1), some (.int (fx_at s29.2 _ s29.1))], [.long q6, .ref 38], (110, x), s29.2)
            obtain ⟨q7, eq7, h⟩ := mj_bnd h
            refine mj_pcall hC rfl (rk_push_x (Nat.le_trans (by decide) hd) eq7) ?_
            show P (93, [some (.ref 38), some (.ref _), none, some (.int v3), some (.int s29.1), some (.int (fx_at s29.2 _ s29.1))], [], (110, x), q7)
            refine mj_gcp hC 1 ?_
            show P (106, [some (.ref 38), some (.ref _), none, some (.int v3), some (.int s29.1), some (.int (fx_at s29.2 _ s29.1))], [], (110, x), q7)
            exact mj_less hC (L0 := [some (.ref 38), some (.ref _), none, some (.int v3), some (.int s29.1), none]) (And.intro rfl (And.intro rfl (And.intro rfl (And.intro rfl trivial)))) (rk_value_j106l29_x hC hd (by decide) h h0 h1)
        · rw [if_neg c3] at h
          refine mj_gcp hC 3 ?_
          show P (65, [some (.ref 38), some (.ref _), none, some (.int v3), some (.int s29.1), some (.int (fx_at s29.2 _ s29.1))], [.long (fx_at s29.2 _ s29.1).toInt64, .ref 38], (110, x), s29.2)
          obtain ⟨q8, eq8, h⟩ := mj_bnd h
          refine mj_pcall hC rfl (rk_push_x (Nat.le_trans (by decide) hd) eq8) ?_
          show P (68, [some (.ref 38), some (.ref _), none, some (.int v3), some (.int s29.1), some (.int (fx_at s29.2 _ s29.1))], [], (110, x), q8)
          refine mj_gcp hC 1 ?_
          show P (106, [some (.ref 38), some (.ref _), none, some (.int v3), some (.int s29.1), some (.int (fx_at s29.2 _ s29.1))], [], (110, x), q8)
          exact mj_less hC (L0 := [some (.ref 38), some (.ref _), none, some (.int v3), some (.int s29.1), none]) (And.intro rfl (And.intro rfl (And.intro rfl (And.intro rfl trivial)))) (rk_value_j106l29_x hC hd (by decide) h h0 h1)
      · rw [if_neg c2] at h
        cases h
        exact mj_less hC (L0 := [some (.ref 38), none, none, none, none, none]) (And.intro rfl trivial) (h1 rfl)
set_option maxRecDepth 20000 in
theorem rk_value_j112_x {Ls tp ip x d : Nat} {Z : mj_X} {R : Option Value → mj_G → mj_M → Prop} {P : mj_K → Prop} (hC : mj_cls false (mj_sh Ls) (mj_rf tp ip) mj_dv mj_cd_124 (mj_Ex false (mj_sh Ls) (mj_rf tp ip) Z d) R P) (hd : 2 ≤ d) {q : Nat} (hq : q = 3 ∨ q = 17)   {m : mj_M} {r : (Int64 × mj_M)} (h : rk_value_j112 q m = some r) (hR : R (some (.long r.1)) (110, x) r.2) : P (112, [some (.ref 38), none, none, none, none, none], [], (110, x), m) := by
  unfold rk_value_j112 at h
  rcases hq with rfl | rfl
  all_goals
    refine mj_gcp hC 1 ?_
    show P (113, [some (.ref 38), none, none, none, none, none], [.ref 38], (110, x), m)
    obtain ⟨q10, eq10, h⟩ := mj_bnd h
    refine mj_pcall hC rfl (rk_pop_x (Nat.le_trans (by decide) hd) eq10) ?_
    show P (116, [some (.ref 38), none, none, none, none, none], [.long q10.1], (110, x), q10.2)
    refine mj_gcp hC 4 ?_
    show P (mj_pick 131 125 ((mj_I (q10.2 38 3)) = 0), [some (.ref 38), none, none, none, some (.long q10.1), none], [], (110, x), q10.2)
    refine mj_pbr (fun c11 => ?_) (fun c11 => ?_)
    · rw [if_pos c11] at h
      refine mj_gcp hC 1 ?_
      show P (133, [some (.ref 38), none, none, none, some (.long q10.1), none], [.long q10.1], (110, x), q10.2)
      cases h
      exact mj_pret hC rfl hR
    · rw [if_neg c11] at h
      refine mj_gcp hC 2 ?_
      show P (133, [some (.ref 38), none, none, none, some (.long q10.1), none], [.long (-9223372036854775808)], (110, x), q10.2)
      cases h
      exact mj_pret hC rfl hR
set_option maxRecDepth 20000 in
theorem rk_value_p {Ls tp ip x d : Nat} {Z : mj_X} {R : Option Value → mj_G → mj_M → Prop} {P : mj_K → Prop} (hC : mj_cls false (mj_sh Ls) (mj_rf tp ip) mj_dv mj_cd_124 (mj_Ex false (mj_sh Ls) (mj_rf tp ip) Z d) R P) (hd : 2 ≤ d) {q : Nat} (hq : q = 3 ∨ q = 17) {v2 : Int32} {m : mj_M} {r : (Int64 × mj_M)} (h : rk_value q v2 m = some r) (hR : R (some (.long r.1)) (110, x) r.2) : P (0, [some (.ref 38), some (.ref q), some (.int v2), none, none, none], [], (110, x), m) := by
  unfold rk_value at h
  rcases hq with rfl | rfl
  all_goals
    refine mj_gcp hC 9 ?_
    show P (15, [some (.ref 38), some (.ref _), some (.int v2), none, none, none], [.int v2, .ref _], (110, x), (mj_up (mj_up m 38 2 (.int 0)) 38 3 (.int 0)))
    refine mj_pcall hC rfl (bp_at_x (Nat.le_trans (by decide) hd) (by decide)) ?_
    show P (18, [some (.ref 38), some (.ref _), some (.int v2), none, none, none], [.int (fx_at (mj_up (mj_up m 38 2 (.int 0)) 38 3 (.int 0)) _ v2)], (110, x), (mj_up (mj_up m 38 2 (.int 0)) 38 3 (.int 0)))
    refine mj_gcp hC 4 ?_
    show P (24, [some (.ref 38), some (.ref _), some (.int v2), some (.int (fx_at (mj_up (mj_up m 38 2 (.int 0)) 38 3 (.int 0)) _ v2)), none, none], [.int v2, .ref _], (110, x), (mj_up (mj_up m 38 2 (.int 0)) 38 3 (.int 0)))
    refine mj_pcall hC rfl (bp_at_x (Nat.le_trans (by decide) hd) (by decide)) ?_
    show P (27, [some (.ref 38), some (.ref _), some (.int v2), some (.int (fx_at (mj_up (mj_up m 38 2 (.int 0)) 38 3 (.int 0)) _ v2)), none, none], [.int (fx_at (mj_up (mj_up m 38 2 (.int 0)) 38 3 (.int 0)) _ v2)], (110, x), (mj_up (mj_up m 38 2 (.int 0)) 38 3 (.int 0)))
    refine mj_gcp hC 1 ?_
    show P (29, [some (.ref 38), some (.ref _), some (.int v2), some (.int (fx_at (mj_up (mj_up m 38 2 (.int 0)) 38 3 (.int 0)) _ v2)), some (.int (fx_at (mj_up (mj_up m 38 2 (.int 0)) 38 3 (.int 0)) _ v2)), none], [], (110, x), (mj_up (mj_up m 38 2 (.int 0)) 38 3 (.int 0)))
    obtain ⟨q9, eq9, h⟩ := mj_bnd h
    refine mj_less hC (L0 := [some (.ref 38), some (.ref _), none, some (.int (fx_at (mj_up (mj_up m 38 2 (.int 0)) 38 3 (.int 0)) _ v2)), some (.int (fx_at (mj_up (mj_up m 38 2 (.int 0)) 38 3 (.int 0)) _ v2)), none]) (And.intro rfl (And.intro rfl (And.intro rfl (And.intro rfl trivial)))) ?_
    refine mj_loop_P (A := fun z29 => P (29, [some (.ref 38), some (.ref _), none, some (.int (fx_at (mj_up (mj_up m 38 2 (.int 0)) 38 3 (.int 0)) _ v2)), some (.int z29.1), none], [], (110, x), z29.2)) (E := fun _ z29 => P (112, [some (.ref 38), none, none, none, none, none], [], (110, x), z29.2)) (fun zz t w hb h0 h1 => rk_value_l29_x hC hd (by decide) zz hb h0 (fun ht => h1 0 ht)) mj_F _ q9 eq9 ?_
    exact mj_less hC (L0 := [some (.ref 38), none, none, none, none, none]) (And.intro rfl trivial) (rk_value_j112_x hC hd (by decide) h hR)
set_option maxRecDepth 20000 in
theorem rk_value_x {Ls tp ip x d : Nat} {Z : mj_X} (hd : 3 ≤ d) {q : Nat} (hq : q = 3 ∨ q = 17) {v2 : Int32} {m : mj_M} {r : (Int64 × mj_M)} (h : rk_value q v2 m = some r) : mj_Ex false (mj_sh Ls) (mj_rf tp ip) Z d 124 [.ref 38, .ref q, .int v2] (110, x) m (some (.long r.1)) (110, x) r.2 := by
  exact mj_Ex_of (cd := mj_cd_124) (L := [some (.ref 38), some (.ref q), some (.int v2), none, none, none]) (by omega) (by decide) rfl (Nat.le_of_ble_eq_true rfl) rfl (fun P hC => rk_value_p hC (by omega) hq h ⟨rfl, rfl, rfl⟩)
def md_keepText_l140   (s140 : (Int32 × mj_M)) : Option (Nat × (Int32 × mj_M)) :=
  (if 3 ≤ s140.1 then some (1, (s140.1, s140.2)) else
  (if ((3 : Int32) + s140.1) < 0 ∨ 6 ≤ (((3 : Int32) + s140.1) : Int32).toNatClampNeg then none else
  (if s140.1 < 0 ∨ 6 ≤ (s140.1 : Int32).toNatClampNeg then none else
  some (0, ((s140.1 + 1), (mj_up s140.2 83 s140.1.toNatClampNeg (.int ((mj_I (s140.2 83 ((3 : Int32) + s140.1).toNatClampNeg)) &&& 1))))))))
def md_keepText   (m : mj_M) : Option mj_M :=
  (mj_loop (md_keepText_l140) mj_F (0, (fx_half (fx_half (fx_half (fx_half (fx_half (fx_half (fx_half (fx_half (fx_half (fx_half (fx_half (mj_up (mj_up (mj_up (mj_up (mj_up m 68 12 (.int (mj_I (m 68 17)))) 68 13 (.int (mj_I (m 68 18)))) 68 14 (.int (mj_I (m 68 19)))) 68 15 (.int (mj_I (m 68 20)))) 68 16 (.int (mj_I (m 68 21)))) 72 3) 73 6) 74 6) 75 6) 76 6) 77 8) 78 8) 79 8) 80 8) 81 8) 82 8))).bind fun q4 =>
  (md_begin (fx_half (fx_half (fx_half (fx_half (fx_half q4.2.2 84 3) 85 3) 86 64) 87 64) 88 64)).bind fun q5 =>
  some q5
set_option maxRecDepth 20000 in
theorem md_keepText_l140_x {Ls tp ip x d : Nat} {Z : mj_X} {R : Option Value → mj_G → mj_M → Prop} {P : mj_K → Prop} (hC : mj_cls false (mj_sh Ls) (mj_rf tp ip) mj_dv mj_cd_170 (mj_Ex false (mj_sh Ls) (mj_rf tp ip) Z d) R P) (hd : 2 ≤ d)  (s140 : (Int32 × mj_M)) {t : Nat} {w : (Int32 × mj_M)} (h : md_keepText_l140 s140 = some (t, w)) (h0 : t = 0 → P (140, [some (.ref 68), some (.int w.1)], [], (110, x), w.2)) (h1 : t = 1 → P (165, [some (.ref 68), none], [], (110, x), w.2)) : P (140, [some (.ref 68), some (.int s140.1)], [], (110, x), s140.2) := by
  unfold md_keepText_l140 at h
  refine mj_gcp hC 3 ?_
  show P (mj_pick 165 145 (3 ≤ s140.1), [some (.ref 68), some (.int s140.1)], [], (110, x), s140.2)
  refine mj_pbr (fun c1 => ?_) (fun c1 => ?_)
  · rw [if_pos c1] at h
    cases h
    exact mj_less hC (L0 := [some (.ref 68), none]) (And.intro rfl trivial) (h1 rfl)
  · rw [if_neg c1] at h
    obtain ⟨k2, h⟩ := mj_ifn h
    obtain ⟨k3, h⟩ := mj_ifn h
    refine mj_gcp hC 12 ?_
    show _ ∧ (_ ∧ (P (140, [some (.ref 68), some (.int (s140.1 + 1))], [], (110, x), (mj_up s140.2 83 s140.1.toNatClampNeg (.int ((mj_I (s140.2 83 ((3 : Int32) + s140.1).toNatClampNeg)) &&& 1))))))
    refine And.intro k2 (And.intro k3 (?_))
    cases h
    exact mj_less hC (L0 := [some (.ref 68), some (.int (s140.1 + 1))]) (And.intro rfl (And.intro rfl trivial)) (h0 rfl)
set_option maxRecDepth 20000 in
theorem md_keepText_p {Ls tp ip x d : Nat} {Z : mj_X} {R : Option Value → mj_G → mj_M → Prop} {P : mj_K → Prop} (hC : mj_cls false (mj_sh Ls) (mj_rf tp ip) mj_dv mj_cd_170 (mj_Ex false (mj_sh Ls) (mj_rf tp ip) Z d) R P) (hd : 2 ≤ d)  {m : mj_M} {r : mj_M} (h : md_keepText m = some r) (hR : R none (110, x) r) : P (0, [some (.ref 68), none], [], (110, x), m) := by
  unfold md_keepText at h
  refine mj_gcp hC 23 ?_
  show P (45, [some (.ref 68), none], [.int 3, .ref 72], (110, x), (mj_up (mj_up (mj_up (mj_up (mj_up m 68 12 (.int (mj_I (m 68 17)))) 68 13 (.int (mj_I (m 68 18)))) 68 14 (.int (mj_I (m 68 19)))) 68 15 (.int (mj_I (m 68 20)))) 68 16 (.int (mj_I (m 68 21)))))
  refine mj_pcall hC rfl (md_copies_x (Nat.le_trans (by decide) hd) (by decide) (by decide)) ?_
  show P (48, [some (.ref 68), none], [], (110, x), (fx_half (mj_up (mj_up (mj_up (mj_up (mj_up m 68 12 (.int (mj_I (m 68 17)))) 68 13 (.int (mj_I (m 68 18)))) 68 14 (.int (mj_I (m 68 19)))) 68 15 (.int (mj_I (m 68 20)))) 68 16 (.int (mj_I (m 68 21)))) 72 3))
  refine mj_gcp hC 3 ?_
  show P (54, [some (.ref 68), none], [.int 6, .ref 73], (110, x), (fx_half (mj_up (mj_up (mj_up (mj_up (mj_up m 68 12 (.int (mj_I (m 68 17)))) 68 13 (.int (mj_I (m 68 18)))) 68 14 (.int (mj_I (m 68 19)))) 68 15 (.int (mj_I (m 68 20)))) 68 16 (.int (mj_I (m 68 21)))) 72 3))
  refine mj_pcall hC rfl (md_copies_x (Nat.le_trans (by decide) hd) (by decide) (by decide)) ?_
  show P (57, [some (.ref 68), none], [], (110, x), (fx_half (fx_half (mj_up (mj_up (mj_up (mj_up (mj_up m 68 12 (.int (mj_I (m 68 17)))) 68 13 (.int (mj_I (m 68 18)))) 68 14 (.int (mj_I (m 68 19)))) 68 15 (.int (mj_I (m 68 20)))) 68 16 (.int (mj_I (m 68 21)))) 72 3) 73 6))
  refine mj_gcp hC 3 ?_
  show P (63, [some (.ref 68), none], [.int 6, .ref 74], (110, x), (fx_half (fx_half (mj_up (mj_up (mj_up (mj_up (mj_up m 68 12 (.int (mj_I (m 68 17)))) 68 13 (.int (mj_I (m 68 18)))) 68 14 (.int (mj_I (m 68 19)))) 68 15 (.int (mj_I (m 68 20)))) 68 16 (.int (mj_I (m 68 21)))) 72 3) 73 6))
  refine mj_pcall hC rfl (md_copies_x (Nat.le_trans (by decide) hd) (by decide) (by decide)) ?_
  show P (66, [some (.ref 68), none], [], (110, x), (fx_half (fx_half (fx_half (mj_up (mj_up (mj_up (mj_up (mj_up m 68 12 (.int (mj_I (m 68 17)))) 68 13 (.int (mj_I (m 68 18)))) 68 14 (.int (mj_I (m 68 19)))) 68 15 (.int (mj_I (m 68 20)))) 68 16 (.int (mj_I (m 68 21)))) 72 3) 73 6) 74 6))
  refine mj_gcp hC 3 ?_
  show P (72, [some (.ref 68), none], [.int 6, .ref 75], (110, x), (fx_half (fx_half (fx_half (mj_up (mj_up (mj_up (mj_up (mj_up m 68 12 (.int (mj_I (m 68 17)))) 68 13 (.int (mj_I (m 68 18)))) 68 14 (.int (mj_I (m 68 19)))) 68 15 (.int (mj_I (m 68 20)))) 68 16 (.int (mj_I (m 68 21)))) 72 3) 73 6) 74 6))
  refine mj_pcall hC rfl (md_copies_x (Nat.le_trans (by decide) hd) (by decide) (by decide)) ?_
  show P (75, [some (.ref 68), none], [], (110, x), (fx_half (fx_half (fx_half (fx_half (mj_up (mj_up (mj_up (mj_up (mj_up m 68 12 (.int (mj_I (m 68 17)))) 68 13 (.int (mj_I (m 68 18)))) 68 14 (.int (mj_I (m 68 19)))) 68 15 (.int (mj_I (m 68 20)))) 68 16 (.int (mj_I (m 68 21)))) 72 3) 73 6) 74 6) 75 6))
  refine mj_gcp hC 3 ?_
  show P (81, [some (.ref 68), none], [.int 6, .ref 76], (110, x), (fx_half (fx_half (fx_half (fx_half (mj_up (mj_up (mj_up (mj_up (mj_up m 68 12 (.int (mj_I (m 68 17)))) 68 13 (.int (mj_I (m 68 18)))) 68 14 (.int (mj_I (m 68 19)))) 68 15 (.int (mj_I (m 68 20)))) 68 16 (.int (mj_I (m 68 21)))) 72 3) 73 6) 74 6) 75 6))
  refine mj_pcall hC rfl (md_copies_x (Nat.le_trans (by decide) hd) (by decide) (by decide)) ?_
  show P (84, [some (.ref 68), none], [], (110, x), (fx_half (fx_half (fx_half (fx_half (fx_half (mj_up (mj_up (mj_up (mj_up (mj_up m 68 12 (.int (mj_I (m 68 17)))) 68 13 (.int (mj_I (m 68 18)))) 68 14 (.int (mj_I (m 68 19)))) 68 15 (.int (mj_I (m 68 20)))) 68 16 (.int (mj_I (m 68 21)))) 72 3) 73 6) 74 6) 75 6) 76 6))
  refine mj_gcp hC 3 ?_
  show P (90, [some (.ref 68), none], [.int 8, .ref 77], (110, x), (fx_half (fx_half (fx_half (fx_half (fx_half (mj_up (mj_up (mj_up (mj_up (mj_up m 68 12 (.int (mj_I (m 68 17)))) 68 13 (.int (mj_I (m 68 18)))) 68 14 (.int (mj_I (m 68 19)))) 68 15 (.int (mj_I (m 68 20)))) 68 16 (.int (mj_I (m 68 21)))) 72 3) 73 6) 74 6) 75 6) 76 6))
  refine mj_pcall hC rfl (md_copies_x (Nat.le_trans (by decide) hd) (by decide) (by decide)) ?_
  show P (93, [some (.ref 68), none], [], (110, x), (fx_half (fx_half (fx_half (fx_half (fx_half (fx_half (mj_up (mj_up (mj_up (mj_up (mj_up m 68 12 (.int (mj_I (m 68 17)))) 68 13 (.int (mj_I (m 68 18)))) 68 14 (.int (mj_I (m 68 19)))) 68 15 (.int (mj_I (m 68 20)))) 68 16 (.int (mj_I (m 68 21)))) 72 3) 73 6) 74 6) 75 6) 76 6) 77 8))
  refine mj_gcp hC 3 ?_
  show P (99, [some (.ref 68), none], [.int 8, .ref 78], (110, x), (fx_half (fx_half (fx_half (fx_half (fx_half (fx_half (mj_up (mj_up (mj_up (mj_up (mj_up m 68 12 (.int (mj_I (m 68 17)))) 68 13 (.int (mj_I (m 68 18)))) 68 14 (.int (mj_I (m 68 19)))) 68 15 (.int (mj_I (m 68 20)))) 68 16 (.int (mj_I (m 68 21)))) 72 3) 73 6) 74 6) 75 6) 76 6) 77 8))
  refine mj_pcall hC rfl (md_copies_x (Nat.le_trans (by decide) hd) (by decide) (by decide)) ?_
  show P (102, [some (.ref 68), none], [], (110, x), (fx_half (fx_half (fx_half (fx_half (fx_half (fx_half (fx_half (mj_up (mj_up (mj_up (mj_up (mj_up m 68 12 (.int (mj_I (m 68 17)))) 68 13 (.int (mj_I (m 68 18)))) 68 14 (.int (mj_I (m 68 19)))) 68 15 (.int (mj_I (m 68 20)))) 68 16 (.int (mj_I (m 68 21)))) 72 3) 73 6) 74 6) 75 6) 76 6) 77 8) 78 8))
  refine mj_gcp hC 3 ?_
  show P (108, [some (.ref 68), none], [.int 8, .ref 79], (110, x), (fx_half (fx_half (fx_half (fx_half (fx_half (fx_half (fx_half (mj_up (mj_up (mj_up (mj_up (mj_up m 68 12 (.int (mj_I (m 68 17)))) 68 13 (.int (mj_I (m 68 18)))) 68 14 (.int (mj_I (m 68 19)))) 68 15 (.int (mj_I (m 68 20)))) 68 16 (.int (mj_I (m 68 21)))) 72 3) 73 6) 74 6) 75 6) 76 6) 77 8) 78 8))
  refine mj_pcall hC rfl (md_copies_x (Nat.le_trans (by decide) hd) (by decide) (by decide)) ?_
  show P (111, [some (.ref 68), none], [], (110, x), (fx_half (fx_half (fx_half (fx_half (fx_half (fx_half (fx_half (fx_half (mj_up (mj_up (mj_up (mj_up (mj_up m 68 12 (.int (mj_I (m 68 17)))) 68 13 (.int (mj_I (m 68 18)))) 68 14 (.int (mj_I (m 68 19)))) 68 15 (.int (mj_I (m 68 20)))) 68 16 (.int (mj_I (m 68 21)))) 72 3) 73 6) 74 6) 75 6) 76 6) 77 8) 78 8) 79 8))
  refine mj_gcp hC 3 ?_
  show P (117, [some (.ref 68), none], [.int 8, .ref 80], (110, x), (fx_half (fx_half (fx_half (fx_half (fx_half (fx_half (fx_half (fx_half (mj_up (mj_up (mj_up (mj_up (mj_up m 68 12 (.int (mj_I (m 68 17)))) 68 13 (.int (mj_I (m 68 18)))) 68 14 (.int (mj_I (m 68 19)))) 68 15 (.int (mj_I (m 68 20)))) 68 16 (.int (mj_I (m 68 21)))) 72 3) 73 6) 74 6) 75 6) 76 6) 77 8) 78 8) 79 8))
  refine mj_pcall hC rfl (md_copies_x (Nat.le_trans (by decide) hd) (by decide) (by decide)) ?_
  show P (120, [some (.ref 68), none], [], (110, x), (fx_half (fx_half (fx_half (fx_half (fx_half (fx_half (fx_half (fx_half (fx_half (mj_up (mj_up (mj_up (mj_up (mj_up m 68 12 (.int (mj_I (m 68 17)))) 68 13 (.int (mj_I (m 68 18)))) 68 14 (.int (mj_I (m 68 19)))) 68 15 (.int (mj_I (m 68 20)))) 68 16 (.int (mj_I (m 68 21)))) 72 3) 73 6) 74 6) 75 6) 76 6) 77 8) 78 8) 79 8) 80 8))
  refine mj_gcp hC 3 ?_
  show P (126, [some (.ref 68), none], [.int 8, .ref 81], (110, x), (fx_half (fx_half (fx_half (fx_half (fx_half (fx_half (fx_half (fx_half (fx_half (mj_up (mj_up (mj_up (mj_up (mj_up m 68 12 (.int (mj_I (m 68 17)))) 68 13 (.int (mj_I (m 68 18)))) 68 14 (.int (mj_I (m 68 19)))) 68 15 (.int (mj_I (m 68 20)))) 68 16 (.int (mj_I (m 68 21)))) 72 3) 73 6) 74 6) 75 6) 76 6) 77 8) 78 8) 79 8) 80 8))
  refine mj_pcall hC rfl (md_copies_x (Nat.le_trans (by decide) hd) (by decide) (by decide)) ?_
  show P (129, [some (.ref 68), none], [], (110, x), (fx_half (fx_half (fx_half (fx_half (fx_half (fx_half (fx_half (fx_half (fx_half (fx_half (mj_up (mj_up (mj_up (mj_up (mj_up m 68 12 (.int (mj_I (m 68 17)))) 68 13 (.int (mj_I (m 68 18)))) 68 14 (.int (mj_I (m 68 19)))) 68 15 (.int (mj_I (m 68 20)))) 68 16 (.int (mj_I (m 68 21)))) 72 3) 73 6) 74 6) 75 6) 76 6) 77 8) 78 8) 79 8) 80 8) 81 8))
  refine mj_gcp hC 3 ?_
  show P (135, [some (.ref 68), none], [.int 8, .ref 82], (110, x), (fx_half (fx_half (fx_half (fx_half (fx_half (fx_half (fx_half (fx_half (fx_half (fx_half (mj_up (mj_up (mj_up (mj_up (mj_up m 68 12 (.int (mj_I (m 68 17)))) 68 13 (.int (mj_I (m 68 18)))) 68 14 (.int (mj_I (m 68 19)))) 68 15 (.int (mj_I (m 68 20)))) 68 16 (.int (mj_I (m 68 21)))) 72 3) 73 6) 74 6) 75 6) 76 6) 77 8) 78 8) 79 8) 80 8) 81 8))
  refine mj_pcall hC rfl (md_copies_x (Nat.le_trans (by decide) hd) (by decide) (by decide)) ?_
  show P (138, [some (.ref 68), none], [], (110, x), (fx_half (fx_half (fx_half (fx_half (fx_half (fx_half (fx_half (fx_half (fx_half (fx_half (fx_half (mj_up (mj_up (mj_up (mj_up (mj_up m 68 12 (.int (mj_I (m 68 17)))) 68 13 (.int (mj_I (m 68 18)))) 68 14 (.int (mj_I (m 68 19)))) 68 15 (.int (mj_I (m 68 20)))) 68 16 (.int (mj_I (m 68 21)))) 72 3) 73 6) 74 6) 75 6) 76 6) 77 8) 78 8) 79 8) 80 8) 81 8) 82 8))
  refine mj_gcp hC 2 ?_
  show P (140, [some (.ref 68), some (.int 0)], [], (110, x), (fx_half (fx_half (fx_half (fx_half (fx_half (fx_half (fx_half (fx_half (fx_half (fx_half (fx_half (mj_up (mj_up (mj_up (mj_up (mj_up m 68 12 (.int (mj_I (m 68 17)))) 68 13 (.int (mj_I (m 68 18)))) 68 14 (.int (mj_I (m 68 19)))) 68 15 (.int (mj_I (m 68 20)))) 68 16 (.int (mj_I (m 68 21)))) 72 3) 73 6) 74 6) 75 6) 76 6) 77 8) 78 8) 79 8) 80 8) 81 8) 82 8))
  obtain ⟨q4, eq4, h⟩ := mj_bnd h
  refine mj_less hC (L0 := [some (.ref 68), some (.int 0)]) (And.intro rfl (And.intro rfl trivial)) ?_
  refine mj_loop_P (A := fun z140 => P (140, [some (.ref 68), some (.int z140.1)], [], (110, x), z140.2)) (E := fun _ z140 => P (165, [some (.ref 68), none], [], (110, x), z140.2)) (fun zz t w hb h0 h1 => md_keepText_l140_x hC hd zz hb h0 (fun ht => h1 0 ht)) mj_F _ q4 eq4 ?_
  refine mj_gcp hC 3 ?_
  show P (170, [some (.ref 68), none], [.int 3, .ref 84], (110, x), q4.2.2)
  refine mj_pcall hC rfl (md_copies_x (Nat.le_trans (by decide) hd) (by decide) (by decide)) ?_
  show P (173, [some (.ref 68), none], [], (110, x), (fx_half q4.2.2 84 3))
  refine mj_gcp hC 3 ?_
  show P (178, [some (.ref 68), none], [.int 3, .ref 85], (110, x), (fx_half q4.2.2 84 3))
  refine mj_pcall hC rfl (md_copies_x (Nat.le_trans (by decide) hd) (by decide) (by decide)) ?_
  show P (181, [some (.ref 68), none], [], (110, x), (fx_half (fx_half q4.2.2 84 3) 85 3))
  refine mj_gcp hC 3 ?_
  show P (187, [some (.ref 68), none], [.int 64, .ref 86], (110, x), (fx_half (fx_half q4.2.2 84 3) 85 3))
  refine mj_pcall hC rfl (md_copies_x (Nat.le_trans (by decide) hd) (by decide) (by decide)) ?_
  show P (190, [some (.ref 68), none], [], (110, x), (fx_half (fx_half (fx_half q4.2.2 84 3) 85 3) 86 64))
  refine mj_gcp hC 3 ?_
  show P (196, [some (.ref 68), none], [.int 64, .ref 87], (110, x), (fx_half (fx_half (fx_half q4.2.2 84 3) 85 3) 86 64))
  refine mj_pcall hC rfl (md_copies_x (Nat.le_trans (by decide) hd) (by decide) (by decide)) ?_
  show P (199, [some (.ref 68), none], [], (110, x), (fx_half (fx_half (fx_half (fx_half q4.2.2 84 3) 85 3) 86 64) 87 64))
  refine mj_gcp hC 3 ?_
  show P (205, [some (.ref 68), none], [.int 64, .ref 88], (110, x), (fx_half (fx_half (fx_half (fx_half q4.2.2 84 3) 85 3) 86 64) 87 64))
  refine mj_pcall hC rfl (md_copies_x (Nat.le_trans (by decide) hd) (by decide) (by decide)) ?_
  show P (208, [some (.ref 68), none], [], (110, x), (fx_half (fx_half (fx_half (fx_half (fx_half q4.2.2 84 3) 85 3) 86 64) 87 64) 88 64))
  refine mj_gcp hC 1 ?_
  show P (209, [some (.ref 68), none], [.ref 68], (110, x), (fx_half (fx_half (fx_half (fx_half (fx_half q4.2.2 84 3) 85 3) 86 64) 87 64) 88 64))
  obtain ⟨q5, eq5, h⟩ := mj_bnd h
  refine mj_pcall hC rfl (md_begin_x (Nat.le_trans (by decide) hd) eq5) ?_
  show P (212, [some (.ref 68), none], [], (110, x), q5)
  cases h
  exact mj_pret hC rfl hR
set_option maxRecDepth 20000 in
theorem md_keepText_x {Ls tp ip x d : Nat} {Z : mj_X} (hd : 3 ≤ d)  {m : mj_M} {r : mj_M} (h : md_keepText m = some r) : mj_Ex false (mj_sh Ls) (mj_rf tp ip) Z d 170 [.ref 68] (110, x) m none (110, x) r := by
  exact mj_Ex_of (cd := mj_cd_170) (L := [some (.ref 68), none]) (by omega) (by decide) rfl (Nat.le_of_ble_eq_true rfl) rfl (fun P hC => md_keepText_p hC (by omega) h ⟨rfl, rfl, rfl⟩)
def md_lineRead_j231  (v1 : Int32)  (m : mj_M) : Option (Int32 × mj_M) :=
  (if v1 = 0 then some (0, m) else
  (if (md_isSign 59 m) = 0 then (md_wrong 1 m).bind fun q7 =>
  (if q7.1 = 0 ∨ q7.1 = 1 then some (q7.1, q7.2) else none) else
  (md_token m).bind fun q9 =>
  some (1, q9)))
def md_lineRead_j164    (m : mj_M) : Option (Int32 × mj_M) :=
  (md_wrong 1 m).bind fun q25 =>
  (if q25.1 = 0 ∨ q25.1 = 1 then some (q25.1, q25.2) else none)
def md_lineRead_j17    (m : mj_M) : Option (Int32 × mj_M) :=
  (md_wrong 1 m).bind fun q37 =>
  (if q37.1 = 0 ∨ q37.1 = 1 then some (q37.1, q37.2) else none)
def md_lineRead   (m : mj_M) : Option (Int32 × mj_M) :=
  (if (mj_I (m 68 8)) = 1 then (if (mj_I (m 68 9)) ≤ 7 then (if (mj_I (m 68 9)) = 0 then (md_manLine m).bind fun q4 =>
  md_lineRead_j231 q4.1 q4.2 else
  (if (mj_I (m 68 9)) = 1 then (md_tieLine m).bind fun q11 =>
  md_lineRead_j231 q11.1 q11.2 else
  (if (mj_I (m 68 9)) = 2 then (md_workLine m).bind fun q13 =>
  md_lineRead_j231 q13.1 q13.2 else
  (if (mj_I (m 68 9)) = 3 then (md_speedLine m).bind fun q15 =>
  md_lineRead_j231 q15.1 q15.2 else
  (if (mj_I (m 68 9)) = 4 then (md_onceLine 0 999 m).bind fun q17 =>
  md_lineRead_j231 q17.1 q17.2 else
  (if (mj_I (m 68 9)) = 5 then (md_onceLine 1 100 m).bind fun q19 =>
  md_lineRead_j231 q19.1 q19.2 else
  (if (mj_I (m 68 9)) = 6 then (md_onceLine 2 99999 m).bind fun q21 =>
  md_lineRead_j231 q21.1 q21.2 else
  (md_token m).bind fun q22 =>
  (if (mj_I (q22 68 8)) = 1 then (if (mj_I (q22 68 9)) < 8 then md_lineRead_j164 q22 else
  (if (mj_I (q22 68 9)) ≤ 10 then (if (((3 : Int32) + (mj_I (q22 68 9))) - 8) < 0 ∨ 6 ≤ ((((3 : Int32) + (mj_I (q22 68 9))) - 8) : Int32).toNatClampNeg then none else
  (if (mj_I (q22 83 (((3 : Int32) + (mj_I (q22 68 9))) - 8).toNatClampNeg)) = 0 then (if (((3 : Int32) + (mj_I (q22 68 9))) - 8) < 0 ∨ 6 ≤ ((((3 : Int32) + (mj_I (q22 68 9))) - 8) : Int32).toNatClampNeg then none else
  (md_token (mj_up q22 83 (((3 : Int32) + (mj_I (q22 68 9))) - 8).toNatClampNeg (.int (1 &&& 1)))).bind fun q31 =>
  (if (((3 : Int32) + (mj_I (q22 68 9))) - 8) < 0 ∨ 6 ≤ ((((3 : Int32) + (mj_I (q22 68 9))) - 8) : Int32).toNatClampNeg then none else
  (md_sumRead (mj_up q31 84 (((3 : Int32) + (mj_I (q22 68 9))) - 8).toNatClampNeg (.int (mj_I (q31 68 21))))).bind fun q33 =>
  (if (((3 : Int32) + (mj_I (q22 68 9))) - 8) < 0 ∨ 6 ≤ ((((3 : Int32) + (mj_I (q22 68 9))) - 8) : Int32).toNatClampNeg then none else
  md_lineRead_j231 q33.1 (mj_up q33.2 85 (((3 : Int32) + (mj_I (q22 68 9))) - 8).toNatClampNeg (.int (mj_I (q33.2 68 21))))))) else
  (md_wrong 3 q22).bind fun q35 =>
  (if q35.1 = 0 ∨ q35.1 = 1 then some (q35.1, q35.2) else none))) else
  md_lineRead_j164 q22)) else
  md_lineRead_j164 q22)))))))) else
  md_lineRead_j17 m) else
  md_lineRead_j17 m)
set_option maxRecDepth 20000 in
theorem md_lineRead_j231_x {Ls tp ip x d : Nat} {Z : mj_X} {R : Option Value → mj_G → mj_M → Prop} {P : mj_K → Prop} (hC : mj_cls false (mj_sh Ls) (mj_rf tp ip) mj_dv mj_cd_179 (mj_Ex false (mj_sh Ls) (mj_rf tp ip) Z d) R P) (hd : 4 ≤ d) {v1 : Int32}  {m : mj_M} {r : (Int32 × mj_M)} (h : md_lineRead_j231 v1 m = some r) (hR : R (some (.int r.1)) (110, x) r.2) : P (231, [some (.ref 68), some (.int v1), none], [], (110, x), m) := by
  unfold md_lineRead_j231 at h
  refine mj_gcp hC 2 ?_
  show P (mj_pick 235 237 (v1 = 0), [some (.ref 68), some (.int v1), none], [], (110, x), m)
  refine mj_pbr (fun c5 => ?_) (fun c5 => ?_)
  · rw [if_pos c5] at h
    refine mj_gcp hC 1 ?_
    show P (236, [some (.ref 68), some (.int v1), none], [.int 0], (110, x), m)
    cases h
    exact mj_pret hC rfl hR
  · rw [if_neg c5] at h
    refine mj_gcp hC 2 ?_
    show P (240, [some (.ref 68), some (.int v1), none], [.int 59, .ref 68], (110, x), m)
    refine mj_pcall hC rfl (md_isSign_x (Nat.le_trans (by decide) hd)) ?_
    show P (243, [some (.ref 68), some (.int v1), none], [.int (md_isSign 59 m)], (110, x), m)
    refine mj_gcp hC 1 ?_
    show P (mj_pick 246 252 ((md_isSign 59 m) = 0), [some (.ref 68), some (.int v1), none], [], (110, x), m)
    refine mj_pbr (fun c6 => ?_) (fun c6 => ?_)
    · rw [if_pos c6] at h
      refine mj_gcp hC 2 ?_
      show P (248, [some (.ref 68), some (.int v1), none], [.int 1, .ref 68], (110, x), m)
      obtain ⟨q7, eq7, h⟩ := mj_bnd h
      refine mj_pcall hC rfl (md_wrong_x (Nat.le_trans (by decide) hd) eq7) ?_
      show P (251, [some (.ref 68), some (.int v1), none], [.int q7.1], (110, x), q7.2)
      obtain ⟨k8, h⟩ := mj_ifs h
      cases h
      exact mj_pretZ hC rfl k8 hR
    · rw [if_neg c6] at h
      refine mj_gcp hC 1 ?_
      show P (253, [some (.ref 68), some (.int v1), none], [.ref 68], (110, x), m)
      obtain ⟨q9, eq9, h⟩ := mj_bnd h
      refine mj_pcall hC rfl (md_token_x (Nat.le_trans (by decide) hd) eq9) ?_
      show P (256, [some (.ref 68), some (.int v1), none], [], (110, x), q9)
      refine mj_gcp hC 1 ?_
      show P (257, [some (.ref 68), some (.int v1), none], [.int 1], (110, x), q9)
      cases h
      exact mj_pret hC rfl hR
set_option maxRecDepth 20000 in
theorem md_lineRead_j164_x {Ls tp ip x d : Nat} {Z : mj_X} {R : Option Value → mj_G → mj_M → Prop} {P : mj_K → Prop} (hC : mj_cls false (mj_sh Ls) (mj_rf tp ip) mj_dv mj_cd_179 (mj_Ex false (mj_sh Ls) (mj_rf tp ip) Z d) R P) (hd : 4 ≤ d)   {m : mj_M} {r : (Int32 × mj_M)} (h : md_lineRead_j164 m = some r) (hR : R (some (.int r.1)) (110, x) r.2) : P (164, [some (.ref 68), none, none], [], (110, x), m) := by
  unfold md_lineRead_j164 at h
  refine mj_gcp hC 2 ?_
  show P (166, [some (.ref 68), none, none], [.int 1, .ref 68], (110, x), m)
  obtain ⟨q25, eq25, h⟩ := mj_bnd h
  refine mj_pcall hC rfl (md_wrong_x (Nat.le_trans (by decide) hd) eq25) ?_
  show P (169, [some (.ref 68), none, none], [.int q25.1], (110, x), q25.2)
  obtain ⟨k26, h⟩ := mj_ifs h
  cases h
  exact mj_pretZ hC rfl k26 hR
set_option maxRecDepth 20000 in
theorem md_lineRead_j17_x {Ls tp ip x d : Nat} {Z : mj_X} {R : Option Value → mj_G → mj_M → Prop} {P : mj_K → Prop} (hC : mj_cls false (mj_sh Ls) (mj_rf tp ip) mj_dv mj_cd_179 (mj_Ex false (mj_sh Ls) (mj_rf tp ip) Z d) R P) (hd : 4 ≤ d)   {m : mj_M} {r : (Int32 × mj_M)} (h : md_lineRead_j17 m = some r) (hR : R (some (.int r.1)) (110, x) r.2) : P (17, [some (.ref 68), none, none], [], (110, x), m) := by
  unfold md_lineRead_j17 at h
  refine mj_gcp hC 2 ?_
  show P (19, [some (.ref 68), none, none], [.int 1, .ref 68], (110, x), m)
  obtain ⟨q37, eq37, h⟩ := mj_bnd h
  refine mj_pcall hC rfl (md_wrong_x (Nat.le_trans (by decide) hd) eq37) ?_
  show P (22, [some (.ref 68), none, none], [.int q37.1], (110, x), q37.2)
  obtain ⟨k38, h⟩ := mj_ifs h
  cases h
  exact mj_pretZ hC rfl k38 hR
set_option maxRecDepth 20000 in
theorem md_lineRead_p {Ls tp ip x d : Nat} {Z : mj_X} {R : Option Value → mj_G → mj_M → Prop} {P : mj_K → Prop} (hC : mj_cls false (mj_sh Ls) (mj_rf tp ip) mj_dv mj_cd_179 (mj_Ex false (mj_sh Ls) (mj_rf tp ip) Z d) R P) (hd : 4 ≤ d)  {m : mj_M} {r : (Int32 × mj_M)} (h : md_lineRead m = some r) (hR : R (some (.int r.1)) (110, x) r.2) : P (0, [some (.ref 68), none, none], [], (110, x), m) := by
  unfold md_lineRead at h
  refine mj_gcp hC 4 ?_
  show P (mj_pick 8 17 ((mj_I (m 68 8)) = 1), [some (.ref 68), none, none], [], (110, x), m)
  refine mj_pbr (fun c1 => ?_) (fun c1 => ?_)
  · rw [if_pos c1] at h
    refine mj_gcp hC 4 ?_
    show P (mj_pick 23 17 ((mj_I (m 68 9)) ≤ 7), [some (.ref 68), none, none], [], (110, x), m)
    refine mj_pbr (fun c2 => ?_) (fun c2 => ?_)
    · rw [if_pos c2] at h
      refine mj_gcp hC 3 ?_
      show P ((mj_sw (mj_I (m 68 9)) [(0, 68), (1, 76), (2, 84), (3, 92), (4, 100), (5, 112), (6, 123)] 134), [some (.ref 68), none, none], [], (110, x), m)
      refine mj_psw (fun c3 => ?_) (fun c3 => ?_)
      · rw [if_pos c3] at h
        refine mj_gcp hC 1 ?_
        show P (69, [some (.ref 68), none, none], [.ref 68], (110, x), m)
        obtain ⟨q4, eq4, h⟩ := mj_bnd h
        refine mj_pcall hC rfl (md_manLine_x (Nat.le_trans (by decide) hd) eq4) ?_
        show P (72, [some (.ref 68), none, none], [.int q4.1], (110, x), q4.2)
        refine mj_gcp hC 2 ?_
        show P (231, [some (.ref 68), some (.int q4.1), none], [], (110, x), q4.2)
        exact mj_less hC (L0 := [some (.ref 68), some (.int q4.1), none]) (And.intro rfl (And.intro rfl trivial)) (md_lineRead_j231_x hC hd h hR)
      · rw [if_neg c3] at h
        refine mj_psw (fun c10 => ?_) (fun c10 => ?_)
        · rw [if_pos c10] at h
          refine mj_gcp hC 1 ?_
          show P (77, [some (.ref 68), none, none], [.ref 68], (110, x), m)
          obtain ⟨q11, eq11, h⟩ := mj_bnd h
          refine mj_pcall hC rfl (md_tieLine_x (Nat.le_trans (by decide) hd) eq11) ?_
          show P (80, [some (.ref 68), none, none], [.int q11.1], (110, x), q11.2)
          refine mj_gcp hC 2 ?_
          show P (231, [some (.ref 68), some (.int q11.1), none], [], (110, x), q11.2)
          exact mj_less hC (L0 := [some (.ref 68), some (.int q11.1), none]) (And.intro rfl (And.intro rfl trivial)) (md_lineRead_j231_x hC hd h hR)
        · rw [if_neg c10] at h
          refine mj_psw (fun c12 => ?_) (fun c12 => ?_)
          · rw [if_pos c12] at h
            refine mj_gcp hC 1 ?_
            show P (85, [some (.ref 68), none, none], [.ref 68], (110, x), m)
            obtain ⟨q13, eq13, h⟩ := mj_bnd h
            refine mj_pcall hC rfl (md_workLine_x (Nat.le_trans (by decide) hd) eq13) ?_
            show P (88, [some (.ref 68), none, none], [.int q13.1], (110, x), q13.2)
            refine mj_gcp hC 2 ?_
            show P (231, [some (.ref 68), some (.int q13.1), none], [], (110, x), q13.2)
            exact mj_less hC (L0 := [some (.ref 68), some (.int q13.1), none]) (And.intro rfl (And.intro rfl trivial)) (md_lineRead_j231_x hC hd h hR)
          · rw [if_neg c12] at h
            refine mj_psw (fun c14 => ?_) (fun c14 => ?_)
            · rw [if_pos c14] at h
              refine mj_gcp hC 1 ?_
              show P (93, [some (.ref 68), none, none], [.ref 68], (110, x), m)
              obtain ⟨q15, eq15, h⟩ := mj_bnd h
              refine mj_pcall hC rfl (md_speedLine_x (Nat.le_trans (by decide) hd) eq15) ?_
              show P (96, [some (.ref 68), none, none], [.int q15.1], (110, x), q15.2)
              refine mj_gcp hC 2 ?_
              show P (231, [some (.ref 68), some (.int q15.1), none], [], (110, x), q15.2)
              exact mj_less hC (L0 := [some (.ref 68), some (.int q15.1), none]) (And.intro rfl (And.intro rfl trivial)) (md_lineRead_j231_x hC hd h hR)
            · rw [if_neg c14] at h
              refine mj_psw (fun c16 => ?_) (fun c16 => ?_)
              · rw [if_pos c16] at h
                refine mj_gcp hC 3 ?_
                show P (105, [some (.ref 68), none, none], [.int 999, .int 0, .ref 68], (110, x), m)
                obtain ⟨q17, eq17, h⟩ := mj_bnd h
                refine mj_pcall hC rfl (md_onceLine_x (Nat.le_trans (by decide) hd) eq17) ?_
                show P (108, [some (.ref 68), none, none], [.int q17.1], (110, x), q17.2)
                refine mj_gcp hC 2 ?_
                show P (231, [some (.ref 68), some (.int q17.1), none], [], (110, x), q17.2)
                exact mj_less hC (L0 := [some (.ref 68), some (.int q17.1), none]) (And.intro rfl (And.intro rfl trivial)) (md_lineRead_j231_x hC hd h hR)
              · rw [if_neg c16] at h
                refine mj_psw (fun c18 => ?_) (fun c18 => ?_)
                · rw [if_pos c18] at h
                  refine mj_gcp hC 3 ?_
                  show P (116, [some (.ref 68), none, none], [.int 100, .int 1, .ref 68], (110, x), m)
                  obtain ⟨q19, eq19, h⟩ := mj_bnd h
                  refine mj_pcall hC rfl (md_onceLine_x (Nat.le_trans (by decide) hd) eq19) ?_
                  show P (119, [some (.ref 68), none, none], [.int q19.1], (110, x), q19.2)
                  refine mj_gcp hC 2 ?_
                  show P (231, [some (.ref 68), some (.int q19.1), none], [], (110, x), q19.2)
                  exact mj_less hC (L0 := [some (.ref 68), some (.int q19.1), none]) (And.intro rfl (And.intro rfl trivial)) (md_lineRead_j231_x hC hd h hR)
                · rw [if_neg c18] at h
                  refine mj_psw (fun c20 => ?_) (fun c20 => ?_)
                  · rw [if_pos c20] at h
                    refine mj_gcp hC 3 ?_
                    show P (127, [some (.ref 68), none, none], [.int 99999, .int 2, .ref 68], (110, x), m)
                    obtain ⟨q21, eq21, h⟩ := mj_bnd h
                    refine mj_pcall hC rfl (md_onceLine_x (Nat.le_trans (by decide) hd) eq21) ?_
                    show P (130, [some (.ref 68), none, none], [.int q21.1], (110, x), q21.2)
                    refine mj_gcp hC 2 ?_
                    show P (231, [some (.ref 68), some (.int q21.1), none], [], (110, x), q21.2)
                    exact mj_less hC (L0 := [some (.ref 68), some (.int q21.1), none]) (And.intro rfl (And.intro rfl trivial)) (md_lineRead_j231_x hC hd h hR)
                  · rw [if_neg c20] at h
                    show P (134, [some (.ref 68), none, none], [], (110, x), m)
                    refine mj_gcp hC 1 ?_
                    show P (135, [some (.ref 68), none, none], [.ref 68], (110, x), m)
                    obtain ⟨q22, eq22, h⟩ := mj_bnd h
                    refine mj_pcall hC rfl (md_token_x (Nat.le_trans (by decide) hd) eq22) ?_
                    show P (138, [some (.ref 68), none, none], [], (110, x), q22)
                    refine mj_gcp hC 4 ?_
                    show P (mj_pick 146 164 ((mj_I (q22 68 8)) = 1), [some (.ref 68), none, none], [], (110, x), q22)
                    refine mj_pbr (fun c23 => ?_) (fun c23 => ?_)
                    · rw [if_pos c23] at h
                      refine mj_gcp hC 4 ?_
                      show P (mj_pick 164 155 ((mj_I (q22 68 9)) < 8), [some (.ref 68), none, none], [], (110, x), q22)
                      refine mj_pbr (fun c24 => ?_) (fun c24 => ?_)
                      · rw [if_pos c24] at h
                        exact mj_less hC (L0 := [some (.ref 68), none, none]) (And.intro rfl trivial) (md_lineRead_j164_x hC hd h hR)
                      · rw [if_neg c24] at h
                        refine mj_gcp hC 4 ?_
                        show P (mj_pick 170 164 ((mj_I (q22 68 9)) ≤ 10), [some (.ref 68), none, none], [], (110, x), q22)
                        refine mj_pbr (fun c27 => ?_) (fun c27 => ?_)
                        · rw [if_pos c27] at h
                          obtain ⟨k28, h⟩ := mj_ifn h
                          refine mj_gcp hC 12 ?_
                          show _ ∧ (P (mj_pick 195 189 ((mj_I (q22 83 (((3 : Int32) + (mj_I (q22 68 9))) - 8).toNatClampNeg)) = 0), [some (.ref 68), none, some (.int (((3 : Int32) + (mj_I (q22 68 9))) - 8))], [], (110, x), q22))
                          refine And.intro k28 (?_)
                          refine mj_pbr (fun c29 => ?_) (fun c29 => ?_)
                          · rw [if_pos c29] at h
                            obtain ⟨k30, h⟩ := mj_ifn h
                            refine mj_gcp hC 6 ?_
                            show _ ∧ (P (203, [some (.ref 68), none, some (.int (((3 : Int32) + (mj_I (q22 68 9))) - 8))], [.ref 68], (110, x), (mj_up q22 83 (((3 : Int32) + (mj_I (q22 68 9))) - 8).toNatClampNeg (.int (1 &&& 1)))))
                            refine And.intro k30 (?_)
                            obtain ⟨q31, eq31, h⟩ := mj_bnd h
                            refine mj_pcall hC rfl (md_token_x (Nat.le_trans (by decide) hd) eq31) ?_
                            show P (206, [some (.ref 68), none, some (.int (((3 : Int32) + (mj_I (q22 68 9))) - 8))], [], (110, x), q31)
                            obtain ⟨k32, h⟩ := mj_ifn h
                            refine mj_gcp hC 7 ?_
                            show _ ∧ (P (217, [some (.ref 68), none, some (.int (((3 : Int32) + (mj_I (q22 68 9))) - 8))], [.ref 68], (110, x), (mj_up q31 84 (((3 : Int32) + (mj_I (q22 68 9))) - 8).toNatClampNeg (.int (mj_I (q31 68 21))))))
                            refine And.intro k32 (?_)
                            obtain ⟨q33, eq33, h⟩ := mj_bnd h
                            refine mj_pcall hC rfl (md_sumRead_x (Nat.le_trans (by decide) hd) eq33) ?_
                            show P (220, [some (.ref 68), none, some (.int (((3 : Int32) + (mj_I (q22 68 9))) - 8))], [.int q33.1], (110, x), q33.2)
                            obtain ⟨k34, h⟩ := mj_ifn h
                            refine mj_gcp hC 7 ?_
                            show _ ∧ (P (231, [some (.ref 68), some (.int q33.1), some (.int (((3 : Int32) + (mj_I (q22 68 9))) - 8))], [], (110, x), (mj_up q33.2 85 (((3 : Int32) + (mj_I (q22 68 9))) - 8).toNatClampNeg (.int (mj_I (q33.2 68 21))))))
                            refine And.intro k34 (?_)
                            exact mj_less hC (L0 := [some (.ref 68), some (.int q33.1), none]) (And.intro rfl (And.intro rfl trivial)) (md_lineRead_j231_x hC hd h hR)
                          · rw [if_neg c29] at h
                            refine mj_gcp hC 2 ?_
                            show P (191, [some (.ref 68), none, some (.int (((3 : Int32) + (mj_I (q22 68 9))) - 8))], [.int 3, .ref 68], (110, x), q22)
                            obtain ⟨q35, eq35, h⟩ := mj_bnd h
                            refine mj_pcall hC rfl (md_wrong_x (Nat.le_trans (by decide) hd) eq35) ?_
                            show P (194, [some (.ref 68), none, some (.int (((3 : Int32) + (mj_I (q22 68 9))) - 8))], [.int q35.1], (110, x), q35.2)
                            obtain ⟨k36, h⟩ := mj_ifs h
                            cases h
                            exact mj_pretZ hC rfl k36 hR
                        · rw [if_neg c27] at h
                          exact mj_less hC (L0 := [some (.ref 68), none, none]) (And.intro rfl trivial) (md_lineRead_j164_x hC hd h hR)
                    · rw [if_neg c23] at h
                      exact mj_less hC (L0 := [some (.ref 68), none, none]) (And.intro rfl trivial) (md_lineRead_j164_x hC hd h hR)
    · rw [if_neg c2] at h
      exact mj_less hC (L0 := [some (.ref 68), none, none]) (And.intro rfl trivial) (md_lineRead_j17_x hC hd h hR)
  · rw [if_neg c1] at h
    exact mj_less hC (L0 := [some (.ref 68), none, none]) (And.intro rfl trivial) (md_lineRead_j17_x hC hd h hR)
set_option maxRecDepth 20000 in
theorem md_lineRead_x {Ls tp ip x d : Nat} {Z : mj_X} (hd : 5 ≤ d)  {m : mj_M} {r : (Int32 × mj_M)} (h : md_lineRead m = some r) : mj_Ex false (mj_sh Ls) (mj_rf tp ip) Z d 179 [.ref 68] (110, x) m (some (.int r.1)) (110, x) r.2 := by
  exact mj_Ex_of (cd := mj_cd_179) (L := [some (.ref 68), none, none]) (by omega) (by decide) rfl (Nat.le_of_ble_eq_true rfl) rfl (fun P hC => md_lineRead_p hC (by omega) h ⟨rfl, rfl, rfl⟩)
def md_text_l55   (s55 : (Int32 × mj_M)) : Option (Nat × (Int32 × mj_M)) :=
  (if (mj_I (s55.2 68 8)) = 0 then some (2, (s55.1, s55.2)) else
  (md_lineRead s55.2).bind fun q6 =>
  (if q6.1 = 0 then some (1, (s55.1, q6.2)) else
  some (0, ((s55.1 + 1), q6.2))))
def md_text  (v1 : Int32) (m : mj_M) : Option (Int32 × mj_M) :=
  (if v1 < 0 then some ((-2), (mj_up m 68 2 (.int 0))) else
  (if v1 ≤ (mj_I (m 68 1)) then (md_plain (mj_up (mj_up (mj_up (mj_up (mj_up (mj_up m 68 2 (.int 0)) 68 6 (.int v1)) 68 1 (.int 0)) 68 4 (.int 0)) 68 5 (.int (-1))) 68 7 (.int 0))).bind fun q3 =>
  (md_token q3).bind fun q4 =>
  (mj_loop (md_text_l55) mj_F (0, q4)).bind fun q8 =>
  (if q8.1 = 0 then some ((-1), q8.2.2) else (md_keepText q8.2.2).bind fun q9 =>
  some (q8.2.1, q9)) else
  some ((-2), (mj_up m 68 2 (.int 0)))))
set_option maxRecDepth 20000 in
theorem md_text_l55_x {Ls tp ip x d : Nat} {Z : mj_X} {R : Option Value → mj_G → mj_M → Prop} {P : mj_K → Prop} (hC : mj_cls false (mj_sh Ls) (mj_rf tp ip) mj_dv mj_cd_180 (mj_Ex false (mj_sh Ls) (mj_rf tp ip) Z d) R P) (hd : 5 ≤ d)  (s55 : (Int32 × mj_M)) {t : Nat} {w : (Int32 × mj_M)} (h : md_text_l55 s55 = some (t, w)) (h0 : t = 0 → P (55, [some (.ref 68), none, some (.int w.1)], [], (110, x), w.2)) (h1 : t = 1 → P (69, [none, none, none], [], (110, x), w.2)) (h2 : t = 2 → P (77, [some (.ref 68), none, some (.int w.1)], [], (110, x), w.2)) : P (55, [some (.ref 68), none, some (.int s55.1)], [], (110, x), s55.2) := by
  unfold md_text_l55 at h
  refine mj_gcp hC 3 ?_
  show P (mj_pick 77 62 ((mj_I (s55.2 68 8)) = 0), [some (.ref 68), none, some (.int s55.1)], [], (110, x), s55.2)
  refine mj_pbr (fun c5 => ?_) (fun c5 => ?_)
  · rw [if_pos c5] at h
    cases h
    exact mj_less hC (L0 := [some (.ref 68), none, some (.int s55.1)]) (And.intro rfl (And.intro rfl trivial)) (h2 rfl)
  · rw [if_neg c5] at h
    refine mj_gcp hC 1 ?_
    show P (63, [some (.ref 68), none, some (.int s55.1)], [.ref 68], (110, x), s55.2)
    obtain ⟨q6, eq6, h⟩ := mj_bnd h
    refine mj_pcall hC rfl (md_lineRead_x (Nat.le_trans (by decide) hd) eq6) ?_
    show P (66, [some (.ref 68), none, some (.int s55.1)], [.int q6.1], (110, x), q6.2)
    refine mj_gcp hC 1 ?_
    show P (mj_pick 69 71 (q6.1 = 0), [some (.ref 68), none, some (.int s55.1)], [], (110, x), q6.2)
    refine mj_pbr (fun c7 => ?_) (fun c7 => ?_)
    · rw [if_pos c7] at h
      cases h
      exact mj_less hC (L0 := [none, none, none]) trivial (h1 rfl)
    · rw [if_neg c7] at h
      refine mj_gcp hC 2 ?_
      show P (55, [some (.ref 68), none, some (.int (s55.1 + 1))], [], (110, x), q6.2)
      cases h
      exact mj_less hC (L0 := [some (.ref 68), none, some (.int (s55.1 + 1))]) (And.intro rfl (And.intro rfl trivial)) (h0 rfl)
set_option maxRecDepth 20000 in
theorem md_text_p {Ls tp ip x d : Nat} {Z : mj_X} {R : Option Value → mj_G → mj_M → Prop} {P : mj_K → Prop} (hC : mj_cls false (mj_sh Ls) (mj_rf tp ip) mj_dv mj_cd_180 (mj_Ex false (mj_sh Ls) (mj_rf tp ip) Z d) R P) (hd : 5 ≤ d) {v1 : Int32} {m : mj_M} {r : (Int32 × mj_M)} (h : md_text v1 m = some r) (hR : R (some (.int r.1)) (110, x) r.2) : P (0, [some (.ref 68), some (.int v1), none], [], (110, x), m) := by
  unfold md_text at h
  refine mj_gcp hC 5 ?_
  show P (mj_pick 17 9 (v1 < 0), [some (.ref 68), some (.int v1), none], [], (110, x), (mj_up m 68 2 (.int 0)))
  refine mj_pbr (fun c1 => ?_) (fun c1 => ?_)
  · rw [if_pos c1] at h
    refine mj_gcp hC 1 ?_
    show P (19, [some (.ref 68), some (.int v1), none], [.int (-2)], (110, x), (mj_up m 68 2 (.int 0)))
    cases h
    exact mj_pret hC rfl hR
  · rw [if_neg c1] at h
    refine mj_gcp hC 4 ?_
    show P (mj_pick 20 17 (v1 ≤ (mj_I (m 68 1))), [some (.ref 68), some (.int v1), none], [], (110, x), (mj_up m 68 2 (.int 0)))
    refine mj_pbr (fun c2 => ?_) (fun c2 => ?_)
    · rw [if_pos c2] at h
      refine mj_gcp hC 16 ?_
      show P (46, [some (.ref 68), some (.int v1), none], [.ref 68], (110, x), (mj_up (mj_up (mj_up (mj_up (mj_up (mj_up m 68 2 (.int 0)) 68 6 (.int v1)) 68 1 (.int 0)) 68 4 (.int 0)) 68 5 (.int (-1))) 68 7 (.int 0)))
      obtain ⟨q3, eq3, h⟩ := mj_bnd h
      refine mj_pcall hC rfl (md_plain_x (Nat.le_trans (by decide) hd) eq3) ?_
      show P (49, [some (.ref 68), some (.int v1), none], [], (110, x), q3)
      refine mj_gcp hC 1 ?_
      show P (50, [some (.ref 68), some (.int v1), none], [.ref 68], (110, x), q3)
      obtain ⟨q4, eq4, h⟩ := mj_bnd h
      refine mj_pcall hC rfl (md_token_x (Nat.le_trans (by decide) hd) eq4) ?_
      show P (53, [some (.ref 68), some (.int v1), none], [], (110, x), q4)
      refine mj_gcp hC 2 ?_
      show P (55, [some (.ref 68), some (.int v1), some (.int 0)], [], (110, x), q4)
      obtain ⟨q8, eq8, h⟩ := mj_bnd h
      refine mj_less hC (L0 := [some (.ref 68), none, some (.int 0)]) (And.intro rfl (And.intro rfl trivial)) ?_
      refine mj_loop_P (A := fun z55 => P (55, [some (.ref 68), none, some (.int z55.1)], [], (110, x), z55.2)) (E := fun j z55 => (j = 0 → P (69, [none, none, none], [], (110, x), z55.2)) ∧ (¬ j = 0 → P (77, [some (.ref 68), none, some (.int z55.1)], [], (110, x), z55.2))) (fun zz t w hb h0 h1 => md_text_l55_x hC hd zz hb h0 (fun ht => (h1 0 ht).1 rfl) (fun ht => (h1 1 ht).2 (by decide))) mj_F _ q8 eq8 ⟨fun hj => ?_, fun hj => ?_⟩
      · rw [if_pos hj] at h
        refine mj_gcp hC 1 ?_
        show P (70, [none, none, none], [.int (-1)], (110, x), q8.2.2)
        cases h
        exact mj_pret hC rfl hR
      · rw [if_neg hj] at h
        refine mj_gcp hC 1 ?_
        show P (78, [some (.ref 68), none, some (.int q8.2.1)], [.ref 68], (110, x), q8.2.2)
        obtain ⟨q9, eq9, h⟩ := mj_bnd h
        refine mj_pcall hC rfl (md_keepText_x (Nat.le_trans (by decide) hd) eq9) ?_
        show P (81, [some (.ref 68), none, some (.int q8.2.1)], [], (110, x), q9)
        refine mj_gcp hC 1 ?_
        show P (82, [some (.ref 68), none, some (.int q8.2.1)], [.int q8.2.1], (110, x), q9)
        cases h
        exact mj_pret hC rfl hR
    · rw [if_neg c2] at h
      refine mj_gcp hC 1 ?_
      show P (19, [some (.ref 68), some (.int v1), none], [.int (-2)], (110, x), (mj_up m 68 2 (.int 0)))
      cases h
      exact mj_pret hC rfl hR
set_option maxRecDepth 20000 in
theorem md_text_x {Ls tp ip x d : Nat} {Z : mj_X} (hd : 6 ≤ d) {v1 : Int32} {m : mj_M} {r : (Int32 × mj_M)} (h : md_text v1 m = some r) : mj_Ex false (mj_sh Ls) (mj_rf tp ip) Z d 180 [.ref 68, .int v1] (110, x) m (some (.int r.1)) (110, x) r.2 := by
  exact mj_Ex_of (cd := mj_cd_180) (L := [some (.ref 68), some (.int v1), none]) (by omega) (by decide) rfl (Nat.le_of_ble_eq_true rfl) rfl (fun P hC => md_text_p hC (by omega) h ⟨rfl, rfl, rfl⟩)
def bp_law_j77 (tp : Nat) (v1 : Int32) (v3 : Int32) (v4 : Int32)  (m : mj_M) : Option (Int64 × mj_M) :=
  (ck_plainBeat tp 42 m).bind fun q3 =>
  (ck_name tp 42 q3 v3 v4 m).bind fun q4 =>
  (rk_value tp v1 q4).bind fun q5 =>
  some (q5.1, q5.2)
def bp_law (tp : Nat) (v1 : Int32) (v2 : Int32) (m : mj_M) : Option (Int64 × mj_M) :=
  (if v1 = 0 then (if (to_isWork tp v2 m) = 0 then some ((-9223372036854775808), m) else
  bp_law_j77 tp v1 (fx_at m (tp + 6) v2) v2 m) else
  (if v1 = 2 then (if (to_isMan tp v2 m) = 0 then some ((-9223372036854775808), m) else
  bp_law_j77 tp v1 v2 (-1) m) else
  (if v1 = 1 then bp_law_j77 tp v1 (-1) (-1) m else
  some ((-9223372036854775808), m))))
set_option maxRecDepth 20000 in
theorem bp_law_j77_x {Ls tp ip x d : Nat} {Z : mj_X} {R : Option Value → mj_G → mj_M → Prop} {P : mj_K → Prop} (hC : mj_cls false (mj_sh Ls) (mj_rf tp ip) mj_dv mj_cd_11 (mj_Ex false (mj_sh Ls) (mj_rf tp ip) Z d) R P) (hd : 3 ≤ d) (htp : tp = 3 ∨ tp = 17) {v1 : Int32} {v3 : Int32} {v4 : Int32}  {m : mj_M} {r : (Int64 × mj_M)} (h : bp_law_j77 tp v1 v3 v4 m = some r) (hR : R (some (.long r.1)) (110, x) r.2) : P (77, [some (.ref 1), some (.int v1), none, some (.int v3), some (.int v4)], [], (110, x), m) := by
  unfold bp_law_j77 at h
  rcases htp with rfl | rfl
  all_goals
    refine mj_gcp hC 8 ?_
    show P (93, [some (.ref 1), some (.int v1), none, some (.int v3), some (.int v4)], [.ref 42, .ref 37, .ref 42, .ref 37], (110, x), m)
    obtain ⟨q3, eq3, h⟩ := mj_bnd h
    refine mj_pcall hC rfl (ck_plainBeat_x (Nat.le_trans (by decide) hd) (by decide) (by decide) eq3) ?_
    show P (96, [some (.ref 1), some (.int v1), none, some (.int v3), some (.int v4)], [.int q3, .ref 42, .ref 37], (110, x), m)
    refine mj_gcp hC 2 ?_
    show P (99, [some (.ref 1), some (.int v1), none, some (.int v3), some (.int v4)], [.int v4, .int v3, .int q3, .ref 42, .ref 37], (110, x), m)
    obtain ⟨q4, eq4, h⟩ := mj_bnd h
    refine mj_pcall hC rfl (ck_name_x (Nat.le_trans (by decide) hd) (by decide) (by decide) eq4) ?_
    show P (102, [some (.ref 1), some (.int v1), none, some (.int v3), some (.int v4)], [], (110, x), q4)
    refine mj_gcp hC 6 ?_
    show P (114, [some (.ref 1), some (.int v1), none, some (.int v3), some (.int v4)], [.int v1, .ref _, .ref 38], (110, x), q4)
    obtain ⟨q5, eq5, h⟩ := mj_bnd h
    refine mj_pcall hC rfl (rk_value_x (Nat.le_trans (by decide) hd) (by decide) eq5) ?_
    show P (117, [some (.ref 1), some (.int v1), none, some (.int v3), some (.int v4)], [.long q5.1], (110, x), q5.2)
    cases h
    exact mj_pret hC rfl hR
set_option maxRecDepth 20000 in
theorem bp_law_p {Ls tp ip x d : Nat} {Z : mj_X} {R : Option Value → mj_G → mj_M → Prop} {P : mj_K → Prop} (hC : mj_cls false (mj_sh Ls) (mj_rf tp ip) mj_dv mj_cd_11 (mj_Ex false (mj_sh Ls) (mj_rf tp ip) Z d) R P) (hd : 3 ≤ d) (htp : tp = 3 ∨ tp = 17) {v1 : Int32} {v2 : Int32} {m : mj_M} {r : (Int64 × mj_M)} (h : bp_law tp v1 v2 m = some r) (hR : R (some (.long r.1)) (110, x) r.2) : P (0, [some (.ref 1), some (.int v1), some (.int v2), none, none], [], (110, x), m) := by
  unfold bp_law at h
  rcases htp with rfl | rfl
  all_goals
    refine mj_gcp hC 6 ?_
    show P (mj_pick 9 43 (v1 = 0), [some (.ref 1), some (.int v1), some (.int v2), some (.int (-1)), some (.int (-1))], [], (110, x), m)
    refine mj_pbr (fun c1 => ?_) (fun c1 => ?_)
    · rw [if_pos c1] at h
      refine mj_gcp hC 3 ?_
      show P (14, [some (.ref 1), some (.int v1), some (.int v2), some (.int (-1)), some (.int (-1))], [.int v2, .ref _], (110, x), m)
      refine mj_pcall hC rfl (to_isWork_x (Nat.le_trans (by decide) hd) (by decide)) ?_
      show P (17, [some (.ref 1), some (.int v1), some (.int v2), some (.int (-1)), some (.int (-1))], [.int (to_isWork _ v2 m)], (110, x), m)
      refine mj_gcp hC 1 ?_
      show P (mj_pick 20 24 ((to_isWork _ v2 m) = 0), [some (.ref 1), some (.int v1), some (.int v2), some (.int (-1)), some (.int (-1))], [], (110, x), m)
      refine mj_pbr (fun c2 => ?_) (fun c2 => ?_)
      · rw [if_pos c2] at h
        refine mj_gcp hC 1 ?_
        show P (23, [some (.ref 1), some (.int v1), some (.int v2), some (.int (-1)), some (.int (-1))], [.long (-9223372036854775808)], (110, x), m)
        cases h
        exact mj_pret hC rfl hR
      · rw [if_neg c2] at h
        refine mj_gcp hC 6 ?_
        show P (36, [some (.ref 1), some (.int v1), some (.int v2), some (.int (-1)), some (.int v2)], [.int v2, .ref _], (110, x), m)
        refine mj_pcall hC rfl (bp_at_x (Nat.le_trans (by decide) hd) (by decide)) ?_
        show P (39, [some (.ref 1), some (.int v1), some (.int v2), some (.int (-1)), some (.int v2)], [.int (fx_at m _ v2)], (110, x), m)
        refine mj_gcp hC 2 ?_
        show P (77, [some (.ref 1), some (.int v1), some (.int v2), some (.int (fx_at m _ v2)), some (.int v2)], [], (110, x), m)
        exact mj_less hC (L0 := [some (.ref 1), some (.int v1), none, some (.int (fx_at m _ v2)), some (.int v2)]) (And.intro rfl (And.intro rfl (And.intro rfl (And.intro rfl trivial)))) (bp_law_j77_x hC hd (by decide) h hR)
    · rw [if_neg c1] at h
      refine mj_gcp hC 3 ?_
      show P (mj_pick 48 68 (v1 = 2), [some (.ref 1), some (.int v1), some (.int v2), some (.int (-1)), some (.int (-1))], [], (110, x), m)
      refine mj_pbr (fun c6 => ?_) (fun c6 => ?_)
      · rw [if_pos c6] at h
        refine mj_gcp hC 3 ?_
        show P (53, [some (.ref 1), some (.int v1), some (.int v2), some (.int (-1)), some (.int (-1))], [.int v2, .ref _], (110, x), m)
        refine mj_pcall hC rfl (to_isMan_x (Nat.le_trans (by decide) hd) (by decide)) ?_
        show P (56, [some (.ref 1), some (.int v1), some (.int v2), some (.int (-1)), some (.int (-1))], [.int (to_isMan _ v2 m)], (110, x), m)
        refine mj_gcp hC 1 ?_
        show P (mj_pick 59 63 ((to_isMan _ v2 m) = 0), [some (.ref 1), some (.int v1), some (.int v2), some (.int (-1)), some (.int (-1))], [], (110, x), m)
        refine mj_pbr (fun c7 => ?_) (fun c7 => ?_)
        · rw [if_pos c7] at h
          refine mj_gcp hC 1 ?_
          show P (62, [some (.ref 1), some (.int v1), some (.int v2), some (.int (-1)), some (.int (-1))], [.long (-9223372036854775808)], (110, x), m)
          cases h
          exact mj_pret hC rfl hR
        · rw [if_neg c7] at h
          refine mj_gcp hC 3 ?_
          show P (77, [some (.ref 1), some (.int v1), some (.int v2), some (.int v2), some (.int (-1))], [], (110, x), m)
          exact mj_less hC (L0 := [some (.ref 1), some (.int v1), none, some (.int v2), some (.int (-1))]) (And.intro rfl (And.intro rfl (And.intro rfl (And.intro rfl trivial)))) (bp_law_j77_x hC hd (by decide) h hR)
      · rw [if_neg c6] at h
        refine mj_gcp hC 3 ?_
        show P (mj_pick 77 73 (v1 = 1), [some (.ref 1), some (.int v1), some (.int v2), some (.int (-1)), some (.int (-1))], [], (110, x), m)
        refine mj_pbr (fun c8 => ?_) (fun c8 => ?_)
        · rw [if_pos c8] at h
          exact mj_less hC (L0 := [some (.ref 1), some (.int v1), none, some (.int (-1)), some (.int (-1))]) (And.intro rfl (And.intro rfl (And.intro rfl (And.intro rfl trivial)))) (bp_law_j77_x hC hd (by decide) h hR)
        · rw [if_neg c8] at h
          refine mj_gcp hC 1 ?_
          show P (76, [some (.ref 1), some (.int v1), some (.int v2), some (.int (-1)), some (.int (-1))], [.long (-9223372036854775808)], (110, x), m)
          cases h
          exact mj_pret hC rfl hR
set_option maxRecDepth 20000 in
theorem bp_law_x {Ls tp ip x d : Nat} {Z : mj_X} (hd : 4 ≤ d) (htp : tp = 3 ∨ tp = 17) {v1 : Int32} {v2 : Int32} {m : mj_M} {r : (Int64 × mj_M)} (h : bp_law tp v1 v2 m = some r) : mj_Ex false (mj_sh Ls) (mj_rf tp ip) Z d 11 [.ref 1, .int v1, .int v2] (110, x) m (some (.long r.1)) (110, x) r.2 := by
  exact mj_Ex_of (cd := mj_cd_11) (L := [some (.ref 1), some (.int v1), some (.int v2), none, none]) (by omega) (by decide) rfl (Nat.le_of_ble_eq_true rfl) rfl (fun P hC => bp_law_p hC (by omega) htp h ⟨rfl, rfl, rfl⟩)
def bp_rests_j79l34 (tp : Nat)  (v1 : Int32) (v2 : Int32) (v3 : Int32) (v4 : Int32)  (m : mj_M) : Option (Nat × (Int32 × Int32)) :=
  some (0, (v3, (v4 + 1)))
def bp_rests_l34 (tp : Nat) (v1 : Int32) (v2 : Int32) (m : mj_M) (s34 : (Int32 × Int32)) : Option (Nat × (Int32 × Int32)) :=
  (if 4 ≤ s34.2 then some (1, (s34.1, s34.2)) else
  (if (bp_isRest (fx_at m (tp + 2) v1) (fx_at m (tp + 2) v2) (s34.2 >>> (1 &&& 31)) (s34.2 &&& 1) m) = 0 then bp_rests_j79l34 tp v1 v2 s34.1 s34.2 m else
  bp_rests_j79l34 tp v1 v2 (s34.1 + 1) s34.2 m))
def bp_rests (tp : Nat) (v1 : Int32) (v2 : Int32) (m : mj_M) : Option Int32 :=
  (if (to_isMan tp v1 m) = 0 then some (-1) else
  (if (to_isMan tp v2 m) = 0 then some (-1) else
  (if v1 = v2 then some (-1) else
  (mj_loop (bp_rests_l34 tp v1 v2 m) mj_F (0, 0)).bind fun q6 =>
  some q6.2.1)))
set_option maxRecDepth 20000 in
theorem bp_rests_j79l34_x {Ls tp ip x d : Nat} {Z : mj_X} {R : Option Value → mj_G → mj_M → Prop} {P : mj_K → Prop} (hC : mj_cls false (mj_sh Ls) (mj_rf tp ip) mj_dv mj_cd_28 (mj_Ex false (mj_sh Ls) (mj_rf tp ip) Z d) R P) (hd : 3 ≤ d) (htp : tp = 3 ∨ tp = 17)  {v1 : Int32} {v2 : Int32} {v3 : Int32} {v4 : Int32}  {m : mj_M} {t : Nat} {w : (Int32 × Int32)} (h : bp_rests_j79l34 tp  v1 v2 v3 v4 m = some (t, w)) (h0 : t = 0 → P (34, [some (.ref 1), some (.int v1), some (.int v2), some (.int w.1), some (.int w.2)], [], (110, x), m)) (h1 : t = 1 → P (85, [none, none, none, some (.int w.1), none], [], (110, x), m)) : P (79, [some (.ref 1), some (.int v1), some (.int v2), some (.int v3), some (.int v4)], [], (110, x), m) := by
  unfold bp_rests_j79l34 at h
  rcases htp with rfl | rfl
  all_goals
    refine mj_gcp hC 2 ?_
    show P (34, [some (.ref 1), some (.int v1), some (.int v2), some (.int v3), some (.int (v4 + 1))], [], (110, x), m)
    cases h
    exact mj_less hC (L0 := [some (.ref 1), some (.int v1), some (.int v2), some (.int v3), some (.int (v4 + 1))]) (And.intro rfl (And.intro rfl (And.intro rfl (And.intro rfl (And.intro rfl trivial))))) (h0 rfl)
set_option maxRecDepth 20000 in
theorem bp_rests_l34_x {Ls tp ip x d : Nat} {Z : mj_X} {R : Option Value → mj_G → mj_M → Prop} {P : mj_K → Prop} (hC : mj_cls false (mj_sh Ls) (mj_rf tp ip) mj_dv mj_cd_28 (mj_Ex false (mj_sh Ls) (mj_rf tp ip) Z d) R P) (hd : 3 ≤ d) (htp : tp = 3 ∨ tp = 17) {v1 : Int32} {v2 : Int32} {m : mj_M} (s34 : (Int32 × Int32)) {t : Nat} {w : (Int32 × Int32)} (h : bp_rests_l34 tp v1 v2 m s34 = some (t, w)) (h0 : t = 0 → P (34, [some (.ref 1), some (.int v1), some (.int v2), some (.int w.1), some (.int w.2)], [], (110, x), m)) (h1 : t = 1 → P (85, [none, none, none, some (.int w.1), none], [], (110, x), m)) : P (34, [some (.ref 1), some (.int v1), some (.int v2), some (.int s34.1), some (.int s34.2)], [], (110, x), m) := by
  unfold bp_rests_l34 at h
  rcases htp with rfl | rfl
  all_goals
    refine mj_gcp hC 3 ?_
    show P (mj_pick 85 40 (4 ≤ s34.2), [some (.ref 1), some (.int v1), some (.int v2), some (.int s34.1), some (.int s34.2)], [], (110, x), m)
    refine mj_pbr (fun c4 => ?_) (fun c4 => ?_)
    · rw [if_pos c4] at h
      cases h
      exact mj_less hC (L0 := [none, none, none, some (.int s34.1), none]) (And.intro rfl trivial) (h1 rfl)
    · rw [if_neg c4] at h
      refine mj_gcp hC 4 ?_
      show P (48, [some (.ref 1), some (.int v1), some (.int v2), some (.int s34.1), some (.int s34.2)], [.int v1, .ref _], (110, x), m)
      refine mj_pcall hC rfl (bp_at_x (Nat.le_trans (by decide) hd) (by decide)) ?_
      show P (51, [some (.ref 1), some (.int v1), some (.int v2), some (.int s34.1), some (.int s34.2)], [.int (fx_at m _ v1)], (110, x), m)
      refine mj_gcp hC 4 ?_
      show P (59, [some (.ref 1), some (.int v1), some (.int v2), some (.int s34.1), some (.int s34.2)], [.int v2, .ref _, .int (fx_at m _ v1)], (110, x), m)
      refine mj_pcall hC rfl (bp_at_x (Nat.le_trans (by decide) hd) (by decide)) ?_
      show P (62, [some (.ref 1), some (.int v1), some (.int v2), some (.int s34.1), some (.int s34.2)], [.int (fx_at m _ v2), .int (fx_at m _ v1)], (110, x), m)
      refine mj_gcp hC 6 ?_
      show P (70, [some (.ref 1), some (.int v1), some (.int v2), some (.int s34.1), some (.int s34.2)], [.int (s34.2 &&& 1), .int (s34.2 >>> (1 &&& 31)), .int (fx_at m _ v2), .int (fx_at m _ v1)], (110, x), m)
      refine mj_pcall hC rfl (bp_isRest_x (Nat.le_trans (by decide) hd)) ?_
      show P (73, [some (.ref 1), some (.int v1), some (.int v2), some (.int s34.1), some (.int s34.2)], [.int (bp_isRest (fx_at m _ v1) (fx_at m _ v2) (s34.2 >>> (1 &&& 31)) (s34.2 &&& 1) m)], (110, x), m)
      refine mj_gcp hC 1 ?_
      show P (mj_pick 79 76 ((bp_isRest (fx_at m _ v1) (fx_at m _ v2) (s34.2 >>> (1 &&& 31)) (s34.2 &&& 1) m) = 0), [some (.ref 1), some (.int v1), some (.int v2), some (.int s34.1), some (.int s34.2)], [], (110, x), m)
      refine mj_pbr (fun c5 => ?_) (fun c5 => ?_)
      · rw [if_pos c5] at h
        exact mj_less hC (L0 := [some (.ref 1), some (.int v1), some (.int v2), some (.int s34.1), some (.int s34.2)]) (And.intro rfl (And.intro rfl (And.intro rfl (And.intro rfl (And.intro rfl trivial))))) (bp_rests_j79l34_x hC hd (by decide) h h0 h1)
      · rw [if_neg c5] at h
        refine mj_gcp hC 1 ?_
        show P (79, [some (.ref 1), some (.int v1), some (.int v2), some (.int (s34.1 + 1)), some (.int s34.2)], [], (110, x), m)
        exact mj_less hC (L0 := [some (.ref 1), some (.int v1), some (.int v2), some (.int (s34.1 + 1)), some (.int s34.2)]) (And.intro rfl (And.intro rfl (And.intro rfl (And.intro rfl (And.intro rfl trivial))))) (bp_rests_j79l34_x hC hd (by decide) h h0 h1)
set_option maxRecDepth 20000 in
theorem bp_rests_p {Ls tp ip x d : Nat} {Z : mj_X} {R : Option Value → mj_G → mj_M → Prop} {P : mj_K → Prop} (hC : mj_cls false (mj_sh Ls) (mj_rf tp ip) mj_dv mj_cd_28 (mj_Ex false (mj_sh Ls) (mj_rf tp ip) Z d) R P) (hd : 3 ≤ d) (htp : tp = 3 ∨ tp = 17) {v1 : Int32} {v2 : Int32} {m : mj_M} {r : Int32} (h : bp_rests tp v1 v2 m = some r) (hR : R (some (.int r)) (110, x) m) : P (0, [some (.ref 1), some (.int v1), some (.int v2), none, none], [], (110, x), m) := by
  unfold bp_rests at h
  rcases htp with rfl | rfl
  all_goals
    refine mj_gcp hC 3 ?_
    show P (5, [some (.ref 1), some (.int v1), some (.int v2), none, none], [.int v1, .ref _], (110, x), m)
    refine mj_pcall hC rfl (to_isMan_x (Nat.le_trans (by decide) hd) (by decide)) ?_
    show P (8, [some (.ref 1), some (.int v1), some (.int v2), none, none], [.int (to_isMan _ v1 m)], (110, x), m)
    refine mj_gcp hC 1 ?_
    show P (mj_pick 27 11 ((to_isMan _ v1 m) = 0), [some (.ref 1), some (.int v1), some (.int v2), none, none], [], (110, x), m)
    refine mj_pbr (fun c1 => ?_) (fun c1 => ?_)
    · rw [if_pos c1] at h
      refine mj_gcp hC 1 ?_
      show P (28, [some (.ref 1), some (.int v1), some (.int v2), none, none], [.int (-1)], (110, x), m)
      cases h
      exact mj_pret hC rfl hR
    · rw [if_neg c1] at h
      refine mj_gcp hC 3 ?_
      show P (16, [some (.ref 1), some (.int v1), some (.int v2), none, none], [.int v2, .ref _], (110, x), m)
      refine mj_pcall hC rfl (to_isMan_x (Nat.le_trans (by decide) hd) (by decide)) ?_
      show P (19, [some (.ref 1), some (.int v1), some (.int v2), none, none], [.int (to_isMan _ v2 m)], (110, x), m)
      refine mj_gcp hC 1 ?_
      show P (mj_pick 27 22 ((to_isMan _ v2 m) = 0), [some (.ref 1), some (.int v1), some (.int v2), none, none], [], (110, x), m)
      refine mj_pbr (fun c2 => ?_) (fun c2 => ?_)
      · rw [if_pos c2] at h
        refine mj_gcp hC 1 ?_
        show P (28, [some (.ref 1), some (.int v1), some (.int v2), none, none], [.int (-1)], (110, x), m)
        cases h
        exact mj_pret hC rfl hR
      · rw [if_neg c2] at h
        refine mj_gcp hC 3 ?_
        show P (mj_pick 27 29 (v1 = v2), [some (.ref 1), some (.int v1), some (.int v2), none, none], [], (110, x), m)
        refine mj_pbr (fun c3 => ?_) (fun c3 => ?_)
        · rw [if_pos c3] at h
          refine mj_gcp hC 1 ?_
          show P (28, [some (.ref 1), some (.int v1), some (.int v2), none, none], [.int (-1)], (110, x), m)
          cases h
          exact mj_pret hC rfl hR
        · rw [if_neg c3] at h
          refine mj_gcp hC 4 ?_
          show P (34, [some (.ref 1), some (.int v1), some (.int v2), some (.int 0), some (.int 0)], [], (110, x), m)
          obtain ⟨q6, eq6, h⟩ := mj_bnd h
          refine mj_less hC (L0 := [some (.ref 1), some (.int v1), some (.int v2), some (.int 0), some (.int 0)]) (And.intro rfl (And.intro rfl (And.intro rfl (And.intro rfl (And.intro rfl trivial))))) ?_
          refine mj_loop_P (A := fun z34 => P (34, [some (.ref 1), some (.int v1), some (.int v2), some (.int z34.1), some (.int z34.2)], [], (110, x), m)) (E := fun _ z34 => P (85, [none, none, none, some (.int z34.1), none], [], (110, x), m)) (fun zz t w hb h0 h1 => bp_rests_l34_x hC hd (by decide) zz hb h0 (fun ht => h1 0 ht)) mj_F _ q6 eq6 ?_
          refine mj_gcp hC 1 ?_
          show P (86, [none, none, none, some (.int q6.2.1), none], [.int q6.2.1], (110, x), m)
          cases h
          exact mj_pret hC rfl hR
set_option maxRecDepth 20000 in
theorem bp_rests_x {Ls tp ip x d : Nat} {Z : mj_X} (hd : 4 ≤ d) (htp : tp = 3 ∨ tp = 17) {v1 : Int32} {v2 : Int32} {m : mj_M} {r : Int32} (h : bp_rests tp v1 v2 m = some r) : mj_Ex false (mj_sh Ls) (mj_rf tp ip) Z d 28 [.ref 1, .int v1, .int v2] (110, x) m (some (.int r)) (110, x) m := by
  exact mj_Ex_of (cd := mj_cd_28) (L := [some (.ref 1), some (.int v1), some (.int v2), none, none]) (by omega) (by decide) rfl (Nat.le_of_ble_eq_true rfl) rfl (fun P hC => bp_rests_p hC (by omega) htp h ⟨rfl, rfl, rfl⟩)
def bp_rest_j103l39 (tp : Nat)  (v1 : Int32) (v2 : Int32) (v3 : Int32) (v4 : Int32) (v5 : Int32)  (m : mj_M) : Option (Nat × (Int32 × Int32)) :=
  some (0, (v4, (v5 + 1)))
def bp_rest_l39 (tp : Nat) (v1 : Int32) (v2 : Int32) (v3 : Int32) (m : mj_M) (s39 : (Int32 × Int32)) : Option (Nat × (Int32 × Int32)) :=
  (if 4 ≤ s39.2 then some (2, (s39.1, s39.2)) else
  (if (bp_isRest (fx_at m (tp + 2) v1) (fx_at m (tp + 2) v2) (s39.2 >>> (1 &&& 31)) (s39.2 &&& 1) m) = 0 then bp_rest_j103l39 tp v1 v2 v3 s39.1 s39.2 m else
  (if s39.1 = v3 then some (1, (s39.1, s39.2)) else
  bp_rest_j103l39 tp v1 v2 v3 (s39.1 + 1) s39.2 m)))
def bp_rest (tp : Nat) (v1 : Int32) (v2 : Int32) (v3 : Int32) (m : mj_M) : Option Int32 :=
  (if (to_isMan tp v1 m) = 0 then some (-1) else
  (if (to_isMan tp v2 m) = 0 then some (-1) else
  (if v1 = v2 then some (-1) else
  (if 0 ≤ v3 then (mj_loop (bp_rest_l39 tp v1 v2 v3 m) mj_F (0, 0)).bind fun q8 =>
  (if q8.1 = 0 then some (((10 : Int32) * (q8.2.2 >>> (1 &&& 31))) + (q8.2.2 &&& 1)) else some (-2)) else
  some (-1)))))
set_option maxRecDepth 20000 in
theorem bp_rest_j103l39_x {Ls tp ip x d : Nat} {Z : mj_X} {R : Option Value → mj_G → mj_M → Prop} {P : mj_K → Prop} (hC : mj_cls false (mj_sh Ls) (mj_rf tp ip) mj_dv mj_cd_29 (mj_Ex false (mj_sh Ls) (mj_rf tp ip) Z d) R P) (hd : 3 ≤ d) (htp : tp = 3 ∨ tp = 17)  {v1 : Int32} {v2 : Int32} {v3 : Int32} {v4 : Int32} {v5 : Int32}  {m : mj_M} {t : Nat} {w : (Int32 × Int32)} (h : bp_rest_j103l39 tp  v1 v2 v3 v4 v5 m = some (t, w)) (h0 : t = 0 → P (39, [some (.ref 1), some (.int v1), some (.int v2), some (.int v3), some (.int w.1), some (.int w.2)], [], (110, x), m)) (h1 : t = 1 → P (87, [none, none, none, none, none, some (.int w.2)], [], (110, x), m)) (h2 : t = 2 → P (109, [none, none, none, none, none, none], [], (110, x), m)) : P (103, [some (.ref 1), some (.int v1), some (.int v2), some (.int v3), some (.int v4), some (.int v5)], [], (110, x), m) := by
  unfold bp_rest_j103l39 at h
  rcases htp with rfl | rfl
  all_goals
    refine mj_gcp hC 2 ?_
    show P (39, [some (.ref 1), some (.int v1), some (.int v2), some (.int v3), some (.int v4), some (.int (v5 + 1))], [], (110, x), m)
    cases h
    exact mj_less hC (L0 := [some (.ref 1), some (.int v1), some (.int v2), some (.int v3), some (.int v4), some (.int (v5 + 1))]) (And.intro rfl (And.intro rfl (And.intro rfl (And.intro rfl (And.intro rfl (And.intro rfl trivial)))))) (h0 rfl)
set_option maxRecDepth 20000 in
theorem bp_rest_l39_x {Ls tp ip x d : Nat} {Z : mj_X} {R : Option Value → mj_G → mj_M → Prop} {P : mj_K → Prop} (hC : mj_cls false (mj_sh Ls) (mj_rf tp ip) mj_dv mj_cd_29 (mj_Ex false (mj_sh Ls) (mj_rf tp ip) Z d) R P) (hd : 3 ≤ d) (htp : tp = 3 ∨ tp = 17) {v1 : Int32} {v2 : Int32} {v3 : Int32} {m : mj_M} (s39 : (Int32 × Int32)) {t : Nat} {w : (Int32 × Int32)} (h : bp_rest_l39 tp v1 v2 v3 m s39 = some (t, w)) (h0 : t = 0 → P (39, [some (.ref 1), some (.int v1), some (.int v2), some (.int v3), some (.int w.1), some (.int w.2)], [], (110, x), m)) (h1 : t = 1 → P (87, [none, none, none, none, none, some (.int w.2)], [], (110, x), m)) (h2 : t = 2 → P (109, [none, none, none, none, none, none], [], (110, x), m)) : P (39, [some (.ref 1), some (.int v1), some (.int v2), some (.int v3), some (.int s39.1), some (.int s39.2)], [], (110, x), m) := by
  unfold bp_rest_l39 at h
  rcases htp with rfl | rfl
  all_goals
    refine mj_gcp hC 3 ?_
    show P (mj_pick 109 45 (4 ≤ s39.2), [some (.ref 1), some (.int v1), some (.int v2), some (.int v3), some (.int s39.1), some (.int s39.2)], [], (110, x), m)
    refine mj_pbr (fun c5 => ?_) (fun c5 => ?_)
    · rw [if_pos c5] at h
      cases h
      exact mj_less hC (L0 := [none, none, none, none, none, none]) trivial (h2 rfl)
    · rw [if_neg c5] at h
      refine mj_gcp hC 4 ?_
      show P (53, [some (.ref 1), some (.int v1), some (.int v2), some (.int v3), some (.int s39.1), some (.int s39.2)], [.int v1, .ref _], (110, x), m)
      refine mj_pcall hC rfl (bp_at_x (Nat.le_trans (by decide) hd) (by decide)) ?_
      show P (56, [some (.ref 1), some (.int v1), some (.int v2), some (.int v3), some (.int s39.1), some (.int s39.2)], [.int (fx_at m _ v1)], (110, x), m)
      refine mj_gcp hC 4 ?_
      show P (64, [some (.ref 1), some (.int v1), some (.int v2), some (.int v3), some (.int s39.1), some (.int s39.2)], [.int v2, .ref _, .int (fx_at m _ v1)], (110, x), m)
      refine mj_pcall hC rfl (bp_at_x (Nat.le_trans (by decide) hd) (by decide)) ?_
      show P (67, [some (.ref 1), some (.int v1), some (.int v2), some (.int v3), some (.int s39.1), some (.int s39.2)], [.int (fx_at m _ v2), .int (fx_at m _ v1)], (110, x), m)
      refine mj_gcp hC 6 ?_
      show P (75, [some (.ref 1), some (.int v1), some (.int v2), some (.int v3), some (.int s39.1), some (.int s39.2)], [.int (s39.2 &&& 1), .int (s39.2 >>> (1 &&& 31)), .int (fx_at m _ v2), .int (fx_at m _ v1)], (110, x), m)
      refine mj_pcall hC rfl (bp_isRest_x (Nat.le_trans (by decide) hd)) ?_
      show P (78, [some (.ref 1), some (.int v1), some (.int v2), some (.int v3), some (.int s39.1), some (.int s39.2)], [.int (bp_isRest (fx_at m _ v1) (fx_at m _ v2) (s39.2 >>> (1 &&& 31)) (s39.2 &&& 1) m)], (110, x), m)
      refine mj_gcp hC 1 ?_
      show P (mj_pick 103 81 ((bp_isRest (fx_at m _ v1) (fx_at m _ v2) (s39.2 >>> (1 &&& 31)) (s39.2 &&& 1) m) = 0), [some (.ref 1), some (.int v1), some (.int v2), some (.int v3), some (.int s39.1), some (.int s39.2)], [], (110, x), m)
      refine mj_pbr (fun c6 => ?_) (fun c6 => ?_)
      · rw [if_pos c6] at h
        exact mj_less hC (L0 := [some (.ref 1), some (.int v1), some (.int v2), some (.int v3), some (.int s39.1), some (.int s39.2)]) (And.intro rfl (And.intro rfl (And.intro rfl (And.intro rfl (And.intro rfl (And.intro rfl trivial)))))) (bp_rest_j103l39_x hC hd (by decide) h h0 h1 h2)
      · rw [if_neg c6] at h
        refine mj_gcp hC 3 ?_
        show P (mj_pick 87 100 (s39.1 = v3), [some (.ref 1), some (.int v1), some (.int v2), some (.int v3), some (.int s39.1), some (.int s39.2)], [], (110, x), m)
        refine mj_pbr (fun c7 => ?_) (fun c7 => ?_)
        · rw [if_pos c7] at h
          cases h
          exact mj_less hC (L0 := [none, none, none, none, none, some (.int s39.2)]) (And.intro rfl trivial) (h1 rfl)
        · rw [if_neg c7] at h
          refine mj_gcp hC 1 ?_
          show P (103, [some (.ref 1), some (.int v1), some (.int v2), some (.int v3), some (.int (s39.1 + 1)), some (.int s39.2)], [], (110, x), m)
          exact mj_less hC (L0 := [some (.ref 1), some (.int v1), some (.int v2), some (.int v3), some (.int (s39.1 + 1)), some (.int s39.2)]) (And.intro rfl (And.intro rfl (And.intro rfl (And.intro rfl (And.intro rfl (And.intro rfl trivial)))))) (bp_rest_j103l39_x hC hd (by decide) h h0 h1 h2)
set_option maxRecDepth 20000 in
theorem bp_rest_p {Ls tp ip x d : Nat} {Z : mj_X} {R : Option Value → mj_G → mj_M → Prop} {P : mj_K → Prop} (hC : mj_cls false (mj_sh Ls) (mj_rf tp ip) mj_dv mj_cd_29 (mj_Ex false (mj_sh Ls) (mj_rf tp ip) Z d) R P) (hd : 3 ≤ d) (htp : tp = 3 ∨ tp = 17) {v1 : Int32} {v2 : Int32} {v3 : Int32} {m : mj_M} {r : Int32} (h : bp_rest tp v1 v2 v3 m = some r) (hR : R (some (.int r)) (110, x) m) : P (0, [some (.ref 1), some (.int v1), some (.int v2), some (.int v3), none, none], [], (110, x), m) := by
  unfold bp_rest at h
  rcases htp with rfl | rfl
  all_goals
    refine mj_gcp hC 3 ?_
    show P (5, [some (.ref 1), some (.int v1), some (.int v2), some (.int v3), none, none], [.int v1, .ref _], (110, x), m)
    refine mj_pcall hC rfl (to_isMan_x (Nat.le_trans (by decide) hd) (by decide)) ?_
    show P (8, [some (.ref 1), some (.int v1), some (.int v2), some (.int v3), none, none], [.int (to_isMan _ v1 m)], (110, x), m)
    refine mj_gcp hC 1 ?_
    show P (mj_pick 31 11 ((to_isMan _ v1 m) = 0), [some (.ref 1), some (.int v1), some (.int v2), some (.int v3), none, none], [], (110, x), m)
    refine mj_pbr (fun c1 => ?_) (fun c1 => ?_)
    · rw [if_pos c1] at h
      refine mj_gcp hC 1 ?_
      show P (32, [some (.ref 1), some (.int v1), some (.int v2), some (.int v3), none, none], [.int (-1)], (110, x), m)
      cases h
      exact mj_pret hC rfl hR
    · rw [if_neg c1] at h
      refine mj_gcp hC 3 ?_
      show P (16, [some (.ref 1), some (.int v1), some (.int v2), some (.int v3), none, none], [.int v2, .ref _], (110, x), m)
      refine mj_pcall hC rfl (to_isMan_x (Nat.le_trans (by decide) hd) (by decide)) ?_
      show P (19, [some (.ref 1), some (.int v1), some (.int v2), some (.int v3), none, none], [.int (to_isMan _ v2 m)], (110, x), m)
      refine mj_gcp hC 1 ?_
      show P (mj_pick 31 22 ((to_isMan _ v2 m) = 0), [some (.ref 1), some (.int v1), some (.int v2), some (.int v3), none, none], [], (110, x), m)
      refine mj_pbr (fun c2 => ?_) (fun c2 => ?_)
      · rw [if_pos c2] at h
        refine mj_gcp hC 1 ?_
        show P (32, [some (.ref 1), some (.int v1), some (.int v2), some (.int v3), none, none], [.int (-1)], (110, x), m)
        cases h
        exact mj_pret hC rfl hR
      · rw [if_neg c2] at h
        refine mj_gcp hC 3 ?_
        show P (mj_pick 31 27 (v1 = v2), [some (.ref 1), some (.int v1), some (.int v2), some (.int v3), none, none], [], (110, x), m)
        refine mj_pbr (fun c3 => ?_) (fun c3 => ?_)
        · rw [if_pos c3] at h
          refine mj_gcp hC 1 ?_
          show P (32, [some (.ref 1), some (.int v1), some (.int v2), some (.int v3), none, none], [.int (-1)], (110, x), m)
          cases h
          exact mj_pret hC rfl hR
        · rw [if_neg c3] at h
          refine mj_gcp hC 2 ?_
          show P (mj_pick 33 31 (0 ≤ v3), [some (.ref 1), some (.int v1), some (.int v2), some (.int v3), none, none], [], (110, x), m)
          refine mj_pbr (fun c4 => ?_) (fun c4 => ?_)
          · rw [if_pos c4] at h
            refine mj_gcp hC 4 ?_
            show P (39, [some (.ref 1), some (.int v1), some (.int v2), some (.int v3), some (.int 0), some (.int 0)], [], (110, x), m)
            obtain ⟨q8, eq8, h⟩ := mj_bnd h
            refine mj_less hC (L0 := [some (.ref 1), some (.int v1), some (.int v2), some (.int v3), some (.int 0), some (.int 0)]) (And.intro rfl (And.intro rfl (And.intro rfl (And.intro rfl (And.intro rfl (And.intro rfl trivial)))))) ?_
            refine mj_loop_P (A := fun z39 => P (39, [some (.ref 1), some (.int v1), some (.int v2), some (.int v3), some (.int z39.1), some (.int z39.2)], [], (110, x), m)) (E := fun j z39 => (j = 0 → P (87, [none, none, none, none, none, some (.int z39.2)], [], (110, x), m)) ∧ (¬ j = 0 → P (109, [none, none, none, none, none, none], [], (110, x), m))) (fun zz t w hb h0 h1 => bp_rest_l39_x hC hd (by decide) zz hb h0 (fun ht => (h1 0 ht).1 rfl) (fun ht => (h1 1 ht).2 (by decide))) mj_F _ q8 eq8 ⟨fun hj => ?_, fun hj => ?_⟩
            · rw [if_pos hj] at h
              refine mj_gcp hC 9 ?_
              show P (99, [none, none, none, none, none, some (.int q8.2.2)], [.int (((10 : Int32) * (q8.2.2 >>> (1 &&& 31))) + (q8.2.2 &&& 1))], (110, x), m)
              cases h
              exact mj_pret hC rfl hR
            · rw [if_neg hj] at h
              refine mj_gcp hC 1 ?_
              show P (111, [none, none, none, none, none, none], [.int (-2)], (110, x), m)
              cases h
              exact mj_pret hC rfl hR
          · rw [if_neg c4] at h
            refine mj_gcp hC 1 ?_
            show P (32, [some (.ref 1), some (.int v1), some (.int v2), some (.int v3), none, none], [.int (-1)], (110, x), m)
            cases h
            exact mj_pret hC rfl hR
set_option maxRecDepth 20000 in
theorem bp_rest_x {Ls tp ip x d : Nat} {Z : mj_X} (hd : 4 ≤ d) (htp : tp = 3 ∨ tp = 17) {v1 : Int32} {v2 : Int32} {v3 : Int32} {m : mj_M} {r : Int32} (h : bp_rest tp v1 v2 v3 m = some r) : mj_Ex false (mj_sh Ls) (mj_rf tp ip) Z d 29 [.ref 1, .int v1, .int v2, .int v3] (110, x) m (some (.int r)) (110, x) m := by
  exact mj_Ex_of (cd := mj_cd_29) (L := [some (.ref 1), some (.int v1), some (.int v2), some (.int v3), none, none]) (by omega) (by decide) rfl (Nat.le_of_ble_eq_true rfl) rfl (fun P hC => bp_rest_p hC (by omega) htp h ⟨rfl, rfl, rfl⟩)
def rd_readMan (ip : Nat)  (m : mj_M) : Option mj_M :=
  (rd_takeUnless (mj_I (m ip 0)) 6 m).bind fun q1 =>
  (rd_readNewName (ip + 1) (mj_I (q1 ip 0)) q1).bind fun q2 =>
  (rd_readNumber 1 199 q2.2).bind fun q3 =>
  (rd_readNumber 0 99 q3.2).bind fun q4 =>
  (if (mj_I (q4.2 31 4)) = 0 then some (mj_up (fx_put (fx_put (fx_put q4.2 (ip + 1) (mj_I (q4.2 ip 0)) q2.1) (ip + 2) (mj_I (q4.2 ip 0)) q3.1) (ip + 3) (mj_I (q4.2 ip 0)) q4.1) ip 0 (.int ((mj_I (q4.2 ip 0)) + 1))) else
  some q4.2)
set_option maxRecDepth 20000 in
theorem rd_readMan_p {Ls tp ip x d : Nat} {Z : mj_X} {R : Option Value → mj_G → mj_M → Prop} {P : mj_K → Prop} (hC : mj_cls false (mj_sh Ls) (mj_rf tp ip) mj_dv mj_cd_79 (mj_Ex false (mj_sh Ls) (mj_rf tp ip) Z d) R P) (hd : 4 ≤ d) (hip : ip = 3 ∨ ip = 17)  {m : mj_M} {r : mj_M} (h : rd_readMan ip m = some r) (hR : R none (110, x) r) : P (0, [some (.ref 31), none, none, none], [], (110, x), m) := by
  unfold rd_readMan at h
  rcases hip with rfl | rfl
  all_goals
    refine mj_gcp hC 5 ?_
    show P (10, [some (.ref 31), none, none, none], [.int 6, .int (mj_I (m _ 0)), .ref 31], (110, x), m)
    obtain ⟨q1, eq1, h⟩ := mj_bnd h
    refine mj_pcall hC rfl (rd_takeUnless_x (Nat.le_trans (by decide) hd) eq1) ?_
    show P (13, [some (.ref 31), none, none, none], [], (110, x), q1)
    refine mj_gcp hC 7 ?_
    show P (28, [some (.ref 31), none, none, none], [.int (mj_I (q1 _ 0)), .ref _, .ref 31], (110, x), q1)
    obtain ⟨q2, eq2, h⟩ := mj_bnd h
    refine mj_pcall hC rfl (rd_readNewName_x (Nat.le_trans (by decide) hd) (by decide) eq2) ?_
    show P (31, [some (.ref 31), none, none, none], [.int q2.1], (110, x), q2.2)
    refine mj_gcp hC 4 ?_
    show P (37, [some (.ref 31), some (.int q2.1), none, none], [.int 199, .int 1, .ref 31], (110, x), q2.2)
    obtain ⟨q3, eq3, h⟩ := mj_bnd h
    refine mj_pcall hC rfl (rd_readNumber_x (Nat.le_trans (by decide) hd) eq3) ?_
    show P (40, [some (.ref 31), some (.int q2.1), none, none], [.int q3.1], (110, x), q3.2)
    refine mj_gcp hC 4 ?_
    show P (45, [some (.ref 31), some (.int q2.1), some (.int q3.1), none], [.int 99, .int 0, .ref 31], (110, x), q3.2)
    obtain ⟨q4, eq4, h⟩ := mj_bnd h
    refine mj_pcall hC rfl (rd_readNumber_x (Nat.le_trans (by decide) hd) eq4) ?_
    show P (48, [some (.ref 31), some (.int q2.1), some (.int q3.1), none], [.int q4.1], (110, x), q4.2)
    refine mj_gcp hC 4 ?_
    show P (mj_pick 56 123 ((mj_I (q4.2 31 4)) = 0), [some (.ref 31), some (.int q2.1), some (.int q3.1), some (.int q4.1)], [], (110, x), q4.2)
    refine mj_pbr (fun c5 => ?_) (fun c5 => ?_)
    · rw [if_pos c5] at h
      refine mj_gcp hC 7 ?_
      show P (71, [some (.ref 31), some (.int q2.1), some (.int q3.1), some (.int q4.1)], [.int q2.1, .int (mj_I (q4.2 _ 0)), .ref _], (110, x), q4.2)
      refine mj_pcall hC rfl (bp_put_x (Nat.le_trans (by decide) hd) (by decide)) ?_
      show P (74, [some (.ref 31), some (.int q2.1), some (.int q3.1), some (.int q4.1)], [], (110, x), (fx_put q4.2 _ (mj_I (q4.2 _ 0)) q2.1))
      refine mj_gcp hC 7 ?_
      show P (89, [some (.ref 31), some (.int q2.1), some (.int q3.1), some (.int q4.1)], [.int q3.1, .int (mj_I (q4.2 _ 0)), .ref _], (110, x), (fx_put q4.2 _ (mj_I (q4.2 _ 0)) q2.1))
      refine mj_pcall hC rfl (bp_put_x (Nat.le_trans (by decide) hd) (by decide)) ?_
      show P (92, [some (.ref 31), some (.int q2.1), some (.int q3.1), some (.int q4.1)], [], (110, x), (fx_put (fx_put q4.2 _ (mj_I (q4.2 _ 0)) q2.1) _ (mj_I (q4.2 _ 0)) q3.1))
      refine mj_gcp hC 7 ?_
      show P (107, [some (.ref 31), some (.int q2.1), some (.int q3.1), some (.int q4.1)], [.int q4.1, .int (mj_I (q4.2 _ 0)), .ref _], (110, x), (fx_put (fx_put q4.2 _ (mj_I (q4.2 _ 0)) q2.1) _ (mj_I (q4.2 _ 0)) q3.1))
      refine mj_pcall hC rfl (bp_put_x (Nat.le_trans (by decide) hd) (by decide)) ?_
      show P (110, [some (.ref 31), some (.int q2.1), some (.int q3.1), some (.int q4.1)], [], (110, x), (fx_put (fx_put (fx_put q4.2 _ (mj_I (q4.2 _ 0)) q2.1) _ (mj_I (q4.2 _ 0)) q3.1) _ (mj_I (q4.2 _ 0)) q4.1))
      refine mj_gcp hC 7 ?_
      show P (123, [some (.ref 31), some (.int q2.1), some (.int q3.1), some (.int q4.1)], [], (110, x), (mj_up (fx_put (fx_put (fx_put q4.2 _ (mj_I (q4.2 _ 0)) q2.1) _ (mj_I (q4.2 _ 0)) q3.1) _ (mj_I (q4.2 _ 0)) q4.1) _ 0 (.int ((mj_I (q4.2 _ 0)) + 1))))
      cases h
      exact mj_pret hC rfl hR
    · rw [if_neg c5] at h
      cases h
      exact mj_pret hC rfl hR
set_option maxRecDepth 20000 in
theorem rd_readMan_x {Ls tp ip x d : Nat} {Z : mj_X} (hd : 5 ≤ d) (hip : ip = 3 ∨ ip = 17)  {m : mj_M} {r : mj_M} (h : rd_readMan ip m = some r) : mj_Ex false (mj_sh Ls) (mj_rf tp ip) Z d 79 [.ref 31] (110, x) m none (110, x) r := by
  exact mj_Ex_of (cd := mj_cd_79) (L := [some (.ref 31), none, none, none]) (by omega) (by decide) rfl (Nat.le_of_ble_eq_true rfl) rfl (fun P hC => rd_readMan_p hC (by omega) hip h ⟨rfl, rfl, rfl⟩)
def rd_readWork (ip : Nat)  (m : mj_M) : Option mj_M :=
  (rd_takeUnless (mj_I (m ip 5)) 8 m).bind fun q1 =>
  (rd_readNewName (ip + 5) (mj_I (q1 ip 5)) q1).bind fun q2 =>
  (rd_findPerson ip q2.2).bind fun q3 =>
  (rd_take 21 q3.2).bind fun q4 =>
  (rd_readNumber 1 999 q4).bind fun q5 =>
  (rd_readNumber 1 12 q5.2).bind fun q6 =>
  (rd_readNumber 0 99 q6.2).bind fun q7 =>
  (if (mj_I (q7.2 31 4)) = 0 then some (mj_up (fx_put (fx_put (fx_put (fx_put (fx_put q7.2 (ip + 5) (mj_I (q7.2 ip 5)) q2.1) (ip + 6) (mj_I (q7.2 ip 5)) q3.1) (ip + 7) (mj_I (q7.2 ip 5)) q5.1) (ip + 8) (mj_I (q7.2 ip 5)) q6.1) (ip + 9) (mj_I (q7.2 ip 5)) q7.1) ip 5 (.int ((mj_I (q7.2 ip 5)) + 1))) else
  some q7.2)
set_option maxRecDepth 20000 in
theorem rd_readWork_p {Ls tp ip x d : Nat} {Z : mj_X} {R : Option Value → mj_G → mj_M → Prop} {P : mj_K → Prop} (hC : mj_cls false (mj_sh Ls) (mj_rf tp ip) mj_dv mj_cd_81 (mj_Ex false (mj_sh Ls) (mj_rf tp ip) Z d) R P) (hd : 4 ≤ d) (hip : ip = 3 ∨ ip = 17)  {m : mj_M} {r : mj_M} (h : rd_readWork ip m = some r) (hR : R none (110, x) r) : P (0, [some (.ref 31), none, none, none, none, none], [], (110, x), m) := by
  unfold rd_readWork at h
  rcases hip with rfl | rfl
  all_goals
    refine mj_gcp hC 5 ?_
    show P (10, [some (.ref 31), none, none, none, none, none], [.int 8, .int (mj_I (m _ 5)), .ref 31], (110, x), m)
    obtain ⟨q1, eq1, h⟩ := mj_bnd h
    refine mj_pcall hC rfl (rd_takeUnless_x (Nat.le_trans (by decide) hd) eq1) ?_
    show P (13, [some (.ref 31), none, none, none, none, none], [], (110, x), q1)
    refine mj_gcp hC 7 ?_
    show P (28, [some (.ref 31), none, none, none, none, none], [.int (mj_I (q1 _ 5)), .ref _, .ref 31], (110, x), q1)
    obtain ⟨q2, eq2, h⟩ := mj_bnd h
    refine mj_pcall hC rfl (rd_readNewName_x (Nat.le_trans (by decide) hd) (by decide) eq2) ?_
    show P (31, [some (.ref 31), none, none, none, none, none], [.int q2.1], (110, x), q2.2)
    refine mj_gcp hC 2 ?_
    show P (33, [some (.ref 31), some (.int q2.1), none, none, none, none], [.ref 31], (110, x), q2.2)
    obtain ⟨q3, eq3, h⟩ := mj_bnd h
    refine mj_pcall hC rfl (rd_findPerson_x (Nat.le_trans (by decide) hd) (by decide) eq3) ?_
    show P (36, [some (.ref 31), some (.int q2.1), none, none, none, none], [.int q3.1], (110, x), q3.2)
    refine mj_gcp hC 3 ?_
    show P (40, [some (.ref 31), some (.int q2.1), some (.int q3.1), none, none, none], [.int 21, .ref 31], (110, x), q3.2)
    obtain ⟨q4, eq4, h⟩ := mj_bnd h
    refine mj_pcall hC rfl (rd_take_x (Nat.le_trans (by decide) hd) eq4) ?_
    show P (43, [some (.ref 31), some (.int q2.1), some (.int q3.1), none, none, none], [], (110, x), q4)
    refine mj_gcp hC 3 ?_
    show P (48, [some (.ref 31), some (.int q2.1), some (.int q3.1), none, none, none], [.int 999, .int 1, .ref 31], (110, x), q4)
    obtain ⟨q5, eq5, h⟩ := mj_bnd h
    refine mj_pcall hC rfl (rd_readNumber_x (Nat.le_trans (by decide) hd) eq5) ?_
    show P (51, [some (.ref 31), some (.int q2.1), some (.int q3.1), none, none, none], [.int q5.1], (110, x), q5.2)
    refine mj_gcp hC 4 ?_
    show P (56, [some (.ref 31), some (.int q2.1), some (.int q3.1), some (.int q5.1), none, none], [.int 12, .int 1, .ref 31], (110, x), q5.2)
    obtain ⟨q6, eq6, h⟩ := mj_bnd h
    refine mj_pcall hC rfl (rd_readNumber_x (Nat.le_trans (by decide) hd) eq6) ?_
    show P (59, [some (.ref 31), some (.int q2.1), some (.int q3.1), some (.int q5.1), none, none], [.int q6.1], (110, x), q6.2)
    refine mj_gcp hC 4 ?_
    show P (65, [some (.ref 31), some (.int q2.1), some (.int q3.1), some (.int q5.1), some (.int q6.1), none], [.int 99, .int 0, .ref 31], (110, x), q6.2)
    obtain ⟨q7, eq7, h⟩ := mj_bnd h
    refine mj_pcall hC rfl (rd_readNumber_x (Nat.le_trans (by decide) hd) eq7) ?_
    show P (68, [some (.ref 31), some (.int q2.1), some (.int q3.1), some (.int q5.1), some (.int q6.1), none], [.int q7.1], (110, x), q7.2)
    refine mj_gcp hC 4 ?_
    show P (mj_pick 77 182 ((mj_I (q7.2 31 4)) = 0), [some (.ref 31), some (.int q2.1), some (.int q3.1), some (.int q5.1), some (.int q6.1), some (.int q7.1)], [], (110, x), q7.2)
    refine mj_pbr (fun c8 => ?_) (fun c8 => ?_)
    · rw [if_pos c8] at h
      refine mj_gcp hC 7 ?_
      show P (92, [some (.ref 31), some (.int q2.1), some (.int q3.1), some (.int q5.1), some (.int q6.1), some (.int q7.1)], [.int q2.1, .int (mj_I (q7.2 _ 5)), .ref _], (110, x), q7.2)
      refine mj_pcall hC rfl (bp_put_x (Nat.le_trans (by decide) hd) (by decide)) ?_
      show P (95, [some (.ref 31), some (.int q2.1), some (.int q3.1), some (.int q5.1), some (.int q6.1), some (.int q7.1)], [], (110, x), (fx_put q7.2 _ (mj_I (q7.2 _ 5)) q2.1))
      refine mj_gcp hC 7 ?_
      show P (110, [some (.ref 31), some (.int q2.1), some (.int q3.1), some (.int q5.1), some (.int q6.1), some (.int q7.1)], [.int q3.1, .int (mj_I (q7.2 _ 5)), .ref _], (110, x), (fx_put q7.2 _ (mj_I (q7.2 _ 5)) q2.1))
      refine mj_pcall hC rfl (bp_put_x (Nat.le_trans (by decide) hd) (by decide)) ?_
      show P (113, [some (.ref 31), some (.int q2.1), some (.int q3.1), some (.int q5.1), some (.int q6.1), some (.int q7.1)], [], (110, x), (fx_put (fx_put q7.2 _ (mj_I (q7.2 _ 5)) q2.1) _ (mj_I (q7.2 _ 5)) q3.1))
      refine mj_gcp hC 7 ?_
      show P (128, [some (.ref 31), some (.int q2.1), some (.int q3.1), some (.int q5.1), some (.int q6.1), some (.int q7.1)], [.int q5.1, .int (mj_I (q7.2 _ 5)), .ref _], (110, x), (fx_put (fx_put q7.2 _ (mj_I (q7.2 _ 5)) q2.1) _ (mj_I (q7.2 _ 5)) q3.1))
      refine mj_pcall hC rfl (bp_put_x (Nat.le_trans (by decide) hd) (by decide)) ?_
      show P (131, [some (.ref 31), some (.int q2.1), some (.int q3.1), some (.int q5.1), some (.int q6.1), some (.int q7.1)], [], (110, x), (fx_put (fx_put (fx_put q7.2 _ (mj_I (q7.2 _ 5)) q2.1) _ (mj_I (q7.2 _ 5)) q3.1) _ (mj_I (q7.2 _ 5)) q5.1))
      refine mj_gcp hC 7 ?_
      show P (147, [some (.ref 31), some (.int q2.1), some (.int q3.1), some (.int q5.1), some (.int q6.1), some (.int q7.1)], [.int q6.1, .int (mj_I (q7.2 _ 5)), .ref _], (110, x), (fx_put (fx_put (fx_put q7.2 _ (mj_I (q7.2 _ 5)) q2.1) _ (mj_I (q7.2 _ 5)) q3.1) _ (mj_I (q7.2 _ 5)) q5.1))
      refine mj_pcall hC rfl (bp_put_x (Nat.le_trans (by decide) hd) (by decide)) ?_
      show P (150, [some (.ref 31), some (.int q2.1), some (.int q3.1), some (.int q5.1), some (.int q6.1), some (.int q7.1)], [], (110, x), (fx_put (fx_put (fx_put (fx_put q7.2 _ (mj_I (q7.2 _ 5)) q2.1) _ (mj_I (q7.2 _ 5)) q3.1) _ (mj_I (q7.2 _ 5)) q5.1) _ (mj_I (q7.2 _ 5)) q6.1))
      refine mj_gcp hC 7 ?_
      show P (166, [some (.ref 31), some (.int q2.1), some (.int q3.1), some (.int q5.1), some (.int q6.1), some (.int q7.1)], [.int q7.1, .int (mj_I (q7.2 _ 5)), .ref _], (110, x), (fx_put (fx_put (fx_put (fx_put q7.2 _ (mj_I (q7.2 _ 5)) q2.1) _ (mj_I (q7.2 _ 5)) q3.1) _ (mj_I (q7.2 _ 5)) q5.1) _ (mj_I (q7.2 _ 5)) q6.1))
      refine mj_pcall hC rfl (bp_put_x (Nat.le_trans (by decide) hd) (by decide)) ?_
      show P (169, [some (.ref 31), some (.int q2.1), some (.int q3.1), some (.int q5.1), some (.int q6.1), some (.int q7.1)], [], (110, x), (fx_put (fx_put (fx_put (fx_put (fx_put q7.2 _ (mj_I (q7.2 _ 5)) q2.1) _ (mj_I (q7.2 _ 5)) q3.1) _ (mj_I (q7.2 _ 5)) q5.1) _ (mj_I (q7.2 _ 5)) q6.1) _ (mj_I (q7.2 _ 5)) q7.1))
      refine mj_gcp hC 7 ?_
      show P (182, [some (.ref 31), some (.int q2.1), some (.int q3.1), some (.int q5.1), some (.int q6.1), some (.int q7.1)], [], (110, x), (mj_up (fx_put (fx_put (fx_put (fx_put (fx_put q7.2 _ (mj_I (q7.2 _ 5)) q2.1) _ (mj_I (q7.2 _ 5)) q3.1) _ (mj_I (q7.2 _ 5)) q5.1) _ (mj_I (q7.2 _ 5)) q6.1) _ (mj_I (q7.2 _ 5)) q7.1) _ 5 (.int ((mj_I (q7.2 _ 5)) + 1))))
      cases h
      exact mj_pret hC rfl hR
    · rw [if_neg c8] at h
      cases h
      exact mj_pret hC rfl hR
set_option maxRecDepth 20000 in
theorem rd_readWork_x {Ls tp ip x d : Nat} {Z : mj_X} (hd : 5 ≤ d) (hip : ip = 3 ∨ ip = 17)  {m : mj_M} {r : mj_M} (h : rd_readWork ip m = some r) : mj_Ex false (mj_sh Ls) (mj_rf tp ip) Z d 81 [.ref 31] (110, x) m none (110, x) r := by
  exact mj_Ex_of (cd := mj_cd_81) (L := [some (.ref 31), none, none, none, none, none]) (by omega) (by decide) rfl (Nat.le_of_ble_eq_true rfl) rfl (fun P hC => rd_readWork_p hC (by omega) hip h ⟨rfl, rfl, rfl⟩)
def rd_readSpeed (ip : Nat)  (m : mj_M) : Option mj_M :=
  (rd_takeUnless (mj_I (m ip 11)) 8 m).bind fun q1 =>
  (rd_readNumber 1 199 q1).bind fun q2 =>
  (if (mj_I (q2.2 31 4)) = 0 then some (mj_up (fx_put q2.2 (ip + 10) (mj_I (q2.2 ip 11)) q2.1) ip 11 (.int ((mj_I (q2.2 ip 11)) + 1))) else
  some q2.2)
set_option maxRecDepth 20000 in
theorem rd_readSpeed_p {Ls tp ip x d : Nat} {Z : mj_X} {R : Option Value → mj_G → mj_M → Prop} {P : mj_K → Prop} (hC : mj_cls false (mj_sh Ls) (mj_rf tp ip) mj_dv mj_cd_82 (mj_Ex false (mj_sh Ls) (mj_rf tp ip) Z d) R P) (hd : 4 ≤ d) (hip : ip = 3 ∨ ip = 17)  {m : mj_M} {r : mj_M} (h : rd_readSpeed ip m = some r) (hR : R none (110, x) r) : P (0, [some (.ref 31), none], [], (110, x), m) := by
  unfold rd_readSpeed at h
  rcases hip with rfl | rfl
  all_goals
    refine mj_gcp hC 5 ?_
    show P (10, [some (.ref 31), none], [.int 8, .int (mj_I (m _ 11)), .ref 31], (110, x), m)
    obtain ⟨q1, eq1, h⟩ := mj_bnd h
    refine mj_pcall hC rfl (rd_takeUnless_x (Nat.le_trans (by decide) hd) eq1) ?_
    show P (13, [some (.ref 31), none], [], (110, x), q1)
    refine mj_gcp hC 3 ?_
    show P (18, [some (.ref 31), none], [.int 199, .int 1, .ref 31], (110, x), q1)
    obtain ⟨q2, eq2, h⟩ := mj_bnd h
    refine mj_pcall hC rfl (rd_readNumber_x (Nat.le_trans (by decide) hd) eq2) ?_
    show P (21, [some (.ref 31), none], [.int q2.1], (110, x), q2.2)
    refine mj_gcp hC 4 ?_
    show P (mj_pick 29 60 ((mj_I (q2.2 31 4)) = 0), [some (.ref 31), some (.int q2.1)], [], (110, x), q2.2)
    refine mj_pbr (fun c3 => ?_) (fun c3 => ?_)
    · rw [if_pos c3] at h
      refine mj_gcp hC 7 ?_
      show P (44, [some (.ref 31), some (.int q2.1)], [.int q2.1, .int (mj_I (q2.2 _ 11)), .ref _], (110, x), q2.2)
      refine mj_pcall hC rfl (bp_put_x (Nat.le_trans (by decide) hd) (by decide)) ?_
      show P (47, [some (.ref 31), some (.int q2.1)], [], (110, x), (fx_put q2.2 _ (mj_I (q2.2 _ 11)) q2.1))
      refine mj_gcp hC 7 ?_
      show P (60, [some (.ref 31), some (.int q2.1)], [], (110, x), (mj_up (fx_put q2.2 _ (mj_I (q2.2 _ 11)) q2.1) _ 11 (.int ((mj_I (q2.2 _ 11)) + 1))))
      cases h
      exact mj_pret hC rfl hR
    · rw [if_neg c3] at h
      cases h
      exact mj_pret hC rfl hR
set_option maxRecDepth 20000 in
theorem rd_readSpeed_x {Ls tp ip x d : Nat} {Z : mj_X} (hd : 5 ≤ d) (hip : ip = 3 ∨ ip = 17)  {m : mj_M} {r : mj_M} (h : rd_readSpeed ip m = some r) : mj_Ex false (mj_sh Ls) (mj_rf tp ip) Z d 82 [.ref 31] (110, x) m none (110, x) r := by
  exact mj_Ex_of (cd := mj_cd_82) (L := [some (.ref 31), none]) (by omega) (by decide) rfl (Nat.le_of_ble_eq_true rfl) rfl (fun P hC => rd_readSpeed_p hC (by omega) hip h ⟨rfl, rfl, rfl⟩)
def rd_readOnce  (v1 : Int32) (m : mj_M) : Option (Int32 × mj_M) :=
  (rd_takeOnce m).bind fun q1 =>
  (rd_readNumber 0 v1 q1).bind fun q2 =>
  some (q2.1, q2.2)
set_option maxRecDepth 20000 in
theorem rd_readOnce_p {Ls tp ip x d : Nat} {Z : mj_X} {R : Option Value → mj_G → mj_M → Prop} {P : mj_K → Prop} (hC : mj_cls false (mj_sh Ls) (mj_rf tp ip) mj_dv mj_cd_83 (mj_Ex false (mj_sh Ls) (mj_rf tp ip) Z d) R P) (hd : 4 ≤ d) {v1 : Int32} {m : mj_M} {r : (Int32 × mj_M)} (h : rd_readOnce v1 m = some r) (hR : R (some (.int r.1)) (110, x) r.2) : P (0, [some (.ref 31), some (.int v1)], [], (110, x), m) := by
  unfold rd_readOnce at h
  refine mj_gcp hC 1 ?_
  show P (1, [some (.ref 31), some (.int v1)], [.ref 31], (110, x), m)
  obtain ⟨q1, eq1, h⟩ := mj_bnd h
  refine mj_pcall hC rfl (rd_takeOnce_x (Nat.le_trans (by decide) hd) eq1) ?_
  show P (4, [some (.ref 31), some (.int v1)], [], (110, x), q1)
  refine mj_gcp hC 3 ?_
  show P (7, [some (.ref 31), some (.int v1)], [.int v1, .int 0, .ref 31], (110, x), q1)
  obtain ⟨q2, eq2, h⟩ := mj_bnd h
  refine mj_pcall hC rfl (rd_readNumber_x (Nat.le_trans (by decide) hd) eq2) ?_
  show P (10, [some (.ref 31), some (.int v1)], [.int q2.1], (110, x), q2.2)
  cases h
  exact mj_pret hC rfl hR
set_option maxRecDepth 20000 in
theorem rd_readOnce_x {Ls tp ip x d : Nat} {Z : mj_X} (hd : 5 ≤ d) {v1 : Int32} {m : mj_M} {r : (Int32 × mj_M)} (h : rd_readOnce v1 m = some r) : mj_Ex false (mj_sh Ls) (mj_rf tp ip) Z d 83 [.ref 31, .int v1] (110, x) m (some (.int r.1)) (110, x) r.2 := by
  exact mj_Ex_of (cd := mj_cd_83) (L := [some (.ref 31), some (.int v1)]) (by omega) (by decide) rfl (Nat.le_of_ble_eq_true rfl) rfl (fun P hC => rd_readOnce_p hC (by omega) h ⟨rfl, rfl, rfl⟩)
def ck_lawWithin (tp : Nat) (v1 : Int32) (v2 : Int32) (v3 : Int32) (v4 : Int32) (m : mj_M) : Option (Int32 × mj_M) :=
  (rk_value tp v1 m).bind fun q1 =>
  (if (lg_cmp q1.1 (-9223372036854775808)) = 0 then some (v4, q1.2) else
  some ((ma_maxJ (v2.toInt64) (ma_minJ (v3.toInt64) q1.1 q1.2) q1.2).toInt32, q1.2))
set_option maxRecDepth 20000 in
theorem ck_lawWithin_p {Ls tp ip x d : Nat} {Z : mj_X} {R : Option Value → mj_G → mj_M → Prop} {P : mj_K → Prop} (hC : mj_cls false (mj_sh Ls) (mj_rf tp ip) mj_dv mj_cd_121 (mj_Ex false (mj_sh Ls) (mj_rf tp ip) Z d) R P) (hd : 3 ≤ d) (htp : tp = 3 ∨ tp = 17) {v1 : Int32} {v2 : Int32} {v3 : Int32} {v4 : Int32} {m : mj_M} {r : (Int32 × mj_M)} (h : ck_lawWithin tp v1 v2 v3 v4 m = some r) (hR : R (some (.int r.1)) (110, x) r.2) : P (0, [some (.ref 37), some (.int v1), some (.int v2), some (.int v3), some (.int v4), none, none], [], (110, x), m) := by
  unfold ck_lawWithin at h
  rcases htp with rfl | rfl
  all_goals
    refine mj_gcp hC 5 ?_
    show P (9, [some (.ref 37), some (.int v1), some (.int v2), some (.int v3), some (.int v4), none, none], [.int v1, .ref _, .ref 38], (110, x), m)
    obtain ⟨q1, eq1, h⟩ := mj_bnd h
    refine mj_pcall hC rfl (rk_value_x (Nat.le_trans (by decide) hd) (by decide) eq1) ?_
    show P (12, [some (.ref 37), some (.int v1), some (.int v2), some (.int v3), some (.int v4), none, none], [.long q1.1], (110, x), q1.2)
    refine mj_gcp hC 5 ?_
    show P (mj_pick 23 26 ((lg_cmp q1.1 (-9223372036854775808)) = 0), [some (.ref 37), some (.int v1), some (.int v2), some (.int v3), some (.int v4), some (.long q1.1), none], [], (110, x), q1.2)
    refine mj_pbr (fun c2 => ?_) (fun c2 => ?_)
    · rw [if_pos c2] at h
      refine mj_gcp hC 1 ?_
      show P (25, [some (.ref 37), some (.int v1), some (.int v2), some (.int v3), some (.int v4), some (.long q1.1), none], [.int v4], (110, x), q1.2)
      cases h
      exact mj_pret hC rfl hR
    · rw [if_neg c2] at h
      refine mj_gcp hC 5 ?_
      show P (32, [some (.ref 37), some (.int v1), some (.int v2), some (.int v3), some (.int v4), some (.long q1.1), none], [.long q1.1, .long (v3.toInt64), .long (v2.toInt64)], (110, x), q1.2)
      refine mj_pcall hC rfl (ma_minJ_x (Nat.le_trans (by decide) hd)) ?_
      show P (35, [some (.ref 37), some (.int v1), some (.int v2), some (.int v3), some (.int v4), some (.long q1.1), none], [.long (ma_minJ (v3.toInt64) q1.1 q1.2), .long (v2.toInt64)], (110, x), q1.2)
      refine mj_pcall hC rfl (ma_maxJ_x (Nat.le_trans (by decide) hd)) ?_
      show P (38, [some (.ref 37), some (.int v1), some (.int v2), some (.int v3), some (.int v4), some (.long q1.1), none], [.long (ma_maxJ (v2.toInt64) (ma_minJ (v3.toInt64) q1.1 q1.2) q1.2)], (110, x), q1.2)
      refine mj_gcp hC 1 ?_
      show P (39, [some (.ref 37), some (.int v1), some (.int v2), some (.int v3), some (.int v4), some (.long q1.1), none], [.int (ma_maxJ (v2.toInt64) (ma_minJ (v3.toInt64) q1.1 q1.2) q1.2).toInt32], (110, x), q1.2)
      cases h
      exact mj_pret hC rfl hR
set_option maxRecDepth 20000 in
theorem ck_lawWithin_x {Ls tp ip x d : Nat} {Z : mj_X} (hd : 4 ≤ d) (htp : tp = 3 ∨ tp = 17) {v1 : Int32} {v2 : Int32} {v3 : Int32} {v4 : Int32} {m : mj_M} {r : (Int32 × mj_M)} (h : ck_lawWithin tp v1 v2 v3 v4 m = some r) : mj_Ex false (mj_sh Ls) (mj_rf tp ip) Z d 121 [.ref 37, .int v1, .int v2, .int v3, .int v4] (110, x) m (some (.int r.1)) (110, x) r.2 := by
  exact mj_Ex_of (cd := mj_cd_121) (L := [some (.ref 37), some (.int v1), some (.int v2), some (.int v3), some (.int v4), none, none]) (by omega) (by decide) rfl (Nat.le_of_ble_eq_true rfl) rfl (fun P hC => ck_lawWithin_p hC (by omega) htp h ⟨rfl, rfl, rfl⟩)
