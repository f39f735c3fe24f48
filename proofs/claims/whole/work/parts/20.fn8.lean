/-! FUNCTIONS OUT OF THE INSTRUCTIONS, AND THAT A RUN GIVES THEM (made by wip/whole/emit.py) -/
def ck_goOnWith_j92 (tp : Nat) (sp : Nat) (v2 : Int32) (v3 : Int32)  (m : mj_M) : Option mj_M :=
  (if (sa_isDone sp v3 (fx_put m (sp + 3) v3 (ma_max 0 ((fx_at m (sp + 3) v3) - v2) m))) = 0 then some (fx_put m (sp + 3) v3 (ma_max 0 ((fx_at m (sp + 3) v3) - v2) m)) else
  some (fx_put (fx_put m (sp + 3) v3 (ma_max 0 ((fx_at m (sp + 3) v3) - v2) m)) (sp + 4) v3 (mj_I (m sp 0))))
def ck_goOnWith (tp : Nat) (sp : Nat) (v2 : Int32) (v3 : Int32) (m : mj_M) : Option mj_M :=
  (ck_name tp sp v2 (fx_at m (tp + 6) v3) v3 m).bind fun q1 =>
  (ck_lawWithin tp 0 0 99 ((ma_max 0 (v2 - (fx_at q1 (tp + 2) (fx_at m (tp + 6) v3))) q1) / 10) q1).bind fun q2 =>
  (if q2.1 ≤ 0 then ck_goOnWith_j92 tp sp v2 v3 (fx_put q2.2 (sp + 1) (fx_at m (tp + 6) v3) ((fx_at q2.2 (sp + 1) (fx_at m (tp + 6) v3)) + q2.1)) else
  ck_goOnWith_j92 tp sp v2 v3 (mj_up (fx_put q2.2 (sp + 1) (fx_at m (tp + 6) v3) ((fx_at q2.2 (sp + 1) (fx_at m (tp + 6) v3)) + q2.1)) sp 10 (.int ((mj_I (q2.2 sp 10)) ||| ((1 : Int32) <<< ((fx_at m (tp + 6) v3) &&& 31))))))
set_option maxRecDepth 20000 in
theorem ck_goOnWith_j92_x {Ls tp ip x d : Nat} {Z : mj_X} {R : Option Value → mj_G → mj_M → Prop} {P : mj_K → Prop} (hC : mj_cls false (mj_sh Ls) (mj_rf tp ip) mj_dv mj_cd_118 (mj_Ex false (mj_sh Ls) (mj_rf tp ip) Z d) R P) (hd : 4 ≤ d) {sp : Nat} (htp : tp = 3 ∨ tp = 17) (hsp : sp = 42 ∨ sp = 47 ∨ sp = 52) {v2 : Int32} {v3 : Int32}  {m : mj_M} {r : mj_M} (h : ck_goOnWith_j92 tp sp v2 v3 m = some r) (hR : R none (110, x) r) : P (92, [none, some (.ref sp), some (.int v2), some (.int v3), none, none], [], (110, x), m) := by
  unfold ck_goOnWith_j92 at h
  rcases htp with rfl | rfl <;> rcases hsp with rfl | rfl | rfl
  all_goals
    refine mj_gcp hC 7 ?_
    show P (103, [none, some (.ref _), some (.int v2), some (.int v3), none, none], [.int v3, .ref _, .int 0, .int v3, .ref _], (110, x), m)
    refine mj_pcall hC rfl (bp_at_x (Nat.le_trans (by decide) hd) (by decide)) ?_
    show P (106, [none, some (.ref _), some (.int v2), some (.int v3), none, none], [.int (fx_at m _ v3), .int 0, .int v3, .ref _], (110, x), m)
    refine mj_gcp hC 2 ?_
    show P (108, [none, some (.ref _), some (.int v2), some (.int v3), none, none], [.int ((fx_at m _ v3) - v2), .int 0, .int v3, .ref _], (110, x), m)
    refine mj_pcall hC rfl (ma_max_x (Nat.le_trans (by decide) hd)) ?_
    show P (111, [none, some (.ref _), some (.int v2), some (.int v3), none, none], [.int (ma_max 0 ((fx_at m _ v3) - v2) m), .int v3, .ref _], (110, x), m)
    refine mj_pcall hC rfl (bp_put_x (Nat.le_trans (by decide) hd) (by decide)) ?_
    show P (114, [none, some (.ref _), some (.int v2), some (.int v3), none, none], [], (110, x), (fx_put m _ v3 (ma_max 0 ((fx_at m _ v3) - v2) m)))
    refine mj_gcp hC 2 ?_
    show P (116, [none, some (.ref _), some (.int v2), some (.int v3), none, none], [.int v3, .ref _], (110, x), (fx_put m _ v3 (ma_max 0 ((fx_at m _ v3) - v2) m)))
    refine mj_pcall hC rfl (sa_isDone_x (Nat.le_trans (by decide) hd) (by decide)) ?_
    show P (119, [none, some (.ref _), some (.int v2), some (.int v3), none, none], [.int (sa_isDone _ v3 (fx_put m _ v3 (ma_max 0 ((fx_at m _ v3) - v2) m)))], (110, x), (fx_put m _ v3 (ma_max 0 ((fx_at m _ v3) - v2) m)))
    refine mj_gcp hC 1 ?_
    show P (mj_pick 134 122 ((sa_isDone _ v3 (fx_put m _ v3 (ma_max 0 ((fx_at m _ v3) - v2) m))) = 0), [none, some (.ref _), some (.int v2), some (.int v3), none, none], [], (110, x), (fx_put m _ v3 (ma_max 0 ((fx_at m _ v3) - v2) m)))
    refine mj_pbr (fun c4 => ?_) (fun c4 => ?_)
    · rw [if_pos c4] at h
      cases h
      exact mj_pret hC rfl hR
    · rw [if_neg c4] at h
      refine mj_gcp hC 5 ?_
      show P (131, [none, some (.ref _), some (.int v2), some (.int v3), none, none], [.int (mj_I (m _ 0)), .int v3, .ref _], (110, x), (fx_put m _ v3 (ma_max 0 ((fx_at m _ v3) - v2) m)))
      refine mj_pcall hC rfl (bp_put_x (Nat.le_trans (by decide) hd) (by decide)) ?_
      show P (134, [none, some (.ref _), some (.int v2), some (.int v3), none, none], [], (110, x), (fx_put (fx_put m _ v3 (ma_max 0 ((fx_at m _ v3) - v2) m)) _ v3 (mj_I (m _ 0))))
      cases h
      exact mj_pret hC rfl hR
set_option maxRecDepth 20000 in
theorem ck_goOnWith_p {Ls tp ip x d : Nat} {Z : mj_X} {R : Option Value → mj_G → mj_M → Prop} {P : mj_K → Prop} (hC : mj_cls false (mj_sh Ls) (mj_rf tp ip) mj_dv mj_cd_118 (mj_Ex false (mj_sh Ls) (mj_rf tp ip) Z d) R P) (hd : 4 ≤ d) {sp : Nat} (htp : tp = 3 ∨ tp = 17) (hsp : sp = 42 ∨ sp = 47 ∨ sp = 52) {v2 : Int32} {v3 : Int32} {m : mj_M} {r : mj_M} (h : ck_goOnWith tp sp v2 v3 m = some r) (hR : R none (110, x) r) : P (0, [some (.ref 37), some (.ref sp), some (.int v2), some (.int v3), none, none], [], (110, x), m) := by
  unfold ck_goOnWith at h
  rcases htp with rfl | rfl <;> rcases hsp with rfl | rfl | rfl
  all_goals
    refine mj_gcp hC 4 ?_
    show P (8, [some (.ref 37), some (.ref _), some (.int v2), some (.int v3), none, none], [.int v3, .ref _], (110, x), m)
    refine mj_pcall hC rfl (bp_at_x (Nat.le_trans (by decide) hd) (by decide)) ?_
    show P (11, [some (.ref 37), some (.ref _), some (.int v2), some (.int v3), none, none], [.int (fx_at m _ v3)], (110, x), m)
    refine mj_gcp hC 6 ?_
    show P (19, [some (.ref 37), some (.ref _), some (.int v2), some (.int v3), some (.int (fx_at m _ v3)), none], [.int v3, .int (fx_at m _ v3), .int v2, .ref _, .ref 37], (110, x), m)
    obtain ⟨q1, eq1, h⟩ := mj_bnd h
    refine mj_pcall hC rfl (ck_name_x (Nat.le_trans (by decide) hd) (by decide) (by decide) eq1) ?_
    show P (22, [some (.ref 37), some (.ref _), some (.int v2), some (.int v3), some (.int (fx_at m _ v3)), none], [], (110, x), q1)
    refine mj_gcp hC 10 ?_
    show P (38, [some (.ref 37), some (.ref _), some (.int v2), some (.int v3), some (.int (fx_at m _ v3)), none], [.int (fx_at m _ v3), .ref _, .int v2, .int 0, .int 99, .int 0, .int 0, .ref 37], (110, x), q1)
    refine mj_pcall hC rfl (bp_at_x (Nat.le_trans (by decide) hd) (by decide)) ?_
    show P (41, [some (.ref 37), some (.ref _), some (.int v2), some (.int v3), some (.int (fx_at m _ v3)), none], [.int (fx_at q1 _ (fx_at m _ v3)), .int v2, .int 0, .int 99, .int 0, .int 0, .ref 37], (110, x), q1)
    refine mj_gcp hC 1 ?_
    show P (42, [some (.ref 37), some (.ref _), some (.int v2), some (.int v3), some (.int (fx_at m _ v3)), none], [.int (v2 - (fx_at q1 _ (fx_at m _ v3))), .int 0, .int 99, .int 0, .int 0, .ref 37], (110, x), q1)
    refine mj_pcall hC rfl (ma_max_x (Nat.le_trans (by decide) hd)) ?_
    show P (45, [some (.ref 37), some (.ref _), some (.int v2), some (.int v3), some (.int (fx_at m _ v3)), none], [.int (ma_max 0 (v2 - (fx_at q1 _ (fx_at m _ v3))) q1), .int 99, .int 0, .int 0, .ref 37], (110, x), q1)
    refine mj_gcp hC 2 ?_
    show _ ∧ (P (48, [some (.ref 37), some (.ref _), some (.int v2), some (.int v3), some (.int (fx_at m _ v3)), none], [.int ((ma_max 0 (v2 - (fx_at q1 _ (fx_at m _ v3))) q1) / 10), .int 99, .int 0, .int 0, .ref 37], (110, x), q1))
    refine And.intro (show ¬ ((10 : Int32) = 0) by decide) (?_)
    obtain ⟨q2, eq2, h⟩ := mj_bnd h
    refine mj_pcall hC rfl (ck_lawWithin_x (Nat.le_trans (by decide) hd) (by decide) eq2) ?_
    show P (51, [some (.ref 37), some (.ref _), some (.int v2), some (.int v3), some (.int (fx_at m _ v3)), none], [.int q2.1], (110, x), q2.2)
    refine mj_gcp hC 7 ?_
    show P (65, [some (.ref 37), some (.ref _), some (.int v2), some (.int v3), some (.int (fx_at m _ v3)), some (.int q2.1)], [.int (fx_at m _ v3), .ref _, .int (fx_at m _ v3), .ref _], (110, x), q2.2)
    refine mj_pcall hC rfl (bp_at_x (Nat.le_trans (by decide) hd) (by decide)) ?_
    show P (68, [some (.ref 37), some (.ref _), some (.int v2), some (.int v3), some (.int (fx_at m _ v3)), some (.int q2.1)], [.int (fx_at q2.2 _ (fx_at m _ v3)), .int (fx_at m _ v3), .ref _], (110, x), q2.2)
    refine mj_gcp hC 2 ?_
    show P (71, [some (.ref 37), some (.ref _), some (.int v2), some (.int v3), some (.int (fx_at m _ v3)), some (.int q2.1)], [.int ((fx_at q2.2 _ (fx_at m _ v3)) + q2.1), .int (fx_at m _ v3), .ref _], (110, x), q2.2)
    refine mj_pcall hC rfl (bp_put_x (Nat.le_trans (by decide) hd) (by decide)) ?_
    show P (74, [some (.ref 37), some (.ref _), some (.int v2), some (.int v3), some (.int (fx_at m _ v3)), some (.int q2.1)], [], (110, x), (fx_put q2.2 _ (fx_at m _ v3) ((fx_at q2.2 _ (fx_at m _ v3)) + q2.1)))
    refine mj_gcp hC 2 ?_
    show P (mj_pick 92 79 (q2.1 ≤ 0), [some (.ref 37), some (.ref _), some (.int v2), some (.int v3), some (.int (fx_at m _ v3)), some (.int q2.1)], [], (110, x), (fx_put q2.2 _ (fx_at m _ v3) ((fx_at q2.2 _ (fx_at m _ v3)) + q2.1)))
    refine mj_pbr (fun c3 => ?_) (fun c3 => ?_)
    · rw [if_pos c3] at h
      exact mj_less hC (L0 := [none, some (.ref _), some (.int v2), some (.int v3), none, none]) (And.intro rfl (And.intro rfl (And.intro rfl trivial))) (ck_goOnWith_j92_x hC hd (by decide) (by decide) h hR)
    · rw [if_neg c3] at h
      refine mj_gcp hC 8 ?_
      show P (92, [some (.ref 37), some (.ref _), some (.int v2), some (.int v3), some (.int (fx_at m _ v3)), some (.int q2.1)], [], (110, x), (mj_up (fx_put q2.2 _ (fx_at m _ v3) ((fx_at q2.2 _ (fx_at m _ v3)) + q2.1)) _ 10 (.int ((mj_I (q2.2 _ 10)) ||| ((1 : Int32) <<< ((fx_at m _ v3) &&& 31))))))
      exact mj_less hC (L0 := [none, some (.ref _), some (.int v2), some (.int v3), none, none]) (And.intro rfl (And.intro rfl (And.intro rfl trivial))) (ck_goOnWith_j92_x hC hd (by decide) (by decide) h hR)
set_option maxRecDepth 20000 in
theorem ck_goOnWith_x {Ls tp ip x d : Nat} {Z : mj_X} (hd : 5 ≤ d) {sp : Nat} (htp : tp = 3 ∨ tp = 17) (hsp : sp = 42 ∨ sp = 47 ∨ sp = 52) {v2 : Int32} {v3 : Int32} {m : mj_M} {r : mj_M} (h : ck_goOnWith tp sp v2 v3 m = some r) : mj_Ex false (mj_sh Ls) (mj_rf tp ip) Z d 118 [.ref 37, .ref sp, .int v2, .int v3] (110, x) m none (110, x) r := by
  exact mj_Ex_of (cd := mj_cd_118) (L := [some (.ref 37), some (.ref sp), some (.int v2), some (.int v3), none, none]) (by omega) (by decide) rfl (Nat.le_of_ble_eq_true rfl) rfl (fun P hC => ck_goOnWith_p hC (by omega) htp hsp h ⟨rfl, rfl, rfl⟩)
def ck_spread_j55l16 (tp : Nat) (sp : Nat)  (v2 : Int32) (v3 : Int32) (v4 : Int32)  (m : mj_M) : Option (Nat × (Int32 × Int32 × mj_M)) :=
  some (0, (v3, (v4 + 1), m))
def ck_spread_l16 (tp : Nat) (sp : Nat) (v2 : Int32) (s16 : (Int32 × Int32 × mj_M)) : Option (Nat × (Int32 × Int32 × mj_M)) :=
  (if (mj_I (s16.2.2 tp 0)) ≤ s16.2.1 then some (1, (s16.1, s16.2.1, s16.2.2)) else
  (if (fx_at s16.2.2 41 s16.2.1) ≤ 0 then ck_spread_j55l16 tp sp v2 s16.1 s16.2.1 s16.2.2 else
  ck_spread_j55l16 tp sp v2 (s16.1 ||| (fx_at s16.2.2 (tp + 4) s16.2.1)) s16.2.1 s16.2.2))
def ck_spread_j168l64 (tp : Nat) (sp : Nat)  (v2 : Int32) (v3 : Int32) (v4 : Int32)  (m : mj_M) : Option (Nat × (Int32 × mj_M)) :=
  some (0, ((v4 + 1), m))
def ck_spread_l64 (tp : Nat) (sp : Nat) (v2 : Int32) (v3 : Int32) (s64 : (Int32 × mj_M)) : Option (Nat × (Int32 × mj_M)) :=
  (if (mj_I (s64.2 tp 0)) ≤ s64.1 then some (1, (s64.1, s64.2)) else
  (if (fx_at s64.2 41 s64.1) ≤ 0 then (if (bp_has (v3 &&& (mj_I (s64.2 sp 4))) s64.1 s64.2) = 0 then ck_spread_j168l64 tp sp v2 v3 s64.1 s64.2 else
  (ck_name tp sp v2 s64.1 (-1) s64.2).bind fun q7 =>
  (ck_lawWithin tp 2 1 9 ((1 : Int32) + ((fx_at q7 (tp + 3) s64.1) / 20)) q7).bind fun q8 =>
  ck_spread_j168l64 tp sp v2 v3 s64.1 (fx_put q8.2 (sp + 2) s64.1 q8.1)) else
  ck_spread_j168l64 tp sp v2 v3 s64.1 (fx_put s64.2 (sp + 2) s64.1 ((fx_at s64.2 41 s64.1) - 1))))
def ck_spread (tp : Nat) (sp : Nat) (v2 : Int32) (m : mj_M) : Option mj_M :=
  (mj_loop (ck_spread_l16 tp sp v2) mj_F (0, 0, (fx_copy m (sp + 2) 41))).bind fun q3 =>
  (mj_loop (ck_spread_l64 tp sp v2 q3.2.1) mj_F (0, q3.2.2.2)).bind fun q9 =>
  some q9.2.2
set_option maxRecDepth 20000 in
theorem ck_spread_j55l16_x {Ls tp ip x d : Nat} {Z : mj_X} {R : Option Value → mj_G → mj_M → Prop} {P : mj_K → Prop} (hC : mj_cls false (mj_sh Ls) (mj_rf tp ip) mj_dv mj_cd_119 (mj_Ex false (mj_sh Ls) (mj_rf tp ip) Z d) R P) (hd : 4 ≤ d) {sp : Nat} (htp : tp = 3 ∨ tp = 17) (hsp : sp = 42 ∨ sp = 47 ∨ sp = 52)  {v2 : Int32} {v3 : Int32} {v4 : Int32}  {m : mj_M} {t : Nat} {w : (Int32 × Int32 × mj_M)} (h : ck_spread_j55l16 tp sp  v2 v3 v4 m = some (t, w)) (h0 : t = 0 → P (16, [some (.ref 37), some (.ref sp), some (.int v2), some (.int w.1), some (.int w.2.1)], [], (110, x), w.2.2)) (h1 : t = 1 → P (61, [some (.ref 37), some (.ref sp), some (.int v2), some (.int w.1), none], [], (110, x), w.2.2)) : P (55, [some (.ref 37), some (.ref sp), some (.int v2), some (.int v3), some (.int v4)], [], (110, x), m) := by
  unfold ck_spread_j55l16 at h
  rcases htp with rfl | rfl <;> rcases hsp with rfl | rfl | rfl
  all_goals
    refine mj_gcp hC 2 ?_
    show P (16, [some (.ref 37), some (.ref _), some (.int v2), some (.int v3), some (.int (v4 + 1))], [], (110, x), m)
    cases h
    exact mj_less hC (L0 := [some (.ref 37), some (.ref _), some (.int v2), some (.int v3), some (.int (v4 + 1))]) (And.intro rfl (And.intro rfl (And.intro rfl (And.intro rfl (And.intro rfl trivial))))) (h0 rfl)
set_option maxRecDepth 20000 in
theorem ck_spread_l16_x {Ls tp ip x d : Nat} {Z : mj_X} {R : Option Value → mj_G → mj_M → Prop} {P : mj_K → Prop} (hC : mj_cls false (mj_sh Ls) (mj_rf tp ip) mj_dv mj_cd_119 (mj_Ex false (mj_sh Ls) (mj_rf tp ip) Z d) R P) (hd : 4 ≤ d) {sp : Nat} (htp : tp = 3 ∨ tp = 17) (hsp : sp = 42 ∨ sp = 47 ∨ sp = 52) {v2 : Int32} (s16 : (Int32 × Int32 × mj_M)) {t : Nat} {w : (Int32 × Int32 × mj_M)} (h : ck_spread_l16 tp sp v2 s16 = some (t, w)) (h0 : t = 0 → P (16, [some (.ref 37), some (.ref sp), some (.int v2), some (.int w.1), some (.int w.2.1)], [], (110, x), w.2.2)) (h1 : t = 1 → P (61, [some (.ref 37), some (.ref sp), some (.int v2), some (.int w.1), none], [], (110, x), w.2.2)) : P (16, [some (.ref 37), some (.ref sp), some (.int v2), some (.int s16.1), some (.int s16.2.1)], [], (110, x), s16.2.2) := by
  unfold ck_spread_l16 at h
  rcases htp with rfl | rfl <;> rcases hsp with rfl | rfl | rfl
  all_goals
    refine mj_gcp hC 5 ?_
    show P (mj_pick 61 28 ((mj_I (s16.2.2 _ 0)) ≤ s16.2.1), [some (.ref 37), some (.ref _), some (.int v2), some (.int s16.1), some (.int s16.2.1)], [], (110, x), s16.2.2)
    refine mj_pbr (fun c1 => ?_) (fun c1 => ?_)
    · rw [if_pos c1] at h
      cases h
      exact mj_less hC (L0 := [some (.ref 37), some (.ref _), some (.int v2), some (.int s16.1), none]) (And.intro rfl (And.intro rfl (And.intro rfl (And.intro rfl trivial)))) (h1 rfl)
    · rw [if_neg c1] at h
      refine mj_gcp hC 3 ?_
      show P (34, [some (.ref 37), some (.ref _), some (.int v2), some (.int s16.1), some (.int s16.2.1)], [.int s16.2.1, .ref 41], (110, x), s16.2.2)
      refine mj_pcall hC rfl (bp_at_x (Nat.le_trans (by decide) hd) (by decide)) ?_
      show P (37, [some (.ref 37), some (.ref _), some (.int v2), some (.int s16.1), some (.int s16.2.1)], [.int (fx_at s16.2.2 41 s16.2.1)], (110, x), s16.2.2)
      refine mj_gcp hC 1 ?_
      show P (mj_pick 55 40 ((fx_at s16.2.2 41 s16.2.1) ≤ 0), [some (.ref 37), some (.ref _), some (.int v2), some (.int s16.1), some (.int s16.2.1)], [], (110, x), s16.2.2)
      refine mj_pbr (fun c2 => ?_) (fun c2 => ?_)
      · rw [if_pos c2] at h
        exact mj_less hC (L0 := [some (.ref 37), some (.ref _), some (.int v2), some (.int s16.1), some (.int s16.2.1)]) (And.intro rfl (And.intro rfl (And.intro rfl (And.intro rfl (And.intro rfl trivial))))) (ck_spread_j55l16_x hC hd (by decide) (by decide) h h0 h1)
      · rw [if_neg c2] at h
        refine mj_gcp hC 5 ?_
        show P (50, [some (.ref 37), some (.ref _), some (.int v2), some (.int s16.1), some (.int s16.2.1)], [.int s16.2.1, .ref _, .int s16.1], (110, x), s16.2.2)
        refine mj_pcall hC rfl (bp_at_x (Nat.le_trans (by decide) hd) (by decide)) ?_
        show P (53, [some (.ref 37), some (.ref _), some (.int v2), some (.int s16.1), some (.int s16.2.1)], [.int (fx_at s16.2.2 _ s16.2.1), .int s16.1], (110, x), s16.2.2)
        refine mj_gcp hC 2 ?_
        show P (55, [some (.ref 37), some (.ref _), some (.int v2), some (.int (s16.1 ||| (fx_at s16.2.2 _ s16.2.1))), some (.int s16.2.1)], [], (110, x), s16.2.2)
        exact mj_less hC (L0 := [some (.ref 37), some (.ref _), some (.int v2), some (.int (s16.1 ||| (fx_at s16.2.2 _ s16.2.1))), some (.int s16.2.1)]) (And.intro rfl (And.intro rfl (And.intro rfl (And.intro rfl (And.intro rfl trivial))))) (ck_spread_j55l16_x hC hd (by decide) (by decide) h h0 h1)
set_option maxRecDepth 20000 in
theorem ck_spread_j168l64_x {Ls tp ip x d : Nat} {Z : mj_X} {R : Option Value → mj_G → mj_M → Prop} {P : mj_K → Prop} (hC : mj_cls false (mj_sh Ls) (mj_rf tp ip) mj_dv mj_cd_119 (mj_Ex false (mj_sh Ls) (mj_rf tp ip) Z d) R P) (hd : 4 ≤ d) {sp : Nat} (htp : tp = 3 ∨ tp = 17) (hsp : sp = 42 ∨ sp = 47 ∨ sp = 52)  {v2 : Int32} {v3 : Int32} {v4 : Int32}  {m : mj_M} {t : Nat} {w : (Int32 × mj_M)} (h : ck_spread_j168l64 tp sp  v2 v3 v4 m = some (t, w)) (h0 : t = 0 → P (64, [some (.ref 37), some (.ref sp), some (.int v2), some (.int v3), some (.int w.1)], [], (110, x), w.2)) (h1 : t = 1 → P (174, [none, none, none, none, none], [], (110, x), w.2)) : P (168, [some (.ref 37), some (.ref sp), some (.int v2), some (.int v3), some (.int v4)], [], (110, x), m) := by
  unfold ck_spread_j168l64 at h
  rcases htp with rfl | rfl <;> rcases hsp with rfl | rfl | rfl
  all_goals
    refine mj_gcp hC 2 ?_
    show P (64, [some (.ref 37), some (.ref _), some (.int v2), some (.int v3), some (.int (v4 + 1))], [], (110, x), m)
    cases h
    exact mj_less hC (L0 := [some (.ref 37), some (.ref _), some (.int v2), some (.int v3), some (.int (v4 + 1))]) (And.intro rfl (And.intro rfl (And.intro rfl (And.intro rfl (And.intro rfl trivial))))) (h0 rfl)
set_option maxRecDepth 20000 in
theorem ck_spread_l64_x {Ls tp ip x d : Nat} {Z : mj_X} {R : Option Value → mj_G → mj_M → Prop} {P : mj_K → Prop} (hC : mj_cls false (mj_sh Ls) (mj_rf tp ip) mj_dv mj_cd_119 (mj_Ex false (mj_sh Ls) (mj_rf tp ip) Z d) R P) (hd : 4 ≤ d) {sp : Nat} (htp : tp = 3 ∨ tp = 17) (hsp : sp = 42 ∨ sp = 47 ∨ sp = 52) {v2 : Int32} {v3 : Int32} (s64 : (Int32 × mj_M)) {t : Nat} {w : (Int32 × mj_M)} (h : ck_spread_l64 tp sp v2 v3 s64 = some (t, w)) (h0 : t = 0 → P (64, [some (.ref 37), some (.ref sp), some (.int v2), some (.int v3), some (.int w.1)], [], (110, x), w.2)) (h1 : t = 1 → P (174, [none, none, none, none, none], [], (110, x), w.2)) : P (64, [some (.ref 37), some (.ref sp), some (.int v2), some (.int v3), some (.int s64.1)], [], (110, x), s64.2) := by
  unfold ck_spread_l64 at h
  rcases htp with rfl | rfl <;> rcases hsp with rfl | rfl | rfl
  all_goals
    refine mj_gcp hC 5 ?_
    show P (mj_pick 174 76 ((mj_I (s64.2 _ 0)) ≤ s64.1), [some (.ref 37), some (.ref _), some (.int v2), some (.int v3), some (.int s64.1)], [], (110, x), s64.2)
    refine mj_pbr (fun c4 => ?_) (fun c4 => ?_)
    · rw [if_pos c4] at h
      cases h
      exact mj_less hC (L0 := [none, none, none, none, none]) trivial (h1 rfl)
    · rw [if_neg c4] at h
      refine mj_gcp hC 3 ?_
      show P (82, [some (.ref 37), some (.ref _), some (.int v2), some (.int v3), some (.int s64.1)], [.int s64.1, .ref 41], (110, x), s64.2)
      refine mj_pcall hC rfl (bp_at_x (Nat.le_trans (by decide) hd) (by decide)) ?_
      show P (85, [some (.ref 37), some (.ref _), some (.int v2), some (.int v3), some (.int s64.1)], [.int (fx_at s64.2 41 s64.1)], (110, x), s64.2)
      refine mj_gcp hC 1 ?_
      show P (mj_pick 111 88 ((fx_at s64.2 41 s64.1) ≤ 0), [some (.ref 37), some (.ref _), some (.int v2), some (.int v3), some (.int s64.1)], [], (110, x), s64.2)
      refine mj_pbr (fun c5 => ?_) (fun c5 => ?_)
      · rw [if_pos c5] at h
        refine mj_gcp hC 5 ?_
        show P (119, [some (.ref 37), some (.ref _), some (.int v2), some (.int v3), some (.int s64.1)], [.int s64.1, .int (v3 &&& (mj_I (s64.2 _ 4)))], (110, x), s64.2)
        refine mj_pcall hC rfl (bp_has_x (Nat.le_trans (by decide) hd)) ?_
        show P (122, [some (.ref 37), some (.ref _), some (.int v2), some (.int v3), some (.int s64.1)], [.int (bp_has (v3 &&& (mj_I (s64.2 _ 4))) s64.1 s64.2)], (110, x), s64.2)
        refine mj_gcp hC 1 ?_
        show P (mj_pick 168 125 ((bp_has (v3 &&& (mj_I (s64.2 _ 4))) s64.1 s64.2) = 0), [some (.ref 37), some (.ref _), some (.int v2), some (.int v3), some (.int s64.1)], [], (110, x), s64.2)
        refine mj_pbr (fun c6 => ?_) (fun c6 => ?_)
        · rw [if_pos c6] at h
          exact mj_less hC (L0 := [some (.ref 37), some (.ref _), some (.int v2), some (.int v3), some (.int s64.1)]) (And.intro rfl (And.intro rfl (And.intro rfl (And.intro rfl (And.intro rfl trivial))))) (ck_spread_j168l64_x hC hd (by decide) (by decide) h h0 h1)
        · rw [if_neg c6] at h
          refine mj_gcp hC 5 ?_
          show P (131, [some (.ref 37), some (.ref _), some (.int v2), some (.int v3), some (.int s64.1)], [.int (-1), .int s64.1, .int v2, .ref _, .ref 37], (110, x), s64.2)
          obtain ⟨q7, eq7, h⟩ := mj_bnd h
          refine mj_pcall hC rfl (ck_name_x (Nat.le_trans (by decide) hd) (by decide) (by decide) eq7) ?_
          show P (134, [some (.ref 37), some (.ref _), some (.int v2), some (.int v3), some (.int s64.1)], [], (110, x), q7)
          refine mj_gcp hC 12 ?_
          show P (155, [some (.ref 37), some (.ref _), some (.int v2), some (.int v3), some (.int s64.1)], [.int s64.1, .ref _, .int 1, .int 9, .int 1, .int 2, .ref 37, .int s64.1, .ref _], (110, x), q7)
          refine mj_pcall hC rfl (bp_at_x (Nat.le_trans (by decide) hd) (by decide)) ?_
          show P (158, [some (.ref 37), some (.ref _), some (.int v2), some (.int v3), some (.int s64.1)], [.int (fx_at q7 _ s64.1), .int 1, .int 9, .int 1, .int 2, .ref 37, .int s64.1, .ref _], (110, x), q7)
          refine mj_gcp hC 3 ?_
          show _ ∧ (P (162, [some (.ref 37), some (.ref _), some (.int v2), some (.int v3), some (.int s64.1)], [.int ((1 : Int32) + ((fx_at q7 _ s64.1) / 20)), .int 9, .int 1, .int 2, .ref 37, .int s64.1, .ref _], (110, x), q7))
          refine And.intro (show ¬ ((20 : Int32) = 0) by decide) (?_)
          obtain ⟨q8, eq8, h⟩ := mj_bnd h
          refine mj_pcall hC rfl (ck_lawWithin_x (Nat.le_trans (by decide) hd) (by decide) eq8) ?_
          show P (165, [some (.ref 37), some (.ref _), some (.int v2), some (.int v3), some (.int s64.1)], [.int q8.1, .int s64.1, .ref _], (110, x), q8.2)
          refine mj_pcall hC rfl (bp_put_x (Nat.le_trans (by decide) hd) (by decide)) ?_
          show P (168, [some (.ref 37), some (.ref _), some (.int v2), some (.int v3), some (.int s64.1)], [], (110, x), (fx_put q8.2 _ s64.1 q8.1))
          exact mj_less hC (L0 := [some (.ref 37), some (.ref _), some (.int v2), some (.int v3), some (.int s64.1)]) (And.intro rfl (And.intro rfl (And.intro rfl (And.intro rfl (And.intro rfl trivial))))) (ck_spread_j168l64_x hC hd (by decide) (by decide) h h0 h1)
      · rw [if_neg c5] at h
        refine mj_gcp hC 6 ?_
        show P (100, [some (.ref 37), some (.ref _), some (.int v2), some (.int v3), some (.int s64.1)], [.int s64.1, .ref 41, .int s64.1, .ref _], (110, x), s64.2)
        refine mj_pcall hC rfl (bp_at_x (Nat.le_trans (by decide) hd) (by decide)) ?_
        show P (103, [some (.ref 37), some (.ref _), some (.int v2), some (.int v3), some (.int s64.1)], [.int (fx_at s64.2 41 s64.1), .int s64.1, .ref _], (110, x), s64.2)
        refine mj_gcp hC 2 ?_
        show P (105, [some (.ref 37), some (.ref _), some (.int v2), some (.int v3), some (.int s64.1)], [.int ((fx_at s64.2 41 s64.1) - 1), .int s64.1, .ref _], (110, x), s64.2)
        refine mj_pcall hC rfl (bp_put_x (Nat.le_trans (by decide) hd) (by decide)) ?_
        show P (108, [some (.ref 37), some (.ref _), some (.int v2), some (.int v3), some (.int s64.1)], [], (110, x), (fx_put s64.2 _ s64.1 ((fx_at s64.2 41 s64.1) - 1)))
        refine mj_gcp hC 1 ?_
        show P (168, [some (.ref 37), some (.ref _), some (.int v2), some (.int v3), some (.int s64.1)], [], (110, x), (fx_put s64.2 _ s64.1 ((fx_at s64.2 41 s64.1) - 1)))
        exact mj_less hC (L0 := [some (.ref 37), some (.ref _), some (.int v2), some (.int v3), some (.int s64.1)]) (And.intro rfl (And.intro rfl (And.intro rfl (And.intro rfl (And.intro rfl trivial))))) (ck_spread_j168l64_x hC hd (by decide) (by decide) h h0 h1)
set_option maxRecDepth 20000 in
theorem ck_spread_p {Ls tp ip x d : Nat} {Z : mj_X} {R : Option Value → mj_G → mj_M → Prop} {P : mj_K → Prop} (hC : mj_cls false (mj_sh Ls) (mj_rf tp ip) mj_dv mj_cd_119 (mj_Ex false (mj_sh Ls) (mj_rf tp ip) Z d) R P) (hd : 4 ≤ d) {sp : Nat} (htp : tp = 3 ∨ tp = 17) (hsp : sp = 42 ∨ sp = 47 ∨ sp = 52) {v2 : Int32} {m : mj_M} {r : mj_M} (h : ck_spread tp sp v2 m = some r) (hR : R none (110, x) r) : P (0, [some (.ref 37), some (.ref sp), some (.int v2), none, none], [], (110, x), m) := by
  unfold ck_spread at h
  rcases htp with rfl | rfl <;> rcases hsp with rfl | rfl | rfl
  all_goals
    refine mj_gcp hC 4 ?_
    show P (8, [some (.ref 37), some (.ref _), some (.int v2), none, none], [.ref 41, .ref _], (110, x), m)
    refine mj_pcall hC rfl (bp_copyRow_x (Nat.le_trans (by decide) hd) (by decide) (by decide)) ?_
    show P (11, [some (.ref 37), some (.ref _), some (.int v2), none, none], [], (110, x), (fx_copy m _ 41))
    refine mj_gcp hC 4 ?_
    show P (16, [some (.ref 37), some (.ref _), some (.int v2), some (.int 0), some (.int 0)], [], (110, x), (fx_copy m _ 41))
    obtain ⟨q3, eq3, h⟩ := mj_bnd h
    refine mj_less hC (L0 := [some (.ref 37), some (.ref _), some (.int v2), some (.int 0), some (.int 0)]) (And.intro rfl (And.intro rfl (And.intro rfl (And.intro rfl (And.intro rfl trivial))))) ?_
    refine mj_loop_P (A := fun z16 => P (16, [some (.ref 37), some (.ref _), some (.int v2), some (.int z16.1), some (.int z16.2.1)], [], (110, x), z16.2.2)) (E := fun _ z16 => P (61, [some (.ref 37), some (.ref _), some (.int v2), some (.int z16.1), none], [], (110, x), z16.2.2)) (fun zz t w hb h0 h1 => ck_spread_l16_x hC hd (by decide) (by decide) zz hb h0 (fun ht => h1 0 ht)) mj_F _ q3 eq3 ?_
    refine mj_gcp hC 2 ?_
    show P (64, [some (.ref 37), some (.ref _), some (.int v2), some (.int q3.2.1), some (.int 0)], [], (110, x), q3.2.2.2)
    obtain ⟨q9, eq9, h⟩ := mj_bnd h
    refine mj_less hC (L0 := [some (.ref 37), some (.ref _), some (.int v2), some (.int q3.2.1), some (.int 0)]) (And.intro rfl (And.intro rfl (And.intro rfl (And.intro rfl (And.intro rfl trivial))))) ?_
    refine mj_loop_P (A := fun z64 => P (64, [some (.ref 37), some (.ref _), some (.int v2), some (.int q3.2.1), some (.int z64.1)], [], (110, x), z64.2)) (E := fun _ z64 => P (174, [none, none, none, none, none], [], (110, x), z64.2)) (fun zz t w hb h0 h1 => ck_spread_l64_x hC hd (by decide) (by decide) zz hb h0 (fun ht => h1 0 ht)) mj_F _ q9 eq9 ?_
    cases h
    exact mj_pret hC rfl hR
set_option maxRecDepth 20000 in
theorem ck_spread_x {Ls tp ip x d : Nat} {Z : mj_X} (hd : 5 ≤ d) {sp : Nat} (htp : tp = 3 ∨ tp = 17) (hsp : sp = 42 ∨ sp = 47 ∨ sp = 52) {v2 : Int32} {m : mj_M} {r : mj_M} (h : ck_spread tp sp v2 m = some r) : mj_Ex false (mj_sh Ls) (mj_rf tp ip) Z d 119 [.ref 37, .ref sp, .int v2] (110, x) m none (110, x) r := by
  exact mj_Ex_of (cd := mj_cd_119) (L := [some (.ref 37), some (.ref sp), some (.int v2), none, none]) (by omega) (by decide) rfl (Nat.le_of_ble_eq_true rfl) rfl (fun P hC => ck_spread_p hC (by omega) htp hsp h ⟨rfl, rfl, rfl⟩)
def ck_pass_j57l25 (tp : Nat) (sp : Nat)  (v3 : Int32) (v4 : Int32)  (m : mj_M) : Option (Nat × (Int32 × mj_M)) :=
  some (0, ((v4 + 1), m))
def ck_pass_l25 (tp : Nat) (sp : Nat) (v3 : Int32) (s25 : (Int32 × mj_M)) : Option (Nat × (Int32 × mj_M)) :=
  (if (mj_I (s25.2 tp 5)) ≤ s25.1 then some (1, (s25.1, s25.2)) else
  (if (bp_has (mj_I (s25.2 sp 9)) s25.1 s25.2) = 0 then ck_pass_j57l25 tp sp v3 s25.1 s25.2 else
  (ck_goOnWith tp sp v3 s25.1 s25.2).bind fun q5 =>
  ck_pass_j57l25 tp sp v3 s25.1 q5))
def ck_pass (tp : Nat) (sp : Nat) (v2 : Int32) (m : mj_M) : Option mj_M :=
  (ck_beatOf tp sp v2 m).bind fun q1 =>
  (ck_goingOn tp sp q1.1 q1.2).bind fun q2 =>
  (mj_loop (ck_pass_l25 tp sp q1.1) mj_F (0, (mj_up (mj_up q1.2 sp 9 (.int q2)) sp 10 (.int 0)))).bind fun q6 =>
  (ck_spread tp sp q1.1 q6.2.2).bind fun q7 =>
  (ck_name tp sp q1.1 (-1) (-1) q7).bind fun q8 =>
  (ck_lawWithin tp 1 0 99 1 q8).bind fun q9 =>
  some (mj_up (mj_up q9.2 sp 1 (.int (ma_max 0 ((mj_I (q8 sp 1)) - q9.1) q9.2))) sp 0 (.int ((mj_I (q9.2 sp 0)) + 1)))
set_option maxRecDepth 20000 in
theorem ck_pass_j57l25_x {Ls tp ip x d : Nat} {Z : mj_X} {R : Option Value → mj_G → mj_M → Prop} {P : mj_K → Prop} (hC : mj_cls false (mj_sh Ls) (mj_rf tp ip) mj_dv mj_cd_116 (mj_Ex false (mj_sh Ls) (mj_rf tp ip) Z d) R P) (hd : 5 ≤ d) {sp : Nat} (htp : tp = 3 ∨ tp = 17) (hsp : sp = 42 ∨ sp = 47 ∨ sp = 52)  {v3 : Int32} {v4 : Int32}  {m : mj_M} {t : Nat} {w : (Int32 × mj_M)} (h : ck_pass_j57l25 tp sp  v3 v4 m = some (t, w)) (h0 : t = 0 → P (25, [some (.ref 37), some (.ref sp), none, some (.int v3), some (.int w.1)], [], (110, x), w.2)) (h1 : t = 1 → P (63, [some (.ref 37), some (.ref sp), none, some (.int v3), none], [], (110, x), w.2)) : P (57, [some (.ref 37), some (.ref sp), none, some (.int v3), some (.int v4)], [], (110, x), m) := by
  unfold ck_pass_j57l25 at h
  rcases htp with rfl | rfl <;> rcases hsp with rfl | rfl | rfl
  all_goals
    refine mj_gcp hC 2 ?_
    show P (25, [some (.ref 37), some (.ref _), none, some (.int v3), some (.int (v4 + 1))], [], (110, x), m)
    cases h
    exact mj_less hC (L0 := [some (.ref 37), some (.ref _), none, some (.int v3), some (.int (v4 + 1))]) (And.intro rfl (And.intro rfl (And.intro rfl (And.intro rfl trivial)))) (h0 rfl)
set_option maxRecDepth 20000 in
theorem ck_pass_l25_x {Ls tp ip x d : Nat} {Z : mj_X} {R : Option Value → mj_G → mj_M → Prop} {P : mj_K → Prop} (hC : mj_cls false (mj_sh Ls) (mj_rf tp ip) mj_dv mj_cd_116 (mj_Ex false (mj_sh Ls) (mj_rf tp ip) Z d) R P) (hd : 5 ≤ d) {sp : Nat} (htp : tp = 3 ∨ tp = 17) (hsp : sp = 42 ∨ sp = 47 ∨ sp = 52) {v3 : Int32} (s25 : (Int32 × mj_M)) {t : Nat} {w : (Int32 × mj_M)} (h : ck_pass_l25 tp sp v3 s25 = some (t, w)) (h0 : t = 0 → P (25, [some (.ref 37), some (.ref sp), none, some (.int v3), some (.int w.1)], [], (110, x), w.2)) (h1 : t = 1 → P (63, [some (.ref 37), some (.ref sp), none, some (.int v3), none], [], (110, x), w.2)) : P (25, [some (.ref 37), some (.ref sp), none, some (.int v3), some (.int s25.1)], [], (110, x), s25.2) := by
  unfold ck_pass_l25 at h
  rcases htp with rfl | rfl <;> rcases hsp with rfl | rfl | rfl
  all_goals
    refine mj_gcp hC 5 ?_
    show P (mj_pick 63 37 ((mj_I (s25.2 _ 5)) ≤ s25.1), [some (.ref 37), some (.ref _), none, some (.int v3), some (.int s25.1)], [], (110, x), s25.2)
    refine mj_pbr (fun c3 => ?_) (fun c3 => ?_)
    · rw [if_pos c3] at h
      cases h
      exact mj_less hC (L0 := [some (.ref 37), some (.ref _), none, some (.int v3), none]) (And.intro rfl (And.intro rfl (And.intro rfl trivial))) (h1 rfl)
    · rw [if_neg c3] at h
      refine mj_gcp hC 3 ?_
      show P (43, [some (.ref 37), some (.ref _), none, some (.int v3), some (.int s25.1)], [.int s25.1, .int (mj_I (s25.2 _ 9))], (110, x), s25.2)
      refine mj_pcall hC rfl (bp_has_x (Nat.le_trans (by decide) hd)) ?_
      show P (46, [some (.ref 37), some (.ref _), none, some (.int v3), some (.int s25.1)], [.int (bp_has (mj_I (s25.2 _ 9)) s25.1 s25.2)], (110, x), s25.2)
      refine mj_gcp hC 1 ?_
      show P (mj_pick 57 49 ((bp_has (mj_I (s25.2 _ 9)) s25.1 s25.2) = 0), [some (.ref 37), some (.ref _), none, some (.int v3), some (.int s25.1)], [], (110, x), s25.2)
      refine mj_pbr (fun c4 => ?_) (fun c4 => ?_)
      · rw [if_pos c4] at h
        exact mj_less hC (L0 := [some (.ref 37), some (.ref _), none, some (.int v3), some (.int s25.1)]) (And.intro rfl (And.intro rfl (And.intro rfl (And.intro rfl trivial)))) (ck_pass_j57l25_x hC hd (by decide) (by decide) h h0 h1)
      · rw [if_neg c4] at h
        refine mj_gcp hC 4 ?_
        show P (54, [some (.ref 37), some (.ref _), none, some (.int v3), some (.int s25.1)], [.int s25.1, .int v3, .ref _, .ref 37], (110, x), s25.2)
        obtain ⟨q5, eq5, h⟩ := mj_bnd h
        refine mj_pcall hC rfl (ck_goOnWith_x (Nat.le_trans (by decide) hd) (by decide) (by decide) eq5) ?_
        show P (57, [some (.ref 37), some (.ref _), none, some (.int v3), some (.int s25.1)], [], (110, x), q5)
        exact mj_less hC (L0 := [some (.ref 37), some (.ref _), none, some (.int v3), some (.int s25.1)]) (And.intro rfl (And.intro rfl (And.intro rfl (And.intro rfl trivial)))) (ck_pass_j57l25_x hC hd (by decide) (by decide) h h0 h1)
set_option maxRecDepth 20000 in
theorem ck_pass_p {Ls tp ip x d : Nat} {Z : mj_X} {R : Option Value → mj_G → mj_M → Prop} {P : mj_K → Prop} (hC : mj_cls false (mj_sh Ls) (mj_rf tp ip) mj_dv mj_cd_116 (mj_Ex false (mj_sh Ls) (mj_rf tp ip) Z d) R P) (hd : 5 ≤ d) {sp : Nat} (htp : tp = 3 ∨ tp = 17) (hsp : sp = 42 ∨ sp = 47 ∨ sp = 52) {v2 : Int32} {m : mj_M} {r : mj_M} (h : ck_pass tp sp v2 m = some r) (hR : R none (110, x) r) : P (0, [some (.ref 37), some (.ref sp), some (.int v2), none, none], [], (110, x), m) := by
  unfold ck_pass at h
  rcases htp with rfl | rfl <;> rcases hsp with rfl | rfl | rfl
  all_goals
    refine mj_gcp hC 3 ?_
    show P (3, [some (.ref 37), some (.ref _), some (.int v2), none, none], [.int v2, .ref _, .ref 37], (110, x), m)
    obtain ⟨q1, eq1, h⟩ := mj_bnd h
    refine mj_pcall hC rfl (ck_beatOf_x (Nat.le_trans (by decide) hd) (by decide) (by decide) eq1) ?_
    show P (6, [some (.ref 37), some (.ref _), some (.int v2), none, none], [.int q1.1], (110, x), q1.2)
    refine mj_gcp hC 5 ?_
    show P (11, [some (.ref 37), some (.ref _), some (.int v2), some (.int q1.1), none], [.int q1.1, .ref _, .ref 37, .ref _], (110, x), q1.2)
    obtain ⟨q2, eq2, h⟩ := mj_bnd h
    refine mj_pcall hC rfl (ck_goingOn_x (Nat.le_trans (by decide) hd) (by decide) (by decide) eq2) ?_
    show P (14, [some (.ref 37), some (.ref _), some (.int v2), some (.int q1.1), none], [.int q2, .ref _], (110, x), q1.2)
    refine mj_gcp hC 6 ?_
    show P (25, [some (.ref 37), some (.ref _), some (.int v2), some (.int q1.1), some (.int 0)], [], (110, x), (mj_up (mj_up q1.2 _ 9 (.int q2)) _ 10 (.int 0)))
    obtain ⟨q6, eq6, h⟩ := mj_bnd h
    refine mj_less hC (L0 := [some (.ref 37), some (.ref _), none, some (.int q1.1), some (.int 0)]) (And.intro rfl (And.intro rfl (And.intro rfl (And.intro rfl trivial)))) ?_
    refine mj_loop_P (A := fun z25 => P (25, [some (.ref 37), some (.ref _), none, some (.int q1.1), some (.int z25.1)], [], (110, x), z25.2)) (E := fun _ z25 => P (63, [some (.ref 37), some (.ref _), none, some (.int q1.1), none], [], (110, x), z25.2)) (fun zz t w hb h0 h1 => ck_pass_l25_x hC hd (by decide) (by decide) zz hb h0 (fun ht => h1 0 ht)) mj_F _ q6 eq6 ?_
    refine mj_gcp hC 3 ?_
    show P (66, [some (.ref 37), some (.ref _), none, some (.int q1.1), none], [.int q1.1, .ref _, .ref 37], (110, x), q6.2.2)
    obtain ⟨q7, eq7, h⟩ := mj_bnd h
    refine mj_pcall hC rfl (ck_spread_x (Nat.le_trans (by decide) hd) (by decide) (by decide) eq7) ?_
    show P (69, [some (.ref 37), some (.ref _), none, some (.int q1.1), none], [], (110, x), q7)
    refine mj_gcp hC 5 ?_
    show P (74, [some (.ref 37), some (.ref _), none, some (.int q1.1), none], [.int (-1), .int (-1), .int q1.1, .ref _, .ref 37], (110, x), q7)
    obtain ⟨q8, eq8, h⟩ := mj_bnd h
    refine mj_pcall hC rfl (ck_name_x (Nat.le_trans (by decide) hd) (by decide) (by decide) eq8) ?_
    show P (77, [some (.ref 37), some (.ref _), none, some (.int q1.1), none], [], (110, x), q8)
    refine mj_gcp hC 9 ?_
    show P (89, [some (.ref 37), some (.ref _), none, some (.int q1.1), none], [.int 1, .int 99, .int 0, .int 1, .ref 37, .int (mj_I (q8 _ 1)), .int 0, .ref _], (110, x), q8)
    obtain ⟨q9, eq9, h⟩ := mj_bnd h
    refine mj_pcall hC rfl (ck_lawWithin_x (Nat.le_trans (by decide) hd) (by decide) eq9) ?_
    show P (92, [some (.ref 37), some (.ref _), none, some (.int q1.1), none], [.int q9.1, .int (mj_I (q8 _ 1)), .int 0, .ref _], (110, x), q9.2)
    refine mj_gcp hC 1 ?_
    show P (93, [some (.ref 37), some (.ref _), none, some (.int q1.1), none], [.int ((mj_I (q8 _ 1)) - q9.1), .int 0, .ref _], (110, x), q9.2)
    refine mj_pcall hC rfl (ma_max_x (Nat.le_trans (by decide) hd)) ?_
    show P (96, [some (.ref 37), some (.ref _), none, some (.int q1.1), none], [.int (ma_max 0 ((mj_I (q8 _ 1)) - q9.1) q9.2), .ref _], (110, x), q9.2)
    refine mj_gcp hC 7 ?_
    show P (109, [some (.ref 37), some (.ref _), none, some (.int q1.1), none], [], (110, x), (mj_up (mj_up q9.2 _ 1 (.int (ma_max 0 ((mj_I (q8 _ 1)) - q9.1) q9.2))) _ 0 (.int ((mj_I (q9.2 _ 0)) + 1))))
    cases h
    exact mj_pret hC rfl hR
set_option maxRecDepth 20000 in
theorem ck_pass_x {Ls tp ip x d : Nat} {Z : mj_X} (hd : 6 ≤ d) {sp : Nat} (htp : tp = 3 ∨ tp = 17) (hsp : sp = 42 ∨ sp = 47 ∨ sp = 52) {v2 : Int32} {m : mj_M} {r : mj_M} (h : ck_pass tp sp v2 m = some r) : mj_Ex false (mj_sh Ls) (mj_rf tp ip) Z d 116 [.ref 37, .ref sp, .int v2] (110, x) m none (110, x) r := by
  exact mj_Ex_of (cd := mj_cd_116) (L := [some (.ref 37), some (.ref sp), some (.int v2), none, none]) (by omega) (by decide) rfl (Nat.le_of_ble_eq_true rfl) rfl (fun P hC => ck_pass_p hC (by omega) htp hsp h ⟨rfl, rfl, rfl⟩)
def bp_go_l29 (tp : Nat) (v1 : Int32) (s29 : (Int32 × mj_M)) : Option (Nat × (Int32 × mj_M)) :=
  (if v1 ≤ s29.1 then some (1, (s29.1, s29.2)) else
  (ck_pass tp 42 0 s29.2).bind fun q5 =>
  some (0, ((s29.1 + 1), q5)))
def bp_go (tp : Nat) (v1 : Int32) (m : mj_M) : Option (Int32 × mj_M) :=
  (if v1 < 0 then some ((-1), m) else
  (if 99 < v1 then some ((-1), m) else
  (if ((mj_I (m 42 0)) + v1) ≤ 9900 then (mj_loop (bp_go_l29 tp v1) mj_F (0, m)).bind fun q6 =>
  (if v1 ≤ 0 then some ((mj_I (q6.2.2 42 0)), q6.2.2) else
  (de_forget q6.2.2).bind fun q8 =>
  some ((mj_I (q8 42 0)), q8)) else
  some ((-1), m))))
set_option maxRecDepth 20000 in
theorem bp_go_l29_x {Ls tp ip x d : Nat} {Z : mj_X} {R : Option Value → mj_G → mj_M → Prop} {P : mj_K → Prop} (hC : mj_cls false (mj_sh Ls) (mj_rf tp ip) mj_dv mj_cd_16 (mj_Ex false (mj_sh Ls) (mj_rf tp ip) Z d) R P) (hd : 6 ≤ d) (htp : tp = 3 ∨ tp = 17) {v1 : Int32} (s29 : (Int32 × mj_M)) {t : Nat} {w : (Int32 × mj_M)} (h : bp_go_l29 tp v1 s29 = some (t, w)) (h0 : t = 0 → P (29, [some (.ref 1), some (.int v1), some (.int w.1)], [], (110, x), w.2)) (h1 : t = 1 → P (52, [some (.ref 1), some (.int v1), none], [], (110, x), w.2)) : P (29, [some (.ref 1), some (.int v1), some (.int s29.1)], [], (110, x), s29.2) := by
  unfold bp_go_l29 at h
  rcases htp with rfl | rfl
  all_goals
    refine mj_gcp hC 3 ?_
    show P (mj_pick 52 34 (v1 ≤ s29.1), [some (.ref 1), some (.int v1), some (.int s29.1)], [], (110, x), s29.2)
    refine mj_pbr (fun c4 => ?_) (fun c4 => ?_)
    · rw [if_pos c4] at h
      cases h
      exact mj_less hC (L0 := [some (.ref 1), some (.int v1), none]) (And.intro rfl (And.intro rfl trivial)) (h1 rfl)
    · rw [if_neg c4] at h
      refine mj_gcp hC 5 ?_
      show P (43, [some (.ref 1), some (.int v1), some (.int s29.1)], [.int 0, .ref 42, .ref 37], (110, x), s29.2)
      obtain ⟨q5, eq5, h⟩ := mj_bnd h
      refine mj_pcall hC rfl (ck_pass_x (Nat.le_trans (by decide) hd) (by decide) (by decide) eq5) ?_
      show P (46, [some (.ref 1), some (.int v1), some (.int s29.1)], [], (110, x), q5)
      refine mj_gcp hC 2 ?_
      show P (29, [some (.ref 1), some (.int v1), some (.int (s29.1 + 1))], [], (110, x), q5)
      cases h
      exact mj_less hC (L0 := [some (.ref 1), some (.int v1), some (.int (s29.1 + 1))]) (And.intro rfl (And.intro rfl (And.intro rfl trivial))) (h0 rfl)
set_option maxRecDepth 20000 in
theorem bp_go_p {Ls tp ip x d : Nat} {Z : mj_X} {R : Option Value → mj_G → mj_M → Prop} {P : mj_K → Prop} (hC : mj_cls false (mj_sh Ls) (mj_rf tp ip) mj_dv mj_cd_16 (mj_Ex false (mj_sh Ls) (mj_rf tp ip) Z d) R P) (hd : 6 ≤ d) (htp : tp = 3 ∨ tp = 17) {v1 : Int32} {m : mj_M} {r : (Int32 × mj_M)} (h : bp_go tp v1 m = some r) (hR : R (some (.int r.1)) (110, x) r.2) : P (0, [some (.ref 1), some (.int v1), none], [], (110, x), m) := by
  unfold bp_go at h
  rcases htp with rfl | rfl
  all_goals
    refine mj_gcp hC 2 ?_
    show P (mj_pick 25 4 (v1 < 0), [some (.ref 1), some (.int v1), none], [], (110, x), m)
    refine mj_pbr (fun c1 => ?_) (fun c1 => ?_)
    · rw [if_pos c1] at h
      refine mj_gcp hC 1 ?_
      show P (26, [some (.ref 1), some (.int v1), none], [.int (-1)], (110, x), m)
      cases h
      exact mj_pret hC rfl hR
    · rw [if_neg c1] at h
      refine mj_gcp hC 3 ?_
      show P (mj_pick 25 10 (99 < v1), [some (.ref 1), some (.int v1), none], [], (110, x), m)
      refine mj_pbr (fun c2 => ?_) (fun c2 => ?_)
      · rw [if_pos c2] at h
        refine mj_gcp hC 1 ?_
        show P (26, [some (.ref 1), some (.int v1), none], [.int (-1)], (110, x), m)
        cases h
        exact mj_pret hC rfl hR
      · rw [if_neg c2] at h
        refine mj_gcp hC 7 ?_
        show P (mj_pick 27 25 (((mj_I (m 42 0)) + v1) ≤ 9900), [some (.ref 1), some (.int v1), none], [], (110, x), m)
        refine mj_pbr (fun c3 => ?_) (fun c3 => ?_)
        · rw [if_pos c3] at h
          refine mj_gcp hC 2 ?_
          show P (29, [some (.ref 1), some (.int v1), some (.int 0)], [], (110, x), m)
          obtain ⟨q6, eq6, h⟩ := mj_bnd h
          refine mj_less hC (L0 := [some (.ref 1), some (.int v1), some (.int 0)]) (And.intro rfl (And.intro rfl (And.intro rfl trivial))) ?_
          refine mj_loop_P (A := fun z29 => P (29, [some (.ref 1), some (.int v1), some (.int z29.1)], [], (110, x), z29.2)) (E := fun _ z29 => P (52, [some (.ref 1), some (.int v1), none], [], (110, x), z29.2)) (fun zz t w hb h0 h1 => bp_go_l29_x hC hd (by decide) zz hb h0 (fun ht => h1 0 ht)) mj_F _ q6 eq6 ?_
          refine mj_gcp hC 2 ?_
          show P (mj_pick 63 56 (v1 ≤ 0), [some (.ref 1), some (.int v1), none], [], (110, x), q6.2.2)
          refine mj_pbr (fun c7 => ?_) (fun c7 => ?_)
          · rw [if_pos c7] at h
            refine mj_gcp hC 3 ?_
            show P (70, [some (.ref 1), some (.int v1), none], [.int (mj_I (q6.2.2 42 0))], (110, x), q6.2.2)
            cases h
            exact mj_pret hC rfl hR
          · rw [if_neg c7] at h
            refine mj_gcp hC 2 ?_
            show P (60, [some (.ref 1), some (.int v1), none], [.ref 57], (110, x), q6.2.2)
            obtain ⟨q8, eq8, h⟩ := mj_bnd h
            refine mj_pcall hC rfl (de_forget_x (Nat.le_trans (by decide) hd) eq8) ?_
            show P (63, [some (.ref 1), some (.int v1), none], [], (110, x), q8)
            refine mj_gcp hC 3 ?_
            show P (70, [some (.ref 1), some (.int v1), none], [.int (mj_I (q8 42 0))], (110, x), q8)
            cases h
            exact mj_pret hC rfl hR
        · rw [if_neg c3] at h
          refine mj_gcp hC 1 ?_
          show P (26, [some (.ref 1), some (.int v1), none], [.int (-1)], (110, x), m)
          cases h
          exact mj_pret hC rfl hR
set_option maxRecDepth 20000 in
theorem bp_go_x {Ls tp ip x d : Nat} {Z : mj_X} (hd : 7 ≤ d) (htp : tp = 3 ∨ tp = 17) {v1 : Int32} {m : mj_M} {r : (Int32 × mj_M)} (h : bp_go tp v1 m = some r) : mj_Ex false (mj_sh Ls) (mj_rf tp ip) Z d 16 [.ref 1, .int v1] (110, x) m (some (.int r.1)) (110, x) r.2 := by
  exact mj_Ex_of (cd := mj_cd_16) (L := [some (.ref 1), some (.int v1), none]) (by omega) (by decide) rfl (Nat.le_of_ble_eq_true rfl) rfl (fun P hC => bp_go_p hC (by omega) htp h ⟨rfl, rfl, rfl⟩)
