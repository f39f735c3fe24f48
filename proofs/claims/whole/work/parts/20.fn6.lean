/-! FUNCTIONS OUT OF THE INSTRUCTIONS, AND THAT A RUN GIVES THEM (made by wip/whole/emit.py) -/
def bp_reaches (tp : Nat) (v1 : Int32) (m : mj_M) : Option Int32 :=
  (if (bp_isHere tp v1 m) = 0 then some (-1) else
  (to_reach tp v1 (mj_I (m 42 4)) m).bind fun q2 =>
  some q2)
set_option maxRecDepth 20000 in
theorem bp_reaches_p {Ls tp ip x d : Nat} {Z : mj_X} {R : Option Value → mj_G → mj_M → Prop} {P : mj_K → Prop} (hC : mj_cls false (mj_sh Ls) (mj_rf tp ip) mj_dv mj_cd_32 (mj_Ex false (mj_sh Ls) (mj_rf tp ip) Z d) R P) (hd : 2 ≤ d) (htp : tp = 3 ∨ tp = 17) {v1 : Int32} {m : mj_M} {r : Int32} (h : bp_reaches tp v1 m = some r) (hR : R (some (.int r)) (110, x) m) : P (0, [some (.ref 1), some (.int v1)], [], (110, x), m) := by
  unfold bp_reaches at h
  rcases htp with rfl | rfl
  all_goals
    refine mj_gcp hC 2 ?_
    show P (2, [some (.ref 1), some (.int v1)], [.int v1, .ref 1], (110, x), m)
    refine mj_pcall hC rfl (bp_isHere_x (Nat.le_trans (by decide) hd) (by decide)) ?_
    show P (5, [some (.ref 1), some (.int v1)], [.int (bp_isHere _ v1 m)], (110, x), m)
    refine mj_gcp hC 1 ?_
    show P (mj_pick 26 8 ((bp_isHere _ v1 m) = 0), [some (.ref 1), some (.int v1)], [], (110, x), m)
    refine mj_pbr (fun c1 => ?_) (fun c1 => ?_)
    · rw [if_pos c1] at h
      refine mj_gcp hC 1 ?_
      show P (27, [some (.ref 1), some (.int v1)], [.int (-1)], (110, x), m)
      cases h
      exact mj_pret hC rfl hR
    · rw [if_neg c1] at h
      refine mj_gcp hC 6 ?_
      show P (20, [some (.ref 1), some (.int v1)], [.int (mj_I (m 42 4)), .int v1, .ref _], (110, x), m)
      obtain ⟨q2, eq2, h⟩ := mj_bnd h
      refine mj_pcall hC rfl (to_reach_x (Nat.le_trans (by decide) hd) (by decide) eq2) ?_
      show P (23, [some (.ref 1), some (.int v1)], [.int q2], (110, x), m)
      refine mj_gcp hC 1 ?_
      show P (27, [some (.ref 1), some (.int v1)], [.int q2], (110, x), m)
      cases h
      exact mj_pret hC rfl hR
set_option maxRecDepth 20000 in
theorem bp_reaches_x {Ls tp ip x d : Nat} {Z : mj_X} (hd : 3 ≤ d) (htp : tp = 3 ∨ tp = 17) {v1 : Int32} {m : mj_M} {r : Int32} (h : bp_reaches tp v1 m = some r) : mj_Ex false (mj_sh Ls) (mj_rf tp ip) Z d 32 [.ref 1, .int v1] (110, x) m (some (.int r)) (110, x) m := by
  exact mj_Ex_of (cd := mj_cd_32) (L := [some (.ref 1), some (.int v1)]) (by omega) (by decide) rfl (Nat.le_of_ble_eq_true rfl) rfl (fun P hC => bp_reaches_p hC (by omega) htp h ⟨rfl, rfl, rfl⟩)
def bp_pack_j64l18 (tp : Nat)  (v1 : Int32) (v2 : Int32) (v3 : Int32)  (m : mj_M) : Option (Nat × (Int32 × Int32 × mj_M)) :=
  some (0, (v2, (v3 + 1), m))
def bp_pack_l18 (tp : Nat) (v1 : Int32) (s18 : (Int32 × Int32 × mj_M)) : Option (Nat × (Int32 × Int32 × mj_M)) :=
  (if (mj_I (s18.2.2 tp 5)) ≤ s18.2.1 then some (2, (s18.1, s18.2.1, s18.2.2)) else
  (if (fx_at s18.2.2 45 s18.2.1) ≤ v1 then (if (sa_isDone 42 s18.2.1 s18.2.2) = 0 then bp_pack_j64l18 tp v1 (s18.1 ||| ((1 : Int32) <<< (s18.2.1 &&& 31))) s18.2.1 s18.2.2 else
  bp_pack_j64l18 tp v1 s18.1 s18.2.1 s18.2.2) else
  some (1, (s18.1, s18.2.1, s18.2.2))))
def bp_pack_j99l72 (tp : Nat)  (v1 : Int32) (v2 : Int32) (v3 : Int32)  (m : mj_M) : Option (Nat × (Int32 × mj_M)) :=
  some (0, ((v3 + 1), m))
def bp_pack_l72 (tp : Nat) (v1 : Int32) (v2 : Int32) (s72 : (Int32 × mj_M)) : Option (Nat × (Int32 × mj_M)) :=
  (if v2 < s72.1 then some (1, (s72.1, s72.2)) else
  (if (s72.1 &&& (v2 ^^^ (-1))) = 0 then (bp_fewestDays tp s72.1 v1 s72.2).bind fun q9 =>
  bp_pack_j99l72 tp v1 v2 s72.1 (fx_put s72.2 66 s72.1 q9) else
  bp_pack_j99l72 tp v1 v2 s72.1 s72.2))
def bp_pack (tp : Nat) (v1 : Int32) (m : mj_M) : Option (Int32 × mj_M) :=
  (if v1 < 1 then some ((-1), m) else
  (if v1 < 10000 then (mj_loop (bp_pack_l18 tp v1) mj_F (0, 0, m)).bind fun q6 =>
  (if q6.1 = 0 then some ((-2), q6.2.2.2) else (mj_loop (bp_pack_l72 tp v1 q6.2.1) mj_F (1, q6.2.2.2)).bind fun q10 =>
  some (((fx_at q10.2.2 66 q6.2.1) / 10000), q10.2.2)) else
  some ((-1), m)))
set_option maxRecDepth 20000 in
theorem bp_pack_j64l18_x {Ls tp ip x d : Nat} {Z : mj_X} {R : Option Value → mj_G → mj_M → Prop} {P : mj_K → Prop} (hC : mj_cls false (mj_sh Ls) (mj_rf tp ip) mj_dv mj_cd_34 (mj_Ex false (mj_sh Ls) (mj_rf tp ip) Z d) R P) (hd : 2 ≤ d) (htp : tp = 3 ∨ tp = 17)  {v1 : Int32} {v2 : Int32} {v3 : Int32}  {m : mj_M} {t : Nat} {w : (Int32 × Int32 × mj_M)} (h : bp_pack_j64l18 tp  v1 v2 v3 m = some (t, w)) (h0 : t = 0 → P (18, [some (.ref 1), some (.int v1), some (.int w.1), some (.int w.2.1)], [], (110, x), w.2.2)) (h1 : t = 1 → P (44, [none, none, none, none], [], (110, x), w.2.2)) (h2 : t = 2 → P (70, [some (.ref 1), some (.int v1), some (.int w.1), none], [], (110, x), w.2.2)) : P (64, [some (.ref 1), some (.int v1), some (.int v2), some (.int v3)], [], (110, x), m) := by
  unfold bp_pack_j64l18 at h
  rcases htp with rfl | rfl
  all_goals
    refine mj_gcp hC 2 ?_
    show P (18, [some (.ref 1), some (.int v1), some (.int v2), some (.int (v3 + 1))], [], (110, x), m)
    cases h
    exact mj_less hC (L0 := [some (.ref 1), some (.int v1), some (.int v2), some (.int (v3 + 1))]) (And.intro rfl (And.intro rfl (And.intro rfl (And.intro rfl trivial)))) (h0 rfl)
set_option maxRecDepth 20000 in
theorem bp_pack_l18_x {Ls tp ip x d : Nat} {Z : mj_X} {R : Option Value → mj_G → mj_M → Prop} {P : mj_K → Prop} (hC : mj_cls false (mj_sh Ls) (mj_rf tp ip) mj_dv mj_cd_34 (mj_Ex false (mj_sh Ls) (mj_rf tp ip) Z d) R P) (hd : 2 ≤ d) (htp : tp = 3 ∨ tp = 17) {v1 : Int32} (s18 : (Int32 × Int32 × mj_M)) {t : Nat} {w : (Int32 × Int32 × mj_M)} (h : bp_pack_l18 tp v1 s18 = some (t, w)) (h0 : t = 0 → P (18, [some (.ref 1), some (.int v1), some (.int w.1), some (.int w.2.1)], [], (110, x), w.2.2)) (h1 : t = 1 → P (44, [none, none, none, none], [], (110, x), w.2.2)) (h2 : t = 2 → P (70, [some (.ref 1), some (.int v1), some (.int w.1), none], [], (110, x), w.2.2)) : P (18, [some (.ref 1), some (.int v1), some (.int s18.1), some (.int s18.2.1)], [], (110, x), s18.2.2) := by
  unfold bp_pack_l18 at h
  rcases htp with rfl | rfl
  all_goals
    refine mj_gcp hC 5 ?_
    show P (mj_pick 70 29 ((mj_I (s18.2.2 _ 5)) ≤ s18.2.1), [some (.ref 1), some (.int v1), some (.int s18.1), some (.int s18.2.1)], [], (110, x), s18.2.2)
    refine mj_pbr (fun c3 => ?_) (fun c3 => ?_)
    · rw [if_pos c3] at h
      cases h
      exact mj_less hC (L0 := [some (.ref 1), some (.int v1), some (.int s18.1), none]) (And.intro rfl (And.intro rfl (And.intro rfl trivial))) (h2 rfl)
    · rw [if_neg c3] at h
      refine mj_gcp hC 4 ?_
      show P (37, [some (.ref 1), some (.int v1), some (.int s18.1), some (.int s18.2.1)], [.int s18.2.1, .ref 45], (110, x), s18.2.2)
      refine mj_pcall hC rfl (bp_at_x (Nat.le_trans (by decide) hd) (by decide)) ?_
      show P (40, [some (.ref 1), some (.int v1), some (.int s18.1), some (.int s18.2.1)], [.int (fx_at s18.2.2 45 s18.2.1)], (110, x), s18.2.2)
      refine mj_gcp hC 2 ?_
      show P (mj_pick 47 44 ((fx_at s18.2.2 45 s18.2.1) ≤ v1), [some (.ref 1), some (.int v1), some (.int s18.1), some (.int s18.2.1)], [], (110, x), s18.2.2)
      refine mj_pbr (fun c4 => ?_) (fun c4 => ?_)
      · rw [if_pos c4] at h
        refine mj_gcp hC 3 ?_
        show P (52, [some (.ref 1), some (.int v1), some (.int s18.1), some (.int s18.2.1)], [.int s18.2.1, .ref 42], (110, x), s18.2.2)
        refine mj_pcall hC rfl (sa_isDone_x (Nat.le_trans (by decide) hd) (by decide)) ?_
        show P (55, [some (.ref 1), some (.int v1), some (.int s18.1), some (.int s18.2.1)], [.int (sa_isDone 42 s18.2.1 s18.2.2)], (110, x), s18.2.2)
        refine mj_gcp hC 1 ?_
        show P (mj_pick 58 64 ((sa_isDone 42 s18.2.1 s18.2.2) = 0), [some (.ref 1), some (.int v1), some (.int s18.1), some (.int s18.2.1)], [], (110, x), s18.2.2)
        refine mj_pbr (fun c5 => ?_) (fun c5 => ?_)
        · rw [if_pos c5] at h
          refine mj_gcp hC 6 ?_
          show P (64, [some (.ref 1), some (.int v1), some (.int (s18.1 ||| ((1 : Int32) <<< (s18.2.1 &&& 31)))), some (.int s18.2.1)], [], (110, x), s18.2.2)
          exact mj_less hC (L0 := [some (.ref 1), some (.int v1), some (.int (s18.1 ||| ((1 : Int32) <<< (s18.2.1 &&& 31)))), some (.int s18.2.1)]) (And.intro rfl (And.intro rfl (And.intro rfl (And.intro rfl trivial)))) (bp_pack_j64l18_x hC hd (by decide) h h0 h1 h2)
        · rw [if_neg c5] at h
          exact mj_less hC (L0 := [some (.ref 1), some (.int v1), some (.int s18.1), some (.int s18.2.1)]) (And.intro rfl (And.intro rfl (And.intro rfl (And.intro rfl trivial)))) (bp_pack_j64l18_x hC hd (by decide) h h0 h1 h2)
      · rw [if_neg c4] at h
        cases h
        exact mj_less hC (L0 := [none, none, none, none]) trivial (h1 rfl)
set_option maxRecDepth 20000 in
theorem bp_pack_j99l72_x {Ls tp ip x d : Nat} {Z : mj_X} {R : Option Value → mj_G → mj_M → Prop} {P : mj_K → Prop} (hC : mj_cls false (mj_sh Ls) (mj_rf tp ip) mj_dv mj_cd_34 (mj_Ex false (mj_sh Ls) (mj_rf tp ip) Z d) R P) (hd : 2 ≤ d) (htp : tp = 3 ∨ tp = 17)  {v1 : Int32} {v2 : Int32} {v3 : Int32}  {m : mj_M} {t : Nat} {w : (Int32 × mj_M)} (h : bp_pack_j99l72 tp  v1 v2 v3 m = some (t, w)) (h0 : t = 0 → P (72, [some (.ref 1), some (.int v1), some (.int v2), some (.int w.1)], [], (110, x), w.2)) (h1 : t = 1 → P (105, [some (.ref 1), none, some (.int v2), none], [], (110, x), w.2)) : P (99, [some (.ref 1), some (.int v1), some (.int v2), some (.int v3)], [], (110, x), m) := by
  unfold bp_pack_j99l72 at h
  rcases htp with rfl | rfl
  all_goals
    refine mj_gcp hC 2 ?_
    show P (72, [some (.ref 1), some (.int v1), some (.int v2), some (.int (v3 + 1))], [], (110, x), m)
    cases h
    exact mj_less hC (L0 := [some (.ref 1), some (.int v1), some (.int v2), some (.int (v3 + 1))]) (And.intro rfl (And.intro rfl (And.intro rfl (And.intro rfl trivial)))) (h0 rfl)
set_option maxRecDepth 20000 in
theorem bp_pack_l72_x {Ls tp ip x d : Nat} {Z : mj_X} {R : Option Value → mj_G → mj_M → Prop} {P : mj_K → Prop} (hC : mj_cls false (mj_sh Ls) (mj_rf tp ip) mj_dv mj_cd_34 (mj_Ex false (mj_sh Ls) (mj_rf tp ip) Z d) R P) (hd : 2 ≤ d) (htp : tp = 3 ∨ tp = 17) {v1 : Int32} {v2 : Int32} (s72 : (Int32 × mj_M)) {t : Nat} {w : (Int32 × mj_M)} (h : bp_pack_l72 tp v1 v2 s72 = some (t, w)) (h0 : t = 0 → P (72, [some (.ref 1), some (.int v1), some (.int v2), some (.int w.1)], [], (110, x), w.2)) (h1 : t = 1 → P (105, [some (.ref 1), none, some (.int v2), none], [], (110, x), w.2)) : P (72, [some (.ref 1), some (.int v1), some (.int v2), some (.int s72.1)], [], (110, x), s72.2) := by
  unfold bp_pack_l72 at h
  rcases htp with rfl | rfl
  all_goals
    refine mj_gcp hC 3 ?_
    show P (mj_pick 105 77 (v2 < s72.1), [some (.ref 1), some (.int v1), some (.int v2), some (.int s72.1)], [], (110, x), s72.2)
    refine mj_pbr (fun c7 => ?_) (fun c7 => ?_)
    · rw [if_pos c7] at h
      cases h
      exact mj_less hC (L0 := [some (.ref 1), none, some (.int v2), none]) (And.intro rfl (And.intro rfl trivial)) (h1 rfl)
    · rw [if_neg c7] at h
      refine mj_gcp hC 6 ?_
      show P (mj_pick 85 99 ((s72.1 &&& (v2 ^^^ (-1))) = 0), [some (.ref 1), some (.int v1), some (.int v2), some (.int s72.1)], [], (110, x), s72.2)
      refine mj_pbr (fun c8 => ?_) (fun c8 => ?_)
      · rw [if_pos c8] at h
        refine mj_gcp hC 6 ?_
        show P (93, [some (.ref 1), some (.int v1), some (.int v2), some (.int s72.1)], [.int v1, .int s72.1, .ref 1, .int s72.1, .ref 66], (110, x), s72.2)
        obtain ⟨q9, eq9, h⟩ := mj_bnd h
        refine mj_pcall hC rfl (bp_fewestDays_x (Nat.le_trans (by decide) hd) (by decide) eq9) ?_
        show P (96, [some (.ref 1), some (.int v1), some (.int v2), some (.int s72.1)], [.int q9, .int s72.1, .ref 66], (110, x), s72.2)
        refine mj_pcall hC rfl (bp_put_x (Nat.le_trans (by decide) hd) (by decide)) ?_
        show P (99, [some (.ref 1), some (.int v1), some (.int v2), some (.int s72.1)], [], (110, x), (fx_put s72.2 66 s72.1 q9))
        exact mj_less hC (L0 := [some (.ref 1), some (.int v1), some (.int v2), some (.int s72.1)]) (And.intro rfl (And.intro rfl (And.intro rfl (And.intro rfl trivial)))) (bp_pack_j99l72_x hC hd (by decide) h h0 h1)
      · rw [if_neg c8] at h
        exact mj_less hC (L0 := [some (.ref 1), some (.int v1), some (.int v2), some (.int s72.1)]) (And.intro rfl (And.intro rfl (And.intro rfl (And.intro rfl trivial)))) (bp_pack_j99l72_x hC hd (by decide) h h0 h1)
set_option maxRecDepth 20000 in
theorem bp_pack_p {Ls tp ip x d : Nat} {Z : mj_X} {R : Option Value → mj_G → mj_M → Prop} {P : mj_K → Prop} (hC : mj_cls false (mj_sh Ls) (mj_rf tp ip) mj_dv mj_cd_34 (mj_Ex false (mj_sh Ls) (mj_rf tp ip) Z d) R P) (hd : 2 ≤ d) (htp : tp = 3 ∨ tp = 17) {v1 : Int32} {m : mj_M} {r : (Int32 × mj_M)} (h : bp_pack tp v1 m = some r) (hR : R (some (.int r.1)) (110, x) r.2) : P (0, [some (.ref 1), some (.int v1), none, none], [], (110, x), m) := by
  unfold bp_pack at h
  rcases htp with rfl | rfl
  all_goals
    refine mj_gcp hC 3 ?_
    show P (mj_pick 12 5 (v1 < 1), [some (.ref 1), some (.int v1), none, none], [], (110, x), m)
    refine mj_pbr (fun c1 => ?_) (fun c1 => ?_)
    · rw [if_pos c1] at h
      refine mj_gcp hC 1 ?_
      show P (13, [some (.ref 1), some (.int v1), none, none], [.int (-1)], (110, x), m)
      cases h
      exact mj_pret hC rfl hR
    · rw [if_neg c1] at h
      refine mj_gcp hC 3 ?_
      show P (mj_pick 14 12 (v1 < 10000), [some (.ref 1), some (.int v1), none, none], [], (110, x), m)
      refine mj_pbr (fun c2 => ?_) (fun c2 => ?_)
      · rw [if_pos c2] at h
        refine mj_gcp hC 4 ?_
        show P (18, [some (.ref 1), some (.int v1), some (.int 0), some (.int 0)], [], (110, x), m)
        obtain ⟨q6, eq6, h⟩ := mj_bnd h
        refine mj_less hC (L0 := [some (.ref 1), some (.int v1), some (.int 0), some (.int 0)]) (And.intro rfl (And.intro rfl (And.intro rfl (And.intro rfl trivial)))) ?_
        refine mj_loop_P (A := fun z18 => P (18, [some (.ref 1), some (.int v1), some (.int z18.1), some (.int z18.2.1)], [], (110, x), z18.2.2)) (E := fun j z18 => (j = 0 → P (44, [none, none, none, none], [], (110, x), z18.2.2)) ∧ (¬ j = 0 → P (70, [some (.ref 1), some (.int v1), some (.int z18.1), none], [], (110, x), z18.2.2))) (fun zz t w hb h0 h1 => bp_pack_l18_x hC hd (by decide) zz hb h0 (fun ht => (h1 0 ht).1 rfl) (fun ht => (h1 1 ht).2 (by decide))) mj_F _ q6 eq6 ⟨fun hj => ?_, fun hj => ?_⟩
        · rw [if_pos hj] at h
          refine mj_gcp hC 1 ?_
          show P (46, [none, none, none, none], [.int (-2)], (110, x), q6.2.2.2)
          cases h
          exact mj_pret hC rfl hR
        · rw [if_neg hj] at h
          refine mj_gcp hC 2 ?_
          show P (72, [some (.ref 1), some (.int v1), some (.int q6.2.1), some (.int 1)], [], (110, x), q6.2.2.2)
          obtain ⟨q10, eq10, h⟩ := mj_bnd h
          refine mj_less hC (L0 := [some (.ref 1), some (.int v1), some (.int q6.2.1), some (.int 1)]) (And.intro rfl (And.intro rfl (And.intro rfl (And.intro rfl trivial)))) ?_
          refine mj_loop_P (A := fun z72 => P (72, [some (.ref 1), some (.int v1), some (.int q6.2.1), some (.int z72.1)], [], (110, x), z72.2)) (E := fun _ z72 => P (105, [some (.ref 1), none, some (.int q6.2.1), none], [], (110, x), z72.2)) (fun zz t w hb h0 h1 => bp_pack_l72_x hC hd (by decide) zz hb h0 (fun ht => h1 0 ht)) mj_F _ q10 eq10 ?_
          refine mj_gcp hC 3 ?_
          show P (110, [some (.ref 1), none, some (.int q6.2.1), none], [.int q6.2.1, .ref 66], (110, x), q10.2.2)
          refine mj_pcall hC rfl (bp_at_x (Nat.le_trans (by decide) hd) (by decide)) ?_
          show P (113, [some (.ref 1), none, some (.int q6.2.1), none], [.int (fx_at q10.2.2 66 q6.2.1)], (110, x), q10.2.2)
          refine mj_gcp hC 2 ?_
          show _ ∧ (P (117, [some (.ref 1), none, some (.int q6.2.1), none], [.int ((fx_at q10.2.2 66 q6.2.1) / 10000)], (110, x), q10.2.2))
          refine And.intro (show ¬ ((10000 : Int32) = 0) by decide) (?_)
          cases h
          exact mj_pret hC rfl hR
      · rw [if_neg c2] at h
        refine mj_gcp hC 1 ?_
        show P (13, [some (.ref 1), some (.int v1), none, none], [.int (-1)], (110, x), m)
        cases h
        exact mj_pret hC rfl hR
set_option maxRecDepth 20000 in
theorem bp_pack_x {Ls tp ip x d : Nat} {Z : mj_X} (hd : 3 ≤ d) (htp : tp = 3 ∨ tp = 17) {v1 : Int32} {m : mj_M} {r : (Int32 × mj_M)} (h : bp_pack tp v1 m = some r) : mj_Ex false (mj_sh Ls) (mj_rf tp ip) Z d 34 [.ref 1, .int v1] (110, x) m (some (.int r.1)) (110, x) r.2 := by
  exact mj_Ex_of (cd := mj_cd_34) (L := [some (.ref 1), some (.int v1), none, none]) (by omega) (by decide) rfl (Nat.le_of_ble_eq_true rfl) rfl (fun P hC => bp_pack_p hC (by omega) htp h ⟨rfl, rfl, rfl⟩)
def bp_strange_j121l40 (tp : Nat)  (v1 : Int32) (v2 : Int32) (v3 : Int32) (v4 : Int32) (v5 : Int32)  (m : mj_M) : Option (Nat × (Int32 × Int32)) :=
  some (0, (v4, (v5 + 1)))
def bp_strange_j73l40 (tp : Nat)  (v1 : Int32) (v2 : Int32) (v3 : Int32) (v4 : Int32) (v5 : Int32) (s0 : Int32) (m : mj_M) : Option (Nat × (Int32 × Int32)) :=
  (if (bp_has (mj_I (m 42 4)) v5 m) = 0 then bp_strange_j121l40 tp v1 v2 v3 v4 v5 m else
  (if (fx_at m 43 v5) < v1 then bp_strange_j121l40 tp v1 v2 v3 v4 v5 m else
  (if s0 = v2 then bp_strange_j121l40 tp v1 v2 v3 (v4 ||| ((1 : Int32) <<< (v5 &&& 31))) v5 m else
  bp_strange_j121l40 tp v1 v2 v3 v4 v5 m)))
def bp_strange_l40 (tp : Nat) (v1 : Int32) (v2 : Int32) (v3 : Int32) (m : mj_M) (s40 : (Int32 × Int32)) : Option (Nat × (Int32 × Int32)) :=
  (if (mj_I (m tp 0)) ≤ s40.2 then some (1, (s40.1, s40.2)) else
  (if v3 ≤ (fx_at m (tp + 2) s40.2) then bp_strange_j73l40 tp v1 v2 v3 s40.1 s40.2 1 m else
  bp_strange_j73l40 tp v1 v2 v3 s40.1 s40.2 0 m))
def bp_strange (tp : Nat) (v1 : Int32) (v2 : Int32) (m : mj_M) : Option Int32 :=
  (if v1 < 0 then some (-1) else
  (if 9999 < v1 then some (-1) else
  (if v2 < 0 then some (-1) else
  (if v2 ≤ 1 then (ck_plainBeat tp 42 m).bind fun q5 =>
  (mj_loop (bp_strange_l40 tp v1 v2 q5 m) mj_F (0, 0)).bind fun q11 =>
  some q11.2.1 else
  some (-1)))))
set_option maxRecDepth 20000 in
theorem bp_strange_j121l40_x {Ls tp ip x d : Nat} {Z : mj_X} {R : Option Value → mj_G → mj_M → Prop} {P : mj_K → Prop} (hC : mj_cls false (mj_sh Ls) (mj_rf tp ip) mj_dv mj_cd_37 (mj_Ex false (mj_sh Ls) (mj_rf tp ip) Z d) R P) (hd : 3 ≤ d) (htp : tp = 3 ∨ tp = 17)  {v1 : Int32} {v2 : Int32} {v3 : Int32} {v4 : Int32} {v5 : Int32}  {m : mj_M} {t : Nat} {w : (Int32 × Int32)} (h : bp_strange_j121l40 tp  v1 v2 v3 v4 v5 m = some (t, w)) (h0 : t = 0 → P (40, [some (.ref 1), some (.int v1), some (.int v2), some (.int v3), some (.int w.1), some (.int w.2), none], [], (110, x), m)) (h1 : t = 1 → P (127, [none, none, none, none, some (.int w.1), none, none], [], (110, x), m)) : P (121, [some (.ref 1), some (.int v1), some (.int v2), some (.int v3), some (.int v4), some (.int v5), none], [], (110, x), m) := by
  unfold bp_strange_j121l40 at h
  rcases htp with rfl | rfl
  all_goals
    refine mj_gcp hC 2 ?_
    show P (40, [some (.ref 1), some (.int v1), some (.int v2), some (.int v3), some (.int v4), some (.int (v5 + 1)), none], [], (110, x), m)
    cases h
    exact mj_less hC (L0 := [some (.ref 1), some (.int v1), some (.int v2), some (.int v3), some (.int v4), some (.int (v5 + 1)), none]) (And.intro rfl (And.intro rfl (And.intro rfl (And.intro rfl (And.intro rfl (And.intro rfl trivial)))))) (h0 rfl)
set_option maxRecDepth 20000 in
theorem bp_strange_j73l40_x {Ls tp ip x d : Nat} {Z : mj_X} {R : Option Value → mj_G → mj_M → Prop} {P : mj_K → Prop} (hC : mj_cls false (mj_sh Ls) (mj_rf tp ip) mj_dv mj_cd_37 (mj_Ex false (mj_sh Ls) (mj_rf tp ip) Z d) R P) (hd : 3 ≤ d) (htp : tp = 3 ∨ tp = 17)  {v1 : Int32} {v2 : Int32} {v3 : Int32} {v4 : Int32} {v5 : Int32} {s0 : Int32} {m : mj_M} {t : Nat} {w : (Int32 × Int32)} (h : bp_strange_j73l40 tp  v1 v2 v3 v4 v5 s0 m = some (t, w)) (h0 : t = 0 → P (40, [some (.ref 1), some (.int v1), some (.int v2), some (.int v3), some (.int w.1), some (.int w.2), none], [], (110, x), m)) (h1 : t = 1 → P (127, [none, none, none, none, some (.int w.1), none, none], [], (110, x), m)) : P (73, [some (.ref 1), some (.int v1), some (.int v2), some (.int v3), some (.int v4), some (.int v5), none], [.int s0], (110, x), m) := by
  unfold bp_strange_j73l40 at h
  rcases htp with rfl | rfl
  all_goals
    refine mj_gcp hC 5 ?_
    show P (84, [some (.ref 1), some (.int v1), some (.int v2), some (.int v3), some (.int v4), some (.int v5), some (.int s0)], [.int v5, .int (mj_I (m 42 4))], (110, x), m)
    refine mj_pcall hC rfl (bp_has_x (Nat.le_trans (by decide) hd)) ?_
    show P (87, [some (.ref 1), some (.int v1), some (.int v2), some (.int v3), some (.int v4), some (.int v5), some (.int s0)], [.int (bp_has (mj_I (m 42 4)) v5 m)], (110, x), m)
    refine mj_gcp hC 1 ?_
    show P (mj_pick 121 90 ((bp_has (mj_I (m 42 4)) v5 m) = 0), [some (.ref 1), some (.int v1), some (.int v2), some (.int v3), some (.int v4), some (.int v5), some (.int s0)], [], (110, x), m)
    refine mj_pbr (fun c8 => ?_) (fun c8 => ?_)
    · rw [if_pos c8] at h
      exact mj_less hC (L0 := [some (.ref 1), some (.int v1), some (.int v2), some (.int v3), some (.int v4), some (.int v5), none]) (And.intro rfl (And.intro rfl (And.intro rfl (And.intro rfl (And.intro rfl (And.intro rfl trivial)))))) (bp_strange_j121l40_x hC hd (by decide) h h0 h1)
    · rw [if_neg c8] at h
      refine mj_gcp hC 4 ?_
      show P (99, [some (.ref 1), some (.int v1), some (.int v2), some (.int v3), some (.int v4), some (.int v5), some (.int s0)], [.int v5, .ref 43], (110, x), m)
      refine mj_pcall hC rfl (bp_at_x (Nat.le_trans (by decide) hd) (by decide)) ?_
      show P (102, [some (.ref 1), some (.int v1), some (.int v2), some (.int v3), some (.int v4), some (.int v5), some (.int s0)], [.int (fx_at m 43 v5)], (110, x), m)
      refine mj_gcp hC 2 ?_
      show P (mj_pick 121 106 ((fx_at m 43 v5) < v1), [some (.ref 1), some (.int v1), some (.int v2), some (.int v3), some (.int v4), some (.int v5), some (.int s0)], [], (110, x), m)
      refine mj_pbr (fun c9 => ?_) (fun c9 => ?_)
      · rw [if_pos c9] at h
        exact mj_less hC (L0 := [some (.ref 1), some (.int v1), some (.int v2), some (.int v3), some (.int v4), some (.int v5), none]) (And.intro rfl (And.intro rfl (And.intro rfl (And.intro rfl (And.intro rfl (And.intro rfl trivial)))))) (bp_strange_j121l40_x hC hd (by decide) h h0 h1)
      · rw [if_neg c9] at h
        refine mj_gcp hC 3 ?_
        show P (mj_pick 112 121 (s0 = v2), [some (.ref 1), some (.int v1), some (.int v2), some (.int v3), some (.int v4), some (.int v5), some (.int s0)], [], (110, x), m)
        refine mj_pbr (fun c10 => ?_) (fun c10 => ?_)
        · rw [if_pos c10] at h
          refine mj_gcp hC 6 ?_
          show P (121, [some (.ref 1), some (.int v1), some (.int v2), some (.int v3), some (.int (v4 ||| ((1 : Int32) <<< (v5 &&& 31)))), some (.int v5), some (.int s0)], [], (110, x), m)
          exact mj_less hC (L0 := [some (.ref 1), some (.int v1), some (.int v2), some (.int v3), some (.int (v4 ||| ((1 : Int32) <<< (v5 &&& 31)))), some (.int v5), none]) (And.intro rfl (And.intro rfl (And.intro rfl (And.intro rfl (And.intro rfl (And.intro rfl trivial)))))) (bp_strange_j121l40_x hC hd (by decide) h h0 h1)
        · rw [if_neg c10] at h
          exact mj_less hC (L0 := [some (.ref 1), some (.int v1), some (.int v2), some (.int v3), some (.int v4), some (.int v5), none]) (And.intro rfl (And.intro rfl (And.intro rfl (And.intro rfl (And.intro rfl (And.intro rfl trivial)))))) (bp_strange_j121l40_x hC hd (by decide) h h0 h1)
set_option maxRecDepth 20000 in
theorem bp_strange_l40_x {Ls tp ip x d : Nat} {Z : mj_X} {R : Option Value → mj_G → mj_M → Prop} {P : mj_K → Prop} (hC : mj_cls false (mj_sh Ls) (mj_rf tp ip) mj_dv mj_cd_37 (mj_Ex false (mj_sh Ls) (mj_rf tp ip) Z d) R P) (hd : 3 ≤ d) (htp : tp = 3 ∨ tp = 17) {v1 : Int32} {v2 : Int32} {v3 : Int32} {m : mj_M} (s40 : (Int32 × Int32)) {t : Nat} {w : (Int32 × Int32)} (h : bp_strange_l40 tp v1 v2 v3 m s40 = some (t, w)) (h0 : t = 0 → P (40, [some (.ref 1), some (.int v1), some (.int v2), some (.int v3), some (.int w.1), some (.int w.2), none], [], (110, x), m)) (h1 : t = 1 → P (127, [none, none, none, none, some (.int w.1), none, none], [], (110, x), m)) : P (40, [some (.ref 1), some (.int v1), some (.int v2), some (.int v3), some (.int s40.1), some (.int s40.2), none], [], (110, x), m) := by
  unfold bp_strange_l40 at h
  rcases htp with rfl | rfl
  all_goals
    refine mj_gcp hC 5 ?_
    show P (mj_pick 127 52 ((mj_I (m _ 0)) ≤ s40.2), [some (.ref 1), some (.int v1), some (.int v2), some (.int v3), some (.int s40.1), some (.int s40.2), none], [], (110, x), m)
    refine mj_pbr (fun c6 => ?_) (fun c6 => ?_)
    · rw [if_pos c6] at h
      cases h
      exact mj_less hC (L0 := [none, none, none, none, some (.int s40.1), none, none]) (And.intro rfl trivial) (h1 rfl)
    · rw [if_neg c6] at h
      refine mj_gcp hC 4 ?_
      show P (61, [some (.ref 1), some (.int v1), some (.int v2), some (.int v3), some (.int s40.1), some (.int s40.2), none], [.int s40.2, .ref _], (110, x), m)
      refine mj_pcall hC rfl (bp_at_x (Nat.le_trans (by decide) hd) (by decide)) ?_
      show P (64, [some (.ref 1), some (.int v1), some (.int v2), some (.int v3), some (.int s40.1), some (.int s40.2), none], [.int (fx_at m _ s40.2)], (110, x), m)
      refine mj_gcp hC 2 ?_
      show P (mj_pick 72 68 (v3 ≤ (fx_at m _ s40.2)), [some (.ref 1), some (.int v1), some (.int v2), some (.int v3), some (.int s40.1), some (.int s40.2), none], [], (110, x), m)
      refine mj_pbr (fun c7 => ?_) (fun c7 => ?_)
      · rw [if_pos c7] at h
        refine mj_gcp hC 1 ?_
        show P (73, [some (.ref 1), some (.int v1), some (.int v2), some (.int v3), some (.int s40.1), some (.int s40.2), none], [.int 1], (110, x), m)
        exact mj_less hC (L0 := [some (.ref 1), some (.int v1), some (.int v2), some (.int v3), some (.int s40.1), some (.int s40.2), none]) (And.intro rfl (And.intro rfl (And.intro rfl (And.intro rfl (And.intro rfl (And.intro rfl trivial)))))) (bp_strange_j73l40_x hC hd (by decide) h h0 h1)
      · rw [if_neg c7] at h
        refine mj_gcp hC 2 ?_
        show P (73, [some (.ref 1), some (.int v1), some (.int v2), some (.int v3), some (.int s40.1), some (.int s40.2), none], [.int 0], (110, x), m)
        exact mj_less hC (L0 := [some (.ref 1), some (.int v1), some (.int v2), some (.int v3), some (.int s40.1), some (.int s40.2), none]) (And.intro rfl (And.intro rfl (And.intro rfl (And.intro rfl (And.intro rfl (And.intro rfl trivial)))))) (bp_strange_j73l40_x hC hd (by decide) h h0 h1)
set_option maxRecDepth 20000 in
theorem bp_strange_p {Ls tp ip x d : Nat} {Z : mj_X} {R : Option Value → mj_G → mj_M → Prop} {P : mj_K → Prop} (hC : mj_cls false (mj_sh Ls) (mj_rf tp ip) mj_dv mj_cd_37 (mj_Ex false (mj_sh Ls) (mj_rf tp ip) Z d) R P) (hd : 3 ≤ d) (htp : tp = 3 ∨ tp = 17) {v1 : Int32} {v2 : Int32} {m : mj_M} {r : Int32} (h : bp_strange tp v1 v2 m = some r) (hR : R (some (.int r)) (110, x) m) : P (0, [some (.ref 1), some (.int v1), some (.int v2), none, none, none, none], [], (110, x), m) := by
  unfold bp_strange at h
  rcases htp with rfl | rfl
  all_goals
    refine mj_gcp hC 2 ?_
    show P (mj_pick 20 4 (v1 < 0), [some (.ref 1), some (.int v1), some (.int v2), none, none, none, none], [], (110, x), m)
    refine mj_pbr (fun c1 => ?_) (fun c1 => ?_)
    · rw [if_pos c1] at h
      refine mj_gcp hC 1 ?_
      show P (21, [some (.ref 1), some (.int v1), some (.int v2), none, none, none, none], [.int (-1)], (110, x), m)
      cases h
      exact mj_pret hC rfl hR
    · rw [if_neg c1] at h
      refine mj_gcp hC 3 ?_
      show P (mj_pick 20 11 (9999 < v1), [some (.ref 1), some (.int v1), some (.int v2), none, none, none, none], [], (110, x), m)
      refine mj_pbr (fun c2 => ?_) (fun c2 => ?_)
      · rw [if_pos c2] at h
        refine mj_gcp hC 1 ?_
        show P (21, [some (.ref 1), some (.int v1), some (.int v2), none, none, none, none], [.int (-1)], (110, x), m)
        cases h
        exact mj_pret hC rfl hR
      · rw [if_neg c2] at h
        refine mj_gcp hC 2 ?_
        show P (mj_pick 20 15 (v2 < 0), [some (.ref 1), some (.int v1), some (.int v2), none, none, none, none], [], (110, x), m)
        refine mj_pbr (fun c3 => ?_) (fun c3 => ?_)
        · rw [if_pos c3] at h
          refine mj_gcp hC 1 ?_
          show P (21, [some (.ref 1), some (.int v1), some (.int v2), none, none, none, none], [.int (-1)], (110, x), m)
          cases h
          exact mj_pret hC rfl hR
        · rw [if_neg c3] at h
          refine mj_gcp hC 3 ?_
          show P (mj_pick 22 20 (v2 ≤ 1), [some (.ref 1), some (.int v1), some (.int v2), none, none, none, none], [], (110, x), m)
          refine mj_pbr (fun c4 => ?_) (fun c4 => ?_)
          · rw [if_pos c4] at h
            refine mj_gcp hC 4 ?_
            show P (30, [some (.ref 1), some (.int v1), some (.int v2), none, none, none, none], [.ref 42, .ref 37], (110, x), m)
            obtain ⟨q5, eq5, h⟩ := mj_bnd h
            refine mj_pcall hC rfl (ck_plainBeat_x (Nat.le_trans (by decide) hd) (by decide) (by decide) eq5) ?_
            show P (33, [some (.ref 1), some (.int v1), some (.int v2), none, none, none, none], [.int q5], (110, x), m)
            refine mj_gcp hC 5 ?_
            show P (40, [some (.ref 1), some (.int v1), some (.int v2), some (.int q5), some (.int 0), some (.int 0), none], [], (110, x), m)
            obtain ⟨q11, eq11, h⟩ := mj_bnd h
            refine mj_less hC (L0 := [some (.ref 1), some (.int v1), some (.int v2), some (.int q5), some (.int 0), some (.int 0), none]) (And.intro rfl (And.intro rfl (And.intro rfl (And.intro rfl (And.intro rfl (And.intro rfl trivial)))))) ?_
            refine mj_loop_P (A := fun z40 => P (40, [some (.ref 1), some (.int v1), some (.int v2), some (.int q5), some (.int z40.1), some (.int z40.2), none], [], (110, x), m)) (E := fun _ z40 => P (127, [none, none, none, none, some (.int z40.1), none, none], [], (110, x), m)) (fun zz t w hb h0 h1 => bp_strange_l40_x hC hd (by decide) zz hb h0 (fun ht => h1 0 ht)) mj_F _ q11 eq11 ?_
            refine mj_gcp hC 1 ?_
            show P (129, [none, none, none, none, some (.int q11.2.1), none, none], [.int q11.2.1], (110, x), m)
            cases h
            exact mj_pret hC rfl hR
          · rw [if_neg c4] at h
            refine mj_gcp hC 1 ?_
            show P (21, [some (.ref 1), some (.int v1), some (.int v2), none, none, none, none], [.int (-1)], (110, x), m)
            cases h
            exact mj_pret hC rfl hR
set_option maxRecDepth 20000 in
theorem bp_strange_x {Ls tp ip x d : Nat} {Z : mj_X} (hd : 4 ≤ d) (htp : tp = 3 ∨ tp = 17) {v1 : Int32} {v2 : Int32} {m : mj_M} {r : Int32} (h : bp_strange tp v1 v2 m = some r) : mj_Ex false (mj_sh Ls) (mj_rf tp ip) Z d 37 [.ref 1, .int v1, .int v2] (110, x) m (some (.int r)) (110, x) m := by
  exact mj_Ex_of (cd := mj_cd_37) (L := [some (.ref 1), some (.int v1), some (.int v2), none, none, none, none]) (by omega) (by decide) rfl (Nat.le_of_ble_eq_true rfl) rfl (fun P hC => bp_strange_p hC (by omega) htp h ⟨rfl, rfl, rfl⟩)
def bp_goOn (tp : Nat)  (m : mj_M) : Option Int32 :=
  (ck_plainBeat tp 42 m).bind fun q1 =>
  (ck_goingOn tp 42 q1 m).bind fun q2 =>
  some q2
set_option maxRecDepth 20000 in
theorem bp_goOn_p {Ls tp ip x d : Nat} {Z : mj_X} {R : Option Value → mj_G → mj_M → Prop} {P : mj_K → Prop} (hC : mj_cls false (mj_sh Ls) (mj_rf tp ip) mj_dv mj_cd_39 (mj_Ex false (mj_sh Ls) (mj_rf tp ip) Z d) R P) (hd : 3 ≤ d) (htp : tp = 3 ∨ tp = 17)  {m : mj_M} {r : Int32} (h : bp_goOn tp m = some r) (hR : R (some (.int r)) (110, x) m) : P (0, [some (.ref 1)], [], (110, x), m) := by
  unfold bp_goOn at h
  rcases htp with rfl | rfl
  all_goals
    refine mj_gcp hC 8 ?_
    show P (16, [some (.ref 1)], [.ref 42, .ref 37, .ref 42, .ref 37], (110, x), m)
    obtain ⟨q1, eq1, h⟩ := mj_bnd h
    refine mj_pcall hC rfl (ck_plainBeat_x (Nat.le_trans (by decide) hd) (by decide) (by decide) eq1) ?_
    show P (19, [some (.ref 1)], [.int q1, .ref 42, .ref 37], (110, x), m)
    obtain ⟨q2, eq2, h⟩ := mj_bnd h
    refine mj_pcall hC rfl (ck_goingOn_x (Nat.le_trans (by decide) hd) (by decide) (by decide) eq2) ?_
    show P (22, [some (.ref 1)], [.int q2], (110, x), m)
    cases h
    exact mj_pret hC rfl hR
set_option maxRecDepth 20000 in
theorem bp_goOn_x {Ls tp ip x d : Nat} {Z : mj_X} (hd : 4 ≤ d) (htp : tp = 3 ∨ tp = 17)  {m : mj_M} {r : Int32} (h : bp_goOn tp m = some r) : mj_Ex false (mj_sh Ls) (mj_rf tp ip) Z d 39 [.ref 1] (110, x) m (some (.int r)) (110, x) m := by
  exact mj_Ex_of (cd := mj_cd_39) (L := [some (.ref 1)]) (by omega) (by decide) rfl (Nat.le_of_ble_eq_true rfl) rfl (fun P hC => bp_goOn_p hC (by omega) htp h ⟨rfl, rfl, rfl⟩)
def bp_count (tp : Nat) (v1 : Int32) (m : mj_M) : Option Int32 :=
  (if v1 = 0 then some (mj_I (m tp 0)) else
  (if v1 = 1 then (to_tieCount tp m).bind fun q3 =>
  some q3 else
  (if v1 = 2 then some (mj_I (m tp 5)) else
  (if v1 = 3 then some (mj_I (m tp 16)) else
  (if v1 = 4 then some (mj_I (m 42 0)) else
  (if v1 = 5 then some (mj_I (m 42 1)) else
  (if v1 = 6 then some (mj_I (m 42 2)) else
  (if v1 = 7 then (sa_doneCount 42 (mj_I (m tp 5)) m).bind fun q10 =>
  some q10 else
  (if v1 = 8 then (sa_allSlips 42 m).bind fun q12 =>
  some q12 else
  (if v1 = 9 then (sa_hiccupping 42 m).bind fun q14 =>
  some q14 else
  (if v1 = 10 then some (ig_bitCount (mj_I (m 42 4)) m) else
  (if v1 = 11 then some (mj_I (m 61 0)) else
  (if v1 = 12 then some (si_knownCount m) else
  (if v1 = 13 then some (mj_I (m 57 0)) else
  some (-1)))))))))))))))
set_option maxRecDepth 20000 in
theorem bp_count_p {Ls tp ip x d : Nat} {Z : mj_X} {R : Option Value → mj_G → mj_M → Prop} {P : mj_K → Prop} (hC : mj_cls false (mj_sh Ls) (mj_rf tp ip) mj_dv mj_cd_52 (mj_Ex false (mj_sh Ls) (mj_rf tp ip) Z d) R P) (hd : 4 ≤ d) (htp : tp = 3 ∨ tp = 17) {v1 : Int32} {m : mj_M} {r : Int32} (h : bp_count tp v1 m = some r) (hR : R (some (.int r)) (110, x) m) : P (0, [some (.ref 1), some (.int v1)], [], (110, x), m) := by
  unfold bp_count at h
  rcases htp with rfl | rfl
  all_goals
    refine mj_gcp hC 2 ?_
    show P ((mj_sw v1 [(0, 72), (1, 80), (2, 88), (3, 96), (4, 104), (5, 112), (6, 120), (7, 128), (8, 143), (9, 151), (10, 159), (11, 170), (12, 178), (13, 186)] 194), [some (.ref 1), some (.int v1)], [], (110, x), m)
    refine mj_psw (fun c1 => ?_) (fun c1 => ?_)
    · rw [if_pos c1] at h
      refine mj_gcp hC 3 ?_
      show P (79, [some (.ref 1), some (.int v1)], [.int (mj_I (m _ 0))], (110, x), m)
      cases h
      exact mj_pret hC rfl hR
    · rw [if_neg c1] at h
      refine mj_psw (fun c2 => ?_) (fun c2 => ?_)
      · rw [if_pos c2] at h
        refine mj_gcp hC 2 ?_
        show P (84, [some (.ref 1), some (.int v1)], [.ref _], (110, x), m)
        obtain ⟨q3, eq3, h⟩ := mj_bnd h
        refine mj_pcall hC rfl (to_tieCount_x (Nat.le_trans (by decide) hd) (by decide) eq3) ?_
        show P (87, [some (.ref 1), some (.int v1)], [.int q3], (110, x), m)
        cases h
        exact mj_pret hC rfl hR
      · rw [if_neg c2] at h
        refine mj_psw (fun c4 => ?_) (fun c4 => ?_)
        · rw [if_pos c4] at h
          refine mj_gcp hC 3 ?_
          show P (95, [some (.ref 1), some (.int v1)], [.int (mj_I (m _ 5))], (110, x), m)
          cases h
          exact mj_pret hC rfl hR
        · rw [if_neg c4] at h
          refine mj_psw (fun c5 => ?_) (fun c5 => ?_)
          · rw [if_pos c5] at h
            refine mj_gcp hC 3 ?_
            show P (103, [some (.ref 1), some (.int v1)], [.int (mj_I (m _ 16))], (110, x), m)
            cases h
            exact mj_pret hC rfl hR
          · rw [if_neg c5] at h
            refine mj_psw (fun c6 => ?_) (fun c6 => ?_)
            · rw [if_pos c6] at h
              refine mj_gcp hC 3 ?_
              show P (111, [some (.ref 1), some (.int v1)], [.int (mj_I (m 42 0))], (110, x), m)
              cases h
              exact mj_pret hC rfl hR
            · rw [if_neg c6] at h
              refine mj_psw (fun c7 => ?_) (fun c7 => ?_)
              · rw [if_pos c7] at h
                refine mj_gcp hC 3 ?_
                show P (119, [some (.ref 1), some (.int v1)], [.int (mj_I (m 42 1))], (110, x), m)
                cases h
                exact mj_pret hC rfl hR
              · rw [if_neg c7] at h
                refine mj_psw (fun c8 => ?_) (fun c8 => ?_)
                · rw [if_pos c8] at h
                  refine mj_gcp hC 3 ?_
                  show P (127, [some (.ref 1), some (.int v1)], [.int (mj_I (m 42 2))], (110, x), m)
                  cases h
                  exact mj_pret hC rfl hR
                · rw [if_neg c8] at h
                  refine mj_psw (fun c9 => ?_) (fun c9 => ?_)
                  · rw [if_pos c9] at h
                    refine mj_gcp hC 5 ?_
                    show P (139, [some (.ref 1), some (.int v1)], [.int (mj_I (m _ 5)), .ref 42], (110, x), m)
                    obtain ⟨q10, eq10, h⟩ := mj_bnd h
                    refine mj_pcall hC rfl (sa_doneCount_x (Nat.le_trans (by decide) hd) (by decide) eq10) ?_
                    show P (142, [some (.ref 1), some (.int v1)], [.int q10], (110, x), m)
                    cases h
                    exact mj_pret hC rfl hR
                  · rw [if_neg c9] at h
                    refine mj_psw (fun c11 => ?_) (fun c11 => ?_)
                    · rw [if_pos c11] at h
                      refine mj_gcp hC 2 ?_
                      show P (147, [some (.ref 1), some (.int v1)], [.ref 42], (110, x), m)
                      obtain ⟨q12, eq12, h⟩ := mj_bnd h
                      refine mj_pcall hC rfl (sa_allSlips_x (Nat.le_trans (by decide) hd) (by decide) eq12) ?_
                      show P (150, [some (.ref 1), some (.int v1)], [.int q12], (110, x), m)
                      cases h
                      exact mj_pret hC rfl hR
                    · rw [if_neg c11] at h
                      refine mj_psw (fun c13 => ?_) (fun c13 => ?_)
                      · rw [if_pos c13] at h
                        refine mj_gcp hC 2 ?_
                        show P (155, [some (.ref 1), some (.int v1)], [.ref 42], (110, x), m)
                        obtain ⟨q14, eq14, h⟩ := mj_bnd h
                        refine mj_pcall hC rfl (sa_hiccupping_x (Nat.le_trans (by decide) hd) (by decide) eq14) ?_
                        show P (158, [some (.ref 1), some (.int v1)], [.int q14], (110, x), m)
                        cases h
                        exact mj_pret hC rfl hR
                      · rw [if_neg c13] at h
                        refine mj_psw (fun c15 => ?_) (fun c15 => ?_)
                        · rw [if_pos c15] at h
                          refine mj_gcp hC 3 ?_
                          show P (166, [some (.ref 1), some (.int v1)], [.int (mj_I (m 42 4))], (110, x), m)
                          refine mj_pcall hC rfl (ig_bitCount_x (Nat.le_trans (by decide) hd)) ?_
                          show P (169, [some (.ref 1), some (.int v1)], [.int (ig_bitCount (mj_I (m 42 4)) m)], (110, x), m)
                          cases h
                          exact mj_pret hC rfl hR
                        · rw [if_neg c15] at h
                          refine mj_psw (fun c16 => ?_) (fun c16 => ?_)
                          · rw [if_pos c16] at h
                            refine mj_gcp hC 3 ?_
                            show P (177, [some (.ref 1), some (.int v1)], [.int (mj_I (m 61 0))], (110, x), m)
                            cases h
                            exact mj_pret hC rfl hR
                          · rw [if_neg c16] at h
                            refine mj_psw (fun c17 => ?_) (fun c17 => ?_)
                            · rw [if_pos c17] at h
                              refine mj_gcp hC 2 ?_
                              show P (182, [some (.ref 1), some (.int v1)], [.ref 61], (110, x), m)
                              refine mj_pcall hC rfl (si_knownCount_x (Nat.le_trans (by decide) hd)) ?_
                              show P (185, [some (.ref 1), some (.int v1)], [.int (si_knownCount m)], (110, x), m)
                              cases h
                              exact mj_pret hC rfl hR
                            · rw [if_neg c17] at h
                              refine mj_psw (fun c18 => ?_) (fun c18 => ?_)
                              · rw [if_pos c18] at h
                                refine mj_gcp hC 3 ?_
                                show P (193, [some (.ref 1), some (.int v1)], [.int (mj_I (m 57 0))], (110, x), m)
                                cases h
                                exact mj_pret hC rfl hR
                              · rw [if_neg c18] at h
                                show P (194, [some (.ref 1), some (.int v1)], [], (110, x), m)
                                refine mj_gcp hC 1 ?_
                                show P (195, [some (.ref 1), some (.int v1)], [.int (-1)], (110, x), m)
                                cases h
                                exact mj_pret hC rfl hR
set_option maxRecDepth 20000 in
theorem bp_count_x {Ls tp ip x d : Nat} {Z : mj_X} (hd : 5 ≤ d) (htp : tp = 3 ∨ tp = 17) {v1 : Int32} {m : mj_M} {r : Int32} (h : bp_count tp v1 m = some r) : mj_Ex false (mj_sh Ls) (mj_rf tp ip) Z d 52 [.ref 1, .int v1] (110, x) m (some (.int r)) (110, x) m := by
  exact mj_Ex_of (cd := mj_cd_52) (L := [some (.ref 1), some (.int v1)]) (by omega) (by decide) rfl (Nat.le_of_ble_eq_true rfl) rfl (fun P hC => bp_count_p hC (by omega) htp h ⟨rfl, rfl, rfl⟩)
def rd_take  (v1 : Int32) (m : mj_M) : Option mj_M :=
  (if (rd_sees v1 m) = 0 then (rd_refuse 1 m).bind fun q2 =>
  some q2 else
  (tk_step m).bind fun q3 =>
  some q3)
set_option maxRecDepth 20000 in
theorem rd_take_p {Ls tp ip x d : Nat} {Z : mj_X} {R : Option Value → mj_G → mj_M → Prop} {P : mj_K → Prop} (hC : mj_cls false (mj_sh Ls) (mj_rf tp ip) mj_dv mj_cd_76 (mj_Ex false (mj_sh Ls) (mj_rf tp ip) Z d) R P) (hd : 2 ≤ d) {v1 : Int32} {m : mj_M} {r : mj_M} (h : rd_take v1 m = some r) (hR : R none (110, x) r) : P (0, [some (.ref 31), some (.int v1)], [], (110, x), m) := by
  unfold rd_take at h
  refine mj_gcp hC 2 ?_
  show P (2, [some (.ref 31), some (.int v1)], [.int v1, .ref 31], (110, x), m)
  refine mj_pcall hC rfl (rd_sees_x (Nat.le_trans (by decide) hd)) ?_
  show P (5, [some (.ref 31), some (.int v1)], [.int (rd_sees v1 m)], (110, x), m)
  refine mj_gcp hC 1 ?_
  show P (mj_pick 18 8 ((rd_sees v1 m) = 0), [some (.ref 31), some (.int v1)], [], (110, x), m)
  refine mj_pbr (fun c1 => ?_) (fun c1 => ?_)
  · rw [if_pos c1] at h
    refine mj_gcp hC 2 ?_
    show P (20, [some (.ref 31), some (.int v1)], [.int 1, .ref 31], (110, x), m)
    obtain ⟨q2, eq2, h⟩ := mj_bnd h
    refine mj_pcall hC rfl (rd_refuse_x (Nat.le_trans (by decide) hd) eq2) ?_
    show P (23, [some (.ref 31), some (.int v1)], [], (110, x), q2)
    cases h
    exact mj_pret hC rfl hR
  · rw [if_neg c1] at h
    refine mj_gcp hC 2 ?_
    show P (12, [some (.ref 31), some (.int v1)], [.ref 32], (110, x), m)
    obtain ⟨q3, eq3, h⟩ := mj_bnd h
    refine mj_pcall hC rfl (tk_step_x (Nat.le_trans (by decide) hd) eq3) ?_
    show P (15, [some (.ref 31), some (.int v1)], [], (110, x), q3)
    refine mj_gcp hC 1 ?_
    show P (23, [some (.ref 31), some (.int v1)], [], (110, x), q3)
    cases h
    exact mj_pret hC rfl hR
set_option maxRecDepth 20000 in
theorem rd_take_x {Ls tp ip x d : Nat} {Z : mj_X} (hd : 3 ≤ d) {v1 : Int32} {m : mj_M} {r : mj_M} (h : rd_take v1 m = some r) : mj_Ex false (mj_sh Ls) (mj_rf tp ip) Z d 76 [.ref 31, .int v1] (110, x) m none (110, x) r := by
  exact mj_Ex_of (cd := mj_cd_76) (L := [some (.ref 31), some (.int v1)]) (by omega) (by decide) rfl (Nat.le_of_ble_eq_true rfl) rfl (fun P hC => rd_take_p hC (by omega) h ⟨rfl, rfl, rfl⟩)
def rd_takeUnless  (v1 : Int32) (v2 : Int32) (m : mj_M) : Option mj_M :=
  (if v1 < v2 then (tk_step m).bind fun q2 =>
  some q2 else
  (rd_refuse 2 m).bind fun q3 =>
  some q3)
set_option maxRecDepth 20000 in
theorem rd_takeUnless_p {Ls tp ip x d : Nat} {Z : mj_X} {R : Option Value → mj_G → mj_M → Prop} {P : mj_K → Prop} (hC : mj_cls false (mj_sh Ls) (mj_rf tp ip) mj_dv mj_cd_78 (mj_Ex false (mj_sh Ls) (mj_rf tp ip) Z d) R P) (hd : 2 ≤ d) {v1 : Int32} {v2 : Int32} {m : mj_M} {r : mj_M} (h : rd_takeUnless v1 v2 m = some r) (hR : R none (110, x) r) : P (0, [some (.ref 31), some (.int v1), some (.int v2)], [], (110, x), m) := by
  unfold rd_takeUnless at h
  refine mj_gcp hC 3 ?_
  show P (mj_pick 13 5 (v1 < v2), [some (.ref 31), some (.int v1), some (.int v2)], [], (110, x), m)
  refine mj_pbr (fun c1 => ?_) (fun c1 => ?_)
  · rw [if_pos c1] at h
    refine mj_gcp hC 2 ?_
    show P (17, [some (.ref 31), some (.int v1), some (.int v2)], [.ref 32], (110, x), m)
    obtain ⟨q2, eq2, h⟩ := mj_bnd h
    refine mj_pcall hC rfl (tk_step_x (Nat.le_trans (by decide) hd) eq2) ?_
    show P (20, [some (.ref 31), some (.int v1), some (.int v2)], [], (110, x), q2)
    cases h
    exact mj_pret hC rfl hR
  · rw [if_neg c1] at h
    refine mj_gcp hC 2 ?_
    show P (7, [some (.ref 31), some (.int v1), some (.int v2)], [.int 2, .ref 31], (110, x), m)
    obtain ⟨q3, eq3, h⟩ := mj_bnd h
    refine mj_pcall hC rfl (rd_refuse_x (Nat.le_trans (by decide) hd) eq3) ?_
    show P (10, [some (.ref 31), some (.int v1), some (.int v2)], [], (110, x), q3)
    refine mj_gcp hC 1 ?_
    show P (20, [some (.ref 31), some (.int v1), some (.int v2)], [], (110, x), q3)
    cases h
    exact mj_pret hC rfl hR
set_option maxRecDepth 20000 in
theorem rd_takeUnless_x {Ls tp ip x d : Nat} {Z : mj_X} (hd : 3 ≤ d) {v1 : Int32} {v2 : Int32} {m : mj_M} {r : mj_M} (h : rd_takeUnless v1 v2 m = some r) : mj_Ex false (mj_sh Ls) (mj_rf tp ip) Z d 78 [.ref 31, .int v1, .int v2] (110, x) m none (110, x) r := by
  exact mj_Ex_of (cd := mj_cd_78) (L := [some (.ref 31), some (.int v1), some (.int v2)]) (by omega) (by decide) rfl (Nat.le_of_ble_eq_true rfl) rfl (fun P hC => rd_takeUnless_p hC (by omega) h ⟨rfl, rfl, rfl⟩)
def rd_readTie_j70 (ip : Nat) (v1 : Int32) (v2 : Int32)  (m : mj_M) : Option mj_M :=
  (rd_take 21 m).bind fun q12 =>
  (if (mj_I (q12 31 4)) = 0 then (to_addTie ip v1 v2 q12).bind fun q14 =>
  some q14 else
  some q12)
def rd_readTie_j53 (ip : Nat) (v1 : Int32) (v2 : Int32)  (m : mj_M) : Option mj_M :=
  (if (mj_I (m 31 4)) = 0 then (if v1 = v2 then (rd_refuse 5 m).bind fun q11 =>
  rd_readTie_j70 ip v1 v2 q11 else
  rd_readTie_j70 ip v1 v2 m) else
  rd_readTie_j70 ip v1 v2 m)
def rd_readTie (ip : Nat)  (m : mj_M) : Option mj_M :=
  (to_tieCount ip m).bind fun q1 =>
  (rd_takeUnless q1 9 m).bind fun q2 =>
  (rd_findPerson ip q2).bind fun q3 =>
  (rd_take 21 q3.2).bind fun q4 =>
  (rd_findPerson ip q4).bind fun q5 =>
  (if (mj_I (q5.2 31 4)) = 0 then (to_areTied ip q3.1 q5.1 q5.2).bind fun q7 =>
  (if q7 = 0 then rd_readTie_j53 ip q3.1 q5.1 q5.2 else
  (rd_refuse 3 q5.2).bind fun q15 =>
  rd_readTie_j53 ip q3.1 q5.1 q15) else
  rd_readTie_j53 ip q3.1 q5.1 q5.2)
set_option maxRecDepth 20000 in
theorem rd_readTie_j70_x {Ls tp ip x d : Nat} {Z : mj_X} {R : Option Value → mj_G → mj_M → Prop} {P : mj_K → Prop} (hC : mj_cls false (mj_sh Ls) (mj_rf tp ip) mj_dv mj_cd_80 (mj_Ex false (mj_sh Ls) (mj_rf tp ip) Z d) R P) (hd : 3 ≤ d) (hip : ip = 3 ∨ ip = 17) {v1 : Int32} {v2 : Int32}  {m : mj_M} {r : mj_M} (h : rd_readTie_j70 ip v1 v2 m = some r) (hR : R none (110, x) r) : P (70, [some (.ref 31), some (.int v1), some (.int v2)], [], (110, x), m) := by
  unfold rd_readTie_j70 at h
  rcases hip with rfl | rfl
  all_goals
    refine mj_gcp hC 2 ?_
    show P (73, [some (.ref 31), some (.int v1), some (.int v2)], [.int 21, .ref 31], (110, x), m)
    obtain ⟨q12, eq12, h⟩ := mj_bnd h
    refine mj_pcall hC rfl (rd_take_x (Nat.le_trans (by decide) hd) eq12) ?_
    show P (76, [some (.ref 31), some (.int v1), some (.int v2)], [], (110, x), q12)
    refine mj_gcp hC 3 ?_
    show P (mj_pick 83 92 ((mj_I (q12 31 4)) = 0), [some (.ref 31), some (.int v1), some (.int v2)], [], (110, x), q12)
    refine mj_pbr (fun c13 => ?_) (fun c13 => ?_)
    · rw [if_pos c13] at h
      refine mj_gcp hC 4 ?_
      show P (89, [some (.ref 31), some (.int v1), some (.int v2)], [.int v2, .int v1, .ref _], (110, x), q12)
      obtain ⟨q14, eq14, h⟩ := mj_bnd h
      refine mj_pcall hC rfl (to_addTie_x (Nat.le_trans (by decide) hd) (by decide) eq14) ?_
      show P (92, [some (.ref 31), some (.int v1), some (.int v2)], [], (110, x), q14)
      cases h
      exact mj_pret hC rfl hR
    · rw [if_neg c13] at h
      cases h
      exact mj_pret hC rfl hR
set_option maxRecDepth 20000 in
theorem rd_readTie_j53_x {Ls tp ip x d : Nat} {Z : mj_X} {R : Option Value → mj_G → mj_M → Prop} {P : mj_K → Prop} (hC : mj_cls false (mj_sh Ls) (mj_rf tp ip) mj_dv mj_cd_80 (mj_Ex false (mj_sh Ls) (mj_rf tp ip) Z d) R P) (hd : 3 ≤ d) (hip : ip = 3 ∨ ip = 17) {v1 : Int32} {v2 : Int32}  {m : mj_M} {r : mj_M} (h : rd_readTie_j53 ip v1 v2 m = some r) (hR : R none (110, x) r) : P (53, [some (.ref 31), some (.int v1), some (.int v2)], [], (110, x), m) := by
  unfold rd_readTie_j53 at h
  rcases hip with rfl | rfl
  all_goals
    refine mj_gcp hC 3 ?_
    show P (mj_pick 60 70 ((mj_I (m 31 4)) = 0), [some (.ref 31), some (.int v1), some (.int v2)], [], (110, x), m)
    refine mj_pbr (fun c9 => ?_) (fun c9 => ?_)
    · rw [if_pos c9] at h
      refine mj_gcp hC 3 ?_
      show P (mj_pick 65 70 (v1 = v2), [some (.ref 31), some (.int v1), some (.int v2)], [], (110, x), m)
      refine mj_pbr (fun c10 => ?_) (fun c10 => ?_)
      · rw [if_pos c10] at h
        refine mj_gcp hC 2 ?_
        show P (67, [some (.ref 31), some (.int v1), some (.int v2)], [.int 5, .ref 31], (110, x), m)
        obtain ⟨q11, eq11, h⟩ := mj_bnd h
        refine mj_pcall hC rfl (rd_refuse_x (Nat.le_trans (by decide) hd) eq11) ?_
        show P (70, [some (.ref 31), some (.int v1), some (.int v2)], [], (110, x), q11)
        exact mj_less hC (L0 := [some (.ref 31), some (.int v1), some (.int v2)]) (And.intro rfl (And.intro rfl (And.intro rfl trivial))) (rd_readTie_j70_x hC hd (by decide) h hR)
      · rw [if_neg c10] at h
        exact mj_less hC (L0 := [some (.ref 31), some (.int v1), some (.int v2)]) (And.intro rfl (And.intro rfl (And.intro rfl trivial))) (rd_readTie_j70_x hC hd (by decide) h hR)
    · rw [if_neg c9] at h
      exact mj_less hC (L0 := [some (.ref 31), some (.int v1), some (.int v2)]) (And.intro rfl (And.intro rfl (And.intro rfl trivial))) (rd_readTie_j70_x hC hd (by decide) h hR)
set_option maxRecDepth 20000 in
theorem rd_readTie_p {Ls tp ip x d : Nat} {Z : mj_X} {R : Option Value → mj_G → mj_M → Prop} {P : mj_K → Prop} (hC : mj_cls false (mj_sh Ls) (mj_rf tp ip) mj_dv mj_cd_80 (mj_Ex false (mj_sh Ls) (mj_rf tp ip) Z d) R P) (hd : 3 ≤ d) (hip : ip = 3 ∨ ip = 17)  {m : mj_M} {r : mj_M} (h : rd_readTie ip m = some r) (hR : R none (110, x) r) : P (0, [some (.ref 31), none, none], [], (110, x), m) := by
  unfold rd_readTie at h
  rcases hip with rfl | rfl
  all_goals
    refine mj_gcp hC 3 ?_
    show P (5, [some (.ref 31), none, none], [.ref _, .ref 31], (110, x), m)
    obtain ⟨q1, eq1, h⟩ := mj_bnd h
    refine mj_pcall hC rfl (to_tieCount_x (Nat.le_trans (by decide) hd) (by decide) eq1) ?_
    show P (8, [some (.ref 31), none, none], [.int q1, .ref 31], (110, x), m)
    refine mj_gcp hC 1 ?_
    show P (10, [some (.ref 31), none, none], [.int 9, .int q1, .ref 31], (110, x), m)
    obtain ⟨q2, eq2, h⟩ := mj_bnd h
    refine mj_pcall hC rfl (rd_takeUnless_x (Nat.le_trans (by decide) hd) eq2) ?_
    show P (13, [some (.ref 31), none, none], [], (110, x), q2)
    refine mj_gcp hC 1 ?_
    show P (14, [some (.ref 31), none, none], [.ref 31], (110, x), q2)
    obtain ⟨q3, eq3, h⟩ := mj_bnd h
    refine mj_pcall hC rfl (rd_findPerson_x (Nat.le_trans (by decide) hd) (by decide) eq3) ?_
    show P (17, [some (.ref 31), none, none], [.int q3.1], (110, x), q3.2)
    refine mj_gcp hC 3 ?_
    show P (21, [some (.ref 31), some (.int q3.1), none], [.int 21, .ref 31], (110, x), q3.2)
    obtain ⟨q4, eq4, h⟩ := mj_bnd h
    refine mj_pcall hC rfl (rd_take_x (Nat.le_trans (by decide) hd) eq4) ?_
    show P (24, [some (.ref 31), some (.int q3.1), none], [], (110, x), q4)
    refine mj_gcp hC 1 ?_
    show P (25, [some (.ref 31), some (.int q3.1), none], [.ref 31], (110, x), q4)
    obtain ⟨q5, eq5, h⟩ := mj_bnd h
    refine mj_pcall hC rfl (rd_findPerson_x (Nat.le_trans (by decide) hd) (by decide) eq5) ?_
    show P (28, [some (.ref 31), some (.int q3.1), none], [.int q5.1], (110, x), q5.2)
    refine mj_gcp hC 4 ?_
    show P (mj_pick 36 53 ((mj_I (q5.2 31 4)) = 0), [some (.ref 31), some (.int q3.1), some (.int q5.1)], [], (110, x), q5.2)
    refine mj_pbr (fun c6 => ?_) (fun c6 => ?_)
    · rw [if_pos c6] at h
      refine mj_gcp hC 4 ?_
      show P (42, [some (.ref 31), some (.int q3.1), some (.int q5.1)], [.int q5.1, .int q3.1, .ref _], (110, x), q5.2)
      obtain ⟨q7, eq7, h⟩ := mj_bnd h
      refine mj_pcall hC rfl (to_areTied_x (Nat.le_trans (by decide) hd) (by decide) eq7) ?_
      show P (45, [some (.ref 31), some (.int q3.1), some (.int q5.1)], [.int q7], (110, x), q5.2)
      refine mj_gcp hC 1 ?_
      show P (mj_pick 53 48 (q7 = 0), [some (.ref 31), some (.int q3.1), some (.int q5.1)], [], (110, x), q5.2)
      refine mj_pbr (fun c8 => ?_) (fun c8 => ?_)
      · rw [if_pos c8] at h
        exact mj_less hC (L0 := [some (.ref 31), some (.int q3.1), some (.int q5.1)]) (And.intro rfl (And.intro rfl (And.intro rfl trivial))) (rd_readTie_j53_x hC hd (by decide) h hR)
      · rw [if_neg c8] at h
        refine mj_gcp hC 2 ?_
        show P (50, [some (.ref 31), some (.int q3.1), some (.int q5.1)], [.int 3, .ref 31], (110, x), q5.2)
        obtain ⟨q15, eq15, h⟩ := mj_bnd h
        refine mj_pcall hC rfl (rd_refuse_x (Nat.le_trans (by decide) hd) eq15) ?_
        show P (53, [some (.ref 31), some (.int q3.1), some (.int q5.1)], [], (110, x), q15)
        exact mj_less hC (L0 := [some (.ref 31), some (.int q3.1), some (.int q5.1)]) (And.intro rfl (And.intro rfl (And.intro rfl trivial))) (rd_readTie_j53_x hC hd (by decide) h hR)
    · rw [if_neg c6] at h
      exact mj_less hC (L0 := [some (.ref 31), some (.int q3.1), some (.int q5.1)]) (And.intro rfl (And.intro rfl (And.intro rfl trivial))) (rd_readTie_j53_x hC hd (by decide) h hR)
set_option maxRecDepth 20000 in
theorem rd_readTie_x {Ls tp ip x d : Nat} {Z : mj_X} (hd : 4 ≤ d) (hip : ip = 3 ∨ ip = 17)  {m : mj_M} {r : mj_M} (h : rd_readTie ip m = some r) : mj_Ex false (mj_sh Ls) (mj_rf tp ip) Z d 80 [.ref 31] (110, x) m none (110, x) r := by
  exact mj_Ex_of (cd := mj_cd_80) (L := [some (.ref 31), none, none]) (by omega) (by decide) rfl (Nat.le_of_ble_eq_true rfl) rfl (fun P hC => rd_readTie_p hC (by omega) hip h ⟨rfl, rfl, rfl⟩)
def rd_takeOnce   (m : mj_M) : Option mj_M :=
  (if (bp_has (mj_I (m 31 2)) (mj_I (m 32 6)) m) = 0 then (tk_step (mj_up m 31 2 (.int ((mj_I (m 31 2)) ||| ((1 : Int32) <<< ((mj_I (m 32 6)) &&& 31)))))).bind fun q2 =>
  some q2 else
  (rd_refuse 3 m).bind fun q3 =>
  some q3)
set_option maxRecDepth 20000 in
theorem rd_takeOnce_p {Ls tp ip x d : Nat} {Z : mj_X} {R : Option Value → mj_G → mj_M → Prop} {P : mj_K → Prop} (hC : mj_cls false (mj_sh Ls) (mj_rf tp ip) mj_dv mj_cd_84 (mj_Ex false (mj_sh Ls) (mj_rf tp ip) Z d) R P) (hd : 2 ≤ d)  {m : mj_M} {r : mj_M} (h : rd_takeOnce m = some r) (hR : R none (110, x) r) : P (0, [some (.ref 31)], [], (110, x), m) := by
  unfold rd_takeOnce at h
  refine mj_gcp hC 5 ?_
  show P (11, [some (.ref 31)], [.int (mj_I (m 32 6)), .int (mj_I (m 31 2))], (110, x), m)
  refine mj_pcall hC rfl (bp_has_x (Nat.le_trans (by decide) hd)) ?_
  show P (14, [some (.ref 31)], [.int (bp_has (mj_I (m 31 2)) (mj_I (m 32 6)) m)], (110, x), m)
  refine mj_gcp hC 1 ?_
  show P (mj_pick 25 17 ((bp_has (mj_I (m 31 2)) (mj_I (m 32 6)) m) = 0), [some (.ref 31)], [], (110, x), m)
  refine mj_pbr (fun c1 => ?_) (fun c1 => ?_)
  · rw [if_pos c1] at h
    refine mj_gcp hC 12 ?_
    show P (47, [some (.ref 31)], [.ref 32], (110, x), (mj_up m 31 2 (.int ((mj_I (m 31 2)) ||| ((1 : Int32) <<< ((mj_I (m 32 6)) &&& 31))))))
    obtain ⟨q2, eq2, h⟩ := mj_bnd h
    refine mj_pcall hC rfl (tk_step_x (Nat.le_trans (by decide) hd) eq2) ?_
    show P (50, [some (.ref 31)], [], (110, x), q2)
    cases h
    exact mj_pret hC rfl hR
  · rw [if_neg c1] at h
    refine mj_gcp hC 2 ?_
    show P (19, [some (.ref 31)], [.int 3, .ref 31], (110, x), m)
    obtain ⟨q3, eq3, h⟩ := mj_bnd h
    refine mj_pcall hC rfl (rd_refuse_x (Nat.le_trans (by decide) hd) eq3) ?_
    show P (22, [some (.ref 31)], [], (110, x), q3)
    refine mj_gcp hC 1 ?_
    show P (50, [some (.ref 31)], [], (110, x), q3)
    cases h
    exact mj_pret hC rfl hR
set_option maxRecDepth 20000 in
theorem rd_takeOnce_x {Ls tp ip x d : Nat} {Z : mj_X} (hd : 3 ≤ d)  {m : mj_M} {r : mj_M} (h : rd_takeOnce m = some r) : mj_Ex false (mj_sh Ls) (mj_rf tp ip) Z d 84 [.ref 31] (110, x) m none (110, x) r := by
  exact mj_Ex_of (cd := mj_cd_84) (L := [some (.ref 31)]) (by omega) (by decide) rfl (Nat.le_of_ble_eq_true rfl) rfl (fun P hC => rd_takeOnce_p hC (by omega) h ⟨rfl, rfl, rfl⟩)
def rd_readNumber_j31  (v3 : Int32)  (m : mj_M) : Option (Int32 × mj_M) :=
  (rd_take 22 m).bind fun q2 =>
  some (v3, q2)
def rd_readNumber  (v1 : Int32) (v2 : Int32) (m : mj_M) : Option (Int32 × mj_M) :=
  (if (rd_sees 22 m) = 0 then rd_readNumber_j31 (mj_I (m 32 8)) m else
  (if (bp_isWithin (mj_I (m 32 8)) v1 v2 m) = 0 then (rd_refuse 2 m).bind fun q4 =>
  rd_readNumber_j31 (mj_I (m 32 8)) q4 else
  rd_readNumber_j31 (mj_I (m 32 8)) m))
set_option maxRecDepth 20000 in
theorem rd_readNumber_j31_x {Ls tp ip x d : Nat} {Z : mj_X} {R : Option Value → mj_G → mj_M → Prop} {P : mj_K → Prop} (hC : mj_cls false (mj_sh Ls) (mj_rf tp ip) mj_dv mj_cd_86 (mj_Ex false (mj_sh Ls) (mj_rf tp ip) Z d) R P) (hd : 3 ≤ d) {v3 : Int32}  {m : mj_M} {r : (Int32 × mj_M)} (h : rd_readNumber_j31 v3 m = some r) (hR : R (some (.int r.1)) (110, x) r.2) : P (31, [some (.ref 31), none, none, some (.int v3)], [], (110, x), m) := by
  unfold rd_readNumber_j31 at h
  refine mj_gcp hC 2 ?_
  show P (34, [some (.ref 31), none, none, some (.int v3)], [.int 22, .ref 31], (110, x), m)
  obtain ⟨q2, eq2, h⟩ := mj_bnd h
  refine mj_pcall hC rfl (rd_take_x (Nat.le_trans (by decide) hd) eq2) ?_
  show P (37, [some (.ref 31), none, none, some (.int v3)], [], (110, x), q2)
  refine mj_gcp hC 1 ?_
  show P (38, [some (.ref 31), none, none, some (.int v3)], [.int v3], (110, x), q2)
  cases h
  exact mj_pret hC rfl hR
set_option maxRecDepth 20000 in
theorem rd_readNumber_p {Ls tp ip x d : Nat} {Z : mj_X} {R : Option Value → mj_G → mj_M → Prop} {P : mj_K → Prop} (hC : mj_cls false (mj_sh Ls) (mj_rf tp ip) mj_dv mj_cd_86 (mj_Ex false (mj_sh Ls) (mj_rf tp ip) Z d) R P) (hd : 3 ≤ d) {v1 : Int32} {v2 : Int32} {m : mj_M} {r : (Int32 × mj_M)} (h : rd_readNumber v1 v2 m = some r) (hR : R (some (.int r.1)) (110, x) r.2) : P (0, [some (.ref 31), some (.int v1), some (.int v2), none], [], (110, x), m) := by
  unfold rd_readNumber at h
  refine mj_gcp hC 6 ?_
  show P (11, [some (.ref 31), some (.int v1), some (.int v2), some (.int (mj_I (m 32 8)))], [.int 22, .ref 31], (110, x), m)
  refine mj_pcall hC rfl (rd_sees_x (Nat.le_trans (by decide) hd)) ?_
  show P (14, [some (.ref 31), some (.int v1), some (.int v2), some (.int (mj_I (m 32 8)))], [.int (rd_sees 22 m)], (110, x), m)
  refine mj_gcp hC 1 ?_
  show P (mj_pick 31 17 ((rd_sees 22 m) = 0), [some (.ref 31), some (.int v1), some (.int v2), some (.int (mj_I (m 32 8)))], [], (110, x), m)
  refine mj_pbr (fun c1 => ?_) (fun c1 => ?_)
  · rw [if_pos c1] at h
    exact mj_less hC (L0 := [some (.ref 31), none, none, some (.int (mj_I (m 32 8)))]) (And.intro rfl (And.intro rfl trivial)) (rd_readNumber_j31_x hC hd h hR)
  · rw [if_neg c1] at h
    refine mj_gcp hC 3 ?_
    show P (20, [some (.ref 31), some (.int v1), some (.int v2), some (.int (mj_I (m 32 8)))], [.int v2, .int v1, .int (mj_I (m 32 8))], (110, x), m)
    refine mj_pcall hC rfl (bp_isWithin_x (Nat.le_trans (by decide) hd)) ?_
    show P (23, [some (.ref 31), some (.int v1), some (.int v2), some (.int (mj_I (m 32 8)))], [.int (bp_isWithin (mj_I (m 32 8)) v1 v2 m)], (110, x), m)
    refine mj_gcp hC 1 ?_
    show P (mj_pick 26 31 ((bp_isWithin (mj_I (m 32 8)) v1 v2 m) = 0), [some (.ref 31), some (.int v1), some (.int v2), some (.int (mj_I (m 32 8)))], [], (110, x), m)
    refine mj_pbr (fun c3 => ?_) (fun c3 => ?_)
    · rw [if_pos c3] at h
      refine mj_gcp hC 2 ?_
      show P (28, [some (.ref 31), some (.int v1), some (.int v2), some (.int (mj_I (m 32 8)))], [.int 2, .ref 31], (110, x), m)
      obtain ⟨q4, eq4, h⟩ := mj_bnd h
      refine mj_pcall hC rfl (rd_refuse_x (Nat.le_trans (by decide) hd) eq4) ?_
      show P (31, [some (.ref 31), some (.int v1), some (.int v2), some (.int (mj_I (m 32 8)))], [], (110, x), q4)
      exact mj_less hC (L0 := [some (.ref 31), none, none, some (.int (mj_I (m 32 8)))]) (And.intro rfl (And.intro rfl trivial)) (rd_readNumber_j31_x hC hd h hR)
    · rw [if_neg c3] at h
      exact mj_less hC (L0 := [some (.ref 31), none, none, some (.int (mj_I (m 32 8)))]) (And.intro rfl (And.intro rfl trivial)) (rd_readNumber_j31_x hC hd h hR)
set_option maxRecDepth 20000 in
theorem rd_readNumber_x {Ls tp ip x d : Nat} {Z : mj_X} (hd : 4 ≤ d) {v1 : Int32} {v2 : Int32} {m : mj_M} {r : (Int32 × mj_M)} (h : rd_readNumber v1 v2 m = some r) : mj_Ex false (mj_sh Ls) (mj_rf tp ip) Z d 86 [.ref 31, .int v1, .int v2] (110, x) m (some (.int r.1)) (110, x) r.2 := by
  exact mj_Ex_of (cd := mj_cd_86) (L := [some (.ref 31), some (.int v1), some (.int v2), none]) (by omega) (by decide) rfl (Nat.le_of_ble_eq_true rfl) rfl (fun P hC => rd_readNumber_p hC (by omega) h ⟨rfl, rfl, rfl⟩)
def rd_readNewName_j32 (np : Nat) (v3 : Int32)  (m : mj_M) : Option (Int32 × mj_M) :=
  (rd_take 21 m).bind fun q2 =>
  some (v3, q2)
def rd_readNewName (np : Nat) (v2 : Int32) (m : mj_M) : Option (Int32 × mj_M) :=
  (if (rd_sees 21 m) = 0 then rd_readNewName_j32 np (mj_I (m 32 8)) m else
  (if (fx_find m np v2 (mj_I (m 32 8))) = (-1) then rd_readNewName_j32 np (mj_I (m 32 8)) m else
  (rd_refuse 3 m).bind fun q4 =>
  rd_readNewName_j32 np (mj_I (m 32 8)) q4))
set_option maxRecDepth 20000 in
theorem rd_readNewName_j32_x {Ls tp ip x d : Nat} {Z : mj_X} {R : Option Value → mj_G → mj_M → Prop} {P : mj_K → Prop} (hC : mj_cls false (mj_sh Ls) (mj_rf tp ip) mj_dv mj_cd_87 (mj_Ex false (mj_sh Ls) (mj_rf tp ip) Z d) R P) (hd : 3 ≤ d) {np : Nat} (hnp : np = 4 ∨ np = 18 ∨ np = 8 ∨ np = 22) {v3 : Int32}  {m : mj_M} {r : (Int32 × mj_M)} (h : rd_readNewName_j32 np v3 m = some r) (hR : R (some (.int r.1)) (110, x) r.2) : P (32, [some (.ref 31), none, none, some (.int v3)], [], (110, x), m) := by
  unfold rd_readNewName_j32 at h
  rcases hnp with rfl | rfl | rfl | rfl
  all_goals
    refine mj_gcp hC 2 ?_
    show P (35, [some (.ref 31), none, none, some (.int v3)], [.int 21, .ref 31], (110, x), m)
    obtain ⟨q2, eq2, h⟩ := mj_bnd h
    refine mj_pcall hC rfl (rd_take_x (Nat.le_trans (by decide) hd) eq2) ?_
    show P (38, [some (.ref 31), none, none, some (.int v3)], [], (110, x), q2)
    refine mj_gcp hC 1 ?_
    show P (39, [some (.ref 31), none, none, some (.int v3)], [.int v3], (110, x), q2)
    cases h
    exact mj_pret hC rfl hR
set_option maxRecDepth 20000 in
theorem rd_readNewName_p {Ls tp ip x d : Nat} {Z : mj_X} {R : Option Value → mj_G → mj_M → Prop} {P : mj_K → Prop} (hC : mj_cls false (mj_sh Ls) (mj_rf tp ip) mj_dv mj_cd_87 (mj_Ex false (mj_sh Ls) (mj_rf tp ip) Z d) R P) (hd : 3 ≤ d) {np : Nat} (hnp : np = 4 ∨ np = 18 ∨ np = 8 ∨ np = 22) {v2 : Int32} {m : mj_M} {r : (Int32 × mj_M)} (h : rd_readNewName np v2 m = some r) (hR : R (some (.int r.1)) (110, x) r.2) : P (0, [some (.ref 31), some (.ref np), some (.int v2), none], [], (110, x), m) := by
  unfold rd_readNewName at h
  rcases hnp with rfl | rfl | rfl | rfl
  all_goals
    refine mj_gcp hC 6 ?_
    show P (11, [some (.ref 31), some (.ref _), some (.int v2), some (.int (mj_I (m 32 8)))], [.int 21, .ref 31], (110, x), m)
    refine mj_pcall hC rfl (rd_sees_x (Nat.le_trans (by decide) hd)) ?_
    show P (14, [some (.ref 31), some (.ref _), some (.int v2), some (.int (mj_I (m 32 8)))], [.int (rd_sees 21 m)], (110, x), m)
    refine mj_gcp hC 1 ?_
    show P (mj_pick 32 17 ((rd_sees 21 m) = 0), [some (.ref 31), some (.ref _), some (.int v2), some (.int (mj_I (m 32 8)))], [], (110, x), m)
    refine mj_pbr (fun c1 => ?_) (fun c1 => ?_)
    · rw [if_pos c1] at h
      exact mj_less hC (L0 := [some (.ref 31), none, none, some (.int (mj_I (m 32 8)))]) (And.intro rfl (And.intro rfl trivial)) (rd_readNewName_j32_x hC hd (by decide) h hR)
    · rw [if_neg c1] at h
      refine mj_gcp hC 3 ?_
      show P (20, [some (.ref 31), some (.ref _), some (.int v2), some (.int (mj_I (m 32 8)))], [.int (mj_I (m 32 8)), .int v2, .ref _], (110, x), m)
      refine mj_pcall hC rfl (bp_find_x (Nat.le_trans (by decide) hd) (by decide)) ?_
      show P (23, [some (.ref 31), some (.ref _), some (.int v2), some (.int (mj_I (m 32 8)))], [.int (fx_find m _ v2 (mj_I (m 32 8)))], (110, x), m)
      refine mj_gcp hC 2 ?_
      show P (mj_pick 32 27 ((fx_find m _ v2 (mj_I (m 32 8))) = (-1)), [some (.ref 31), some (.ref _), some (.int v2), some (.int (mj_I (m 32 8)))], [], (110, x), m)
      refine mj_pbr (fun c3 => ?_) (fun c3 => ?_)
      · rw [if_pos c3] at h
        exact mj_less hC (L0 := [some (.ref 31), none, none, some (.int (mj_I (m 32 8)))]) (And.intro rfl (And.intro rfl trivial)) (rd_readNewName_j32_x hC hd (by decide) h hR)
      · rw [if_neg c3] at h
        refine mj_gcp hC 2 ?_
        show P (29, [some (.ref 31), some (.ref _), some (.int v2), some (.int (mj_I (m 32 8)))], [.int 3, .ref 31], (110, x), m)
        obtain ⟨q4, eq4, h⟩ := mj_bnd h
        refine mj_pcall hC rfl (rd_refuse_x (Nat.le_trans (by decide) hd) eq4) ?_
        show P (32, [some (.ref 31), some (.ref _), some (.int v2), some (.int (mj_I (m 32 8)))], [], (110, x), q4)
        exact mj_less hC (L0 := [some (.ref 31), none, none, some (.int (mj_I (m 32 8)))]) (And.intro rfl (And.intro rfl trivial)) (rd_readNewName_j32_x hC hd (by decide) h hR)
set_option maxRecDepth 20000 in
theorem rd_readNewName_x {Ls tp ip x d : Nat} {Z : mj_X} (hd : 4 ≤ d) {np : Nat} (hnp : np = 4 ∨ np = 18 ∨ np = 8 ∨ np = 22) {v2 : Int32} {m : mj_M} {r : (Int32 × mj_M)} (h : rd_readNewName np v2 m = some r) : mj_Ex false (mj_sh Ls) (mj_rf tp ip) Z d 87 [.ref 31, .ref np, .int v2] (110, x) m (some (.int r.1)) (110, x) r.2 := by
  exact mj_Ex_of (cd := mj_cd_87) (L := [some (.ref 31), some (.ref np), some (.int v2), none]) (by omega) (by decide) rfl (Nat.le_of_ble_eq_true rfl) rfl (fun P hC => rd_readNewName_p hC (by omega) hnp h ⟨rfl, rfl, rfl⟩)
def rd_takeKnot_j14    (m : mj_M) : Option mj_M :=
  (if (mj_I (m 31 4)) = 0 then (tk_step (mj_up m 31 3 (.int ((mj_I (m 31 3)) + 1)))).bind fun q3 =>
  some q3 else
  some m)
def rd_takeKnot   (m : mj_M) : Option mj_M :=
  (if (mj_I (m 31 3)) < 64 then rd_takeKnot_j14 m else
  (rd_refuse 2 m).bind fun q4 =>
  rd_takeKnot_j14 q4)
set_option maxRecDepth 20000 in
theorem rd_takeKnot_j14_x {Ls tp ip x d : Nat} {Z : mj_X} {R : Option Value → mj_G → mj_M → Prop} {P : mj_K → Prop} (hC : mj_cls false (mj_sh Ls) (mj_rf tp ip) mj_dv mj_cd_89 (mj_Ex false (mj_sh Ls) (mj_rf tp ip) Z d) R P) (hd : 2 ≤ d)   {m : mj_M} {r : mj_M} (h : rd_takeKnot_j14 m = some r) (hR : R none (110, x) r) : P (14, [some (.ref 31)], [], (110, x), m) := by
  unfold rd_takeKnot_j14 at h
  refine mj_gcp hC 3 ?_
  show P (mj_pick 21 38 ((mj_I (m 31 4)) = 0), [some (.ref 31)], [], (110, x), m)
  refine mj_pbr (fun c2 => ?_) (fun c2 => ?_)
  · rw [if_pos c2] at h
    refine mj_gcp hC 8 ?_
    show P (35, [some (.ref 31)], [.ref 32], (110, x), (mj_up m 31 3 (.int ((mj_I (m 31 3)) + 1))))
    obtain ⟨q3, eq3, h⟩ := mj_bnd h
    refine mj_pcall hC rfl (tk_step_x (Nat.le_trans (by decide) hd) eq3) ?_
    show P (38, [some (.ref 31)], [], (110, x), q3)
    cases h
    exact mj_pret hC rfl hR
  · rw [if_neg c2] at h
    cases h
    exact mj_pret hC rfl hR
set_option maxRecDepth 20000 in
theorem rd_takeKnot_p {Ls tp ip x d : Nat} {Z : mj_X} {R : Option Value → mj_G → mj_M → Prop} {P : mj_K → Prop} (hC : mj_cls false (mj_sh Ls) (mj_rf tp ip) mj_dv mj_cd_89 (mj_Ex false (mj_sh Ls) (mj_rf tp ip) Z d) R P) (hd : 2 ≤ d)  {m : mj_M} {r : mj_M} (h : rd_takeKnot m = some r) (hR : R none (110, x) r) : P (0, [some (.ref 31)], [], (110, x), m) := by
  unfold rd_takeKnot at h
  refine mj_gcp hC 4 ?_
  show P (mj_pick 14 9 ((mj_I (m 31 3)) < 64), [some (.ref 31)], [], (110, x), m)
  refine mj_pbr (fun c1 => ?_) (fun c1 => ?_)
  · rw [if_pos c1] at h
    exact mj_less hC (L0 := [some (.ref 31)]) (And.intro rfl trivial) (rd_takeKnot_j14_x hC hd h hR)
  · rw [if_neg c1] at h
    refine mj_gcp hC 2 ?_
    show P (11, [some (.ref 31)], [.int 2, .ref 31], (110, x), m)
    obtain ⟨q4, eq4, h⟩ := mj_bnd h
    refine mj_pcall hC rfl (rd_refuse_x (Nat.le_trans (by decide) hd) eq4) ?_
    show P (14, [some (.ref 31)], [], (110, x), q4)
    exact mj_less hC (L0 := [some (.ref 31)]) (And.intro rfl trivial) (rd_takeKnot_j14_x hC hd h hR)
set_option maxRecDepth 20000 in
theorem rd_takeKnot_x {Ls tp ip x d : Nat} {Z : mj_X} (hd : 3 ≤ d)  {m : mj_M} {r : mj_M} (h : rd_takeKnot m = some r) : mj_Ex false (mj_sh Ls) (mj_rf tp ip) Z d 89 [.ref 31] (110, x) m none (110, x) r := by
  exact mj_Ex_of (cd := mj_cd_89) (L := [some (.ref 31)]) (by omega) (by decide) rfl (Nat.le_of_ble_eq_true rfl) rfl (fun P hC => rd_takeKnot_p hC (by omega) h ⟨rfl, rfl, rfl⟩)
def tk_split_j112l10   (v2 : Int32) (v3 : Int32) (v4 : Int32)  (m : mj_M) : Option (Nat × (Int32 × Int32 × mj_M)) :=
  some (0, (v3, (v4 + 1), m))
def tk_split_j80l10   (v2 : Int32) (v3 : Int32) (v4 : Int32)  (m : mj_M) : Option (Nat × (Int32 × Int32 × mj_M)) :=
  tk_split_j112l10 v2 (v3 + 1) v4 m
def tk_split_j107l10   (v2 : Int32) (v3 : Int32) (v4 : Int32) (s1 : Int32) (s2 : Int32) (m : mj_M) : Option (Nat × (Int32 × Int32 × mj_M)) :=
  (tk_cutSign s1 s2 v3 m).bind fun q8 =>
  tk_split_j112l10 v2 q8.1 v4 q8.2
def tk_split_l10  (v2 : Int32) (s10 : (Int32 × Int32 × mj_M)) : Option (Nat × (Int32 × Int32 × mj_M)) :=
  (if v2 ≤ s10.2.1 then some (1, (s10.1, s10.2.1, s10.2.2)) else
  (if v2 ≤ s10.1 then some (1, (s10.1, s10.2.1, s10.2.2)) else
  (if (tk_isLetter (fx_at s10.2.2 2 s10.1) s10.2.2) = 0 then (if (tk_isDigit (fx_at s10.2.2 2 s10.1) s10.2.2) = 0 then (if (fx_at s10.2.2 2 s10.1) = 32 then tk_split_j80l10 v2 s10.1 s10.2.1 s10.2.2 else
  (if (fx_at s10.2.2 2 s10.1) = 10 then tk_split_j80l10 v2 s10.1 s10.2.1 s10.2.2 else
  (if v2 ≤ (s10.1 + 1) then tk_split_j107l10 v2 s10.1 s10.2.1 (fx_at s10.2.2 2 s10.1) 0 s10.2.2 else
  tk_split_j107l10 v2 s10.1 s10.2.1 (fx_at s10.2.2 2 s10.1) (fx_at s10.2.2 2 (s10.1 + 1)) s10.2.2))) else
  (tk_cutNumber s10.1 v2 s10.2.2).bind fun q9 =>
  tk_split_j112l10 v2 q9.1 s10.2.1 q9.2) else
  (tk_cutWord s10.1 v2 s10.2.2).bind fun q10 =>
  tk_split_j112l10 v2 q10.1 s10.2.1 q10.2)))
def tk_split_j118  (v2 : Int32)  (m : mj_M) : Option mj_M :=
  (tk_add 23 v2 0 m).bind fun q12 =>
  (tk_step (mj_up q12 32 5 (.int (-1)))).bind fun q13 =>
  some q13
def tk_split  (v2 : Int32) (m : mj_M) : Option mj_M :=
  (mj_loop (tk_split_l10 v2) mj_F (0, 0, (mj_up m 32 4 (.int 0)))).bind fun q11 =>
  tk_split_j118 v2 q11.2.2.2
set_option maxRecDepth 20000 in
theorem tk_split_j112l10_x {Ls tp ip x d : Nat} {Z : mj_X} {R : Option Value → mj_G → mj_M → Prop} {P : mj_K → Prop} (hC : mj_cls false (mj_sh Ls) (mj_rf tp ip) mj_dv mj_cd_101 (mj_Ex false (mj_sh Ls) (mj_rf tp ip) Z d) R P) (hd : 3 ≤ d)  {v2 : Int32} {v3 : Int32} {v4 : Int32}  {m : mj_M} {t : Nat} {w : (Int32 × Int32 × mj_M)} (h : tk_split_j112l10  v2 v3 v4 m = some (t, w)) (h0 : t = 0 → P (10, [some (.ref 32), some (.ref 2), some (.int v2), some (.int w.1), some (.int w.2.1), none], [], (110, x), w.2.2)) (h1 : t = 1 → P (118, [some (.ref 32), none, some (.int v2), none, none, none], [], (110, x), w.2.2)) : P (112, [some (.ref 32), some (.ref 2), some (.int v2), some (.int v3), some (.int v4), none], [], (110, x), m) := by
  unfold tk_split_j112l10 at h
  refine mj_gcp hC 2 ?_
  show P (10, [some (.ref 32), some (.ref 2), some (.int v2), some (.int v3), some (.int (v4 + 1)), none], [], (110, x), m)
  cases h
  exact mj_less hC (L0 := [some (.ref 32), some (.ref 2), some (.int v2), some (.int v3), some (.int (v4 + 1)), none]) (And.intro rfl (And.intro rfl (And.intro rfl (And.intro rfl (And.intro rfl trivial))))) (h0 rfl)
set_option maxRecDepth 20000 in
theorem tk_split_j80l10_x {Ls tp ip x d : Nat} {Z : mj_X} {R : Option Value → mj_G → mj_M → Prop} {P : mj_K → Prop} (hC : mj_cls false (mj_sh Ls) (mj_rf tp ip) mj_dv mj_cd_101 (mj_Ex false (mj_sh Ls) (mj_rf tp ip) Z d) R P) (hd : 3 ≤ d)  {v2 : Int32} {v3 : Int32} {v4 : Int32}  {m : mj_M} {t : Nat} {w : (Int32 × Int32 × mj_M)} (h : tk_split_j80l10  v2 v3 v4 m = some (t, w)) (h0 : t = 0 → P (10, [some (.ref 32), some (.ref 2), some (.int v2), some (.int w.1), some (.int w.2.1), none], [], (110, x), w.2.2)) (h1 : t = 1 → P (118, [some (.ref 32), none, some (.int v2), none, none, none], [], (110, x), w.2.2)) : P (80, [some (.ref 32), some (.ref 2), some (.int v2), some (.int v3), some (.int v4), none], [], (110, x), m) := by
  unfold tk_split_j80l10 at h
  refine mj_gcp hC 2 ?_
  show P (112, [some (.ref 32), some (.ref 2), some (.int v2), some (.int (v3 + 1)), some (.int v4), none], [], (110, x), m)
  exact mj_less hC (L0 := [some (.ref 32), some (.ref 2), some (.int v2), some (.int (v3 + 1)), some (.int v4), none]) (And.intro rfl (And.intro rfl (And.intro rfl (And.intro rfl (And.intro rfl trivial))))) (tk_split_j112l10_x hC hd h h0 h1)
set_option maxRecDepth 20000 in
theorem tk_split_j107l10_x {Ls tp ip x d : Nat} {Z : mj_X} {R : Option Value → mj_G → mj_M → Prop} {P : mj_K → Prop} (hC : mj_cls false (mj_sh Ls) (mj_rf tp ip) mj_dv mj_cd_101 (mj_Ex false (mj_sh Ls) (mj_rf tp ip) Z d) R P) (hd : 3 ≤ d)  {v2 : Int32} {v3 : Int32} {v4 : Int32} {s1 : Int32} {s2 : Int32} {m : mj_M} {t : Nat} {w : (Int32 × Int32 × mj_M)} (h : tk_split_j107l10  v2 v3 v4 s1 s2 m = some (t, w)) (h0 : t = 0 → P (10, [some (.ref 32), some (.ref 2), some (.int v2), some (.int w.1), some (.int w.2.1), none], [], (110, x), w.2.2)) (h1 : t = 1 → P (118, [some (.ref 32), none, some (.int v2), none, none, none], [], (110, x), w.2.2)) : P (107, [some (.ref 32), some (.ref 2), some (.int v2), some (.int v3), some (.int v4), none], [.int s2, .int s1, .ref 32], (110, x), m) := by
  unfold tk_split_j107l10 at h
  refine mj_gcp hC 1 ?_
  show P (108, [some (.ref 32), some (.ref 2), some (.int v2), some (.int v3), some (.int v4), none], [.int v3, .int s2, .int s1, .ref 32], (110, x), m)
  obtain ⟨q8, eq8, h⟩ := mj_bnd h
  refine mj_pcall hC rfl (tk_cutSign_x (Nat.le_trans (by decide) hd) eq8) ?_
  show P (111, [some (.ref 32), some (.ref 2), some (.int v2), some (.int v3), some (.int v4), none], [.int q8.1], (110, x), q8.2)
  refine mj_gcp hC 1 ?_
  show P (112, [some (.ref 32), some (.ref 2), some (.int v2), some (.int q8.1), some (.int v4), none], [], (110, x), q8.2)
  exact mj_less hC (L0 := [some (.ref 32), some (.ref 2), some (.int v2), some (.int q8.1), some (.int v4), none]) (And.intro rfl (And.intro rfl (And.intro rfl (And.intro rfl (And.intro rfl trivial))))) (tk_split_j112l10_x hC hd h h0 h1)
set_option maxRecDepth 20000 in
theorem tk_split_l10_x {Ls tp ip x d : Nat} {Z : mj_X} {R : Option Value → mj_G → mj_M → Prop} {P : mj_K → Prop} (hC : mj_cls false (mj_sh Ls) (mj_rf tp ip) mj_dv mj_cd_101 (mj_Ex false (mj_sh Ls) (mj_rf tp ip) Z d) R P) (hd : 3 ≤ d) {v2 : Int32} (s10 : (Int32 × Int32 × mj_M)) {t : Nat} {w : (Int32 × Int32 × mj_M)} (h : tk_split_l10 v2 s10 = some (t, w)) (h0 : t = 0 → P (10, [some (.ref 32), some (.ref 2), some (.int v2), some (.int w.1), some (.int w.2.1), none], [], (110, x), w.2.2)) (h1 : t = 1 → P (118, [some (.ref 32), none, some (.int v2), none, none, none], [], (110, x), w.2.2)) : P (10, [some (.ref 32), some (.ref 2), some (.int v2), some (.int s10.1), some (.int s10.2.1), none], [], (110, x), s10.2.2) := by
  unfold tk_split_l10 at h
  refine mj_gcp hC 3 ?_
  show P (mj_pick 118 16 (v2 ≤ s10.2.1), [some (.ref 32), some (.ref 2), some (.int v2), some (.int s10.1), some (.int s10.2.1), none], [], (110, x), s10.2.2)
  refine mj_pbr (fun c1 => ?_) (fun c1 => ?_)
  · rw [if_pos c1] at h
    cases h
    exact mj_less hC (L0 := [some (.ref 32), none, some (.int v2), none, none, none]) (And.intro rfl (And.intro rfl trivial)) (h1 rfl)
  · rw [if_neg c1] at h
    refine mj_gcp hC 3 ?_
    show P (mj_pick 118 21 (v2 ≤ s10.1), [some (.ref 32), some (.ref 2), some (.int v2), some (.int s10.1), some (.int s10.2.1), none], [], (110, x), s10.2.2)
    refine mj_pbr (fun c2 => ?_) (fun c2 => ?_)
    · rw [if_pos c2] at h
      cases h
      exact mj_less hC (L0 := [some (.ref 32), none, some (.int v2), none, none, none]) (And.intro rfl (And.intro rfl trivial)) (h1 rfl)
    · rw [if_neg c2] at h
      refine mj_gcp hC 2 ?_
      show P (23, [some (.ref 32), some (.ref 2), some (.int v2), some (.int s10.1), some (.int s10.2.1), none], [.int s10.1, .ref 2], (110, x), s10.2.2)
      refine mj_pcall hC rfl (bp_at_x (Nat.le_trans (by decide) hd) (by decide)) ?_
      show P (26, [some (.ref 32), some (.ref 2), some (.int v2), some (.int s10.1), some (.int s10.2.1), none], [.int (fx_at s10.2.2 2 s10.1)], (110, x), s10.2.2)
      refine mj_gcp hC 2 ?_
      show P (30, [some (.ref 32), some (.ref 2), some (.int v2), some (.int s10.1), some (.int s10.2.1), some (.int (fx_at s10.2.2 2 s10.1))], [.int (fx_at s10.2.2 2 s10.1)], (110, x), s10.2.2)
      refine mj_pcall hC rfl (tk_isLetter_x (Nat.le_trans (by decide) hd)) ?_
      show P (33, [some (.ref 32), some (.ref 2), some (.int v2), some (.int s10.1), some (.int s10.2.1), some (.int (fx_at s10.2.2 2 s10.1))], [.int (tk_isLetter (fx_at s10.2.2 2 s10.1) s10.2.2)], (110, x), s10.2.2)
      refine mj_gcp hC 1 ?_
      show P (mj_pick 47 36 ((tk_isLetter (fx_at s10.2.2 2 s10.1) s10.2.2) = 0), [some (.ref 32), some (.ref 2), some (.int v2), some (.int s10.1), some (.int s10.2.1), some (.int (fx_at s10.2.2 2 s10.1))], [], (110, x), s10.2.2)
      refine mj_pbr (fun c3 => ?_) (fun c3 => ?_)
      · rw [if_pos c3] at h
        refine mj_gcp hC 1 ?_
        show P (49, [some (.ref 32), some (.ref 2), some (.int v2), some (.int s10.1), some (.int s10.2.1), some (.int (fx_at s10.2.2 2 s10.1))], [.int (fx_at s10.2.2 2 s10.1)], (110, x), s10.2.2)
        refine mj_pcall hC rfl (tk_isDigit_x (Nat.le_trans (by decide) hd)) ?_
        show P (52, [some (.ref 32), some (.ref 2), some (.int v2), some (.int s10.1), some (.int s10.2.1), some (.int (fx_at s10.2.2 2 s10.1))], [.int (tk_isDigit (fx_at s10.2.2 2 s10.1) s10.2.2)], (110, x), s10.2.2)
        refine mj_gcp hC 1 ?_
        show P (mj_pick 66 55 ((tk_isDigit (fx_at s10.2.2 2 s10.1) s10.2.2) = 0), [some (.ref 32), some (.ref 2), some (.int v2), some (.int s10.1), some (.int s10.2.1), some (.int (fx_at s10.2.2 2 s10.1))], [], (110, x), s10.2.2)
        refine mj_pbr (fun c4 => ?_) (fun c4 => ?_)
        · rw [if_pos c4] at h
          refine mj_gcp hC 3 ?_
          show P (mj_pick 80 73 ((fx_at s10.2.2 2 s10.1) = 32), [some (.ref 32), some (.ref 2), some (.int v2), some (.int s10.1), some (.int s10.2.1), some (.int (fx_at s10.2.2 2 s10.1))], [], (110, x), s10.2.2)
          refine mj_pbr (fun c5 => ?_) (fun c5 => ?_)
          · rw [if_pos c5] at h
            exact mj_less hC (L0 := [some (.ref 32), some (.ref 2), some (.int v2), some (.int s10.1), some (.int s10.2.1), none]) (And.intro rfl (And.intro rfl (And.intro rfl (And.intro rfl (And.intro rfl trivial))))) (tk_split_j80l10_x hC hd h h0 h1)
          · rw [if_neg c5] at h
            refine mj_gcp hC 3 ?_
            show P (mj_pick 80 86 ((fx_at s10.2.2 2 s10.1) = 10), [some (.ref 32), some (.ref 2), some (.int v2), some (.int s10.1), some (.int s10.2.1), some (.int (fx_at s10.2.2 2 s10.1))], [], (110, x), s10.2.2)
            refine mj_pbr (fun c6 => ?_) (fun c6 => ?_)
            · rw [if_pos c6] at h
              exact mj_less hC (L0 := [some (.ref 32), some (.ref 2), some (.int v2), some (.int s10.1), some (.int s10.2.1), none]) (And.intro rfl (And.intro rfl (And.intro rfl (And.intro rfl (And.intro rfl trivial))))) (tk_split_j80l10_x hC hd h h0 h1)
            · rw [if_neg c6] at h
              refine mj_gcp hC 7 ?_
              show P (mj_pick 106 96 (v2 ≤ (s10.1 + 1)), [some (.ref 32), some (.ref 2), some (.int v2), some (.int s10.1), some (.int s10.2.1), some (.int (fx_at s10.2.2 2 s10.1))], [.int (fx_at s10.2.2 2 s10.1), .ref 32], (110, x), s10.2.2)
              refine mj_pbr (fun c7 => ?_) (fun c7 => ?_)
              · rw [if_pos c7] at h
                refine mj_gcp hC 1 ?_
                show P (107, [some (.ref 32), some (.ref 2), some (.int v2), some (.int s10.1), some (.int s10.2.1), some (.int (fx_at s10.2.2 2 s10.1))], [.int 0, .int (fx_at s10.2.2 2 s10.1), .ref 32], (110, x), s10.2.2)
                exact mj_less hC (L0 := [some (.ref 32), some (.ref 2), some (.int v2), some (.int s10.1), some (.int s10.2.1), none]) (And.intro rfl (And.intro rfl (And.intro rfl (And.intro rfl (And.intro rfl trivial))))) (tk_split_j107l10_x hC hd h h0 h1)
              · rw [if_neg c7] at h
                refine mj_gcp hC 4 ?_
                show P (100, [some (.ref 32), some (.ref 2), some (.int v2), some (.int s10.1), some (.int s10.2.1), some (.int (fx_at s10.2.2 2 s10.1))], [.int (s10.1 + 1), .ref 2, .int (fx_at s10.2.2 2 s10.1), .ref 32], (110, x), s10.2.2)
                refine mj_pcall hC rfl (bp_at_x (Nat.le_trans (by decide) hd) (by decide)) ?_
                show P (103, [some (.ref 32), some (.ref 2), some (.int v2), some (.int s10.1), some (.int s10.2.1), some (.int (fx_at s10.2.2 2 s10.1))], [.int (fx_at s10.2.2 2 (s10.1 + 1)), .int (fx_at s10.2.2 2 s10.1), .ref 32], (110, x), s10.2.2)
                refine mj_gcp hC 1 ?_
                show P (107, [some (.ref 32), some (.ref 2), some (.int v2), some (.int s10.1), some (.int s10.2.1), some (.int (fx_at s10.2.2 2 s10.1))], [.int (fx_at s10.2.2 2 (s10.1 + 1)), .int (fx_at s10.2.2 2 s10.1), .ref 32], (110, x), s10.2.2)
                exact mj_less hC (L0 := [some (.ref 32), some (.ref 2), some (.int v2), some (.int s10.1), some (.int s10.2.1), none]) (And.intro rfl (And.intro rfl (And.intro rfl (And.intro rfl (And.intro rfl trivial))))) (tk_split_j107l10_x hC hd h h0 h1)
        · rw [if_neg c4] at h
          refine mj_gcp hC 4 ?_
          show P (59, [some (.ref 32), some (.ref 2), some (.int v2), some (.int s10.1), some (.int s10.2.1), some (.int (fx_at s10.2.2 2 s10.1))], [.int v2, .int s10.1, .ref 2, .ref 32], (110, x), s10.2.2)
          obtain ⟨q9, eq9, h⟩ := mj_bnd h
          refine mj_pcall hC rfl (tk_cutNumber_x (Nat.le_trans (by decide) hd) eq9) ?_
          show P (62, [some (.ref 32), some (.ref 2), some (.int v2), some (.int s10.1), some (.int s10.2.1), some (.int (fx_at s10.2.2 2 s10.1))], [.int q9.1], (110, x), q9.2)
          refine mj_gcp hC 2 ?_
          show P (112, [some (.ref 32), some (.ref 2), some (.int v2), some (.int q9.1), some (.int s10.2.1), some (.int (fx_at s10.2.2 2 s10.1))], [], (110, x), q9.2)
          exact mj_less hC (L0 := [some (.ref 32), some (.ref 2), some (.int v2), some (.int q9.1), some (.int s10.2.1), none]) (And.intro rfl (And.intro rfl (And.intro rfl (And.intro rfl (And.intro rfl trivial))))) (tk_split_j112l10_x hC hd h h0 h1)
      · rw [if_neg c3] at h
        refine mj_gcp hC 4 ?_
        show P (40, [some (.ref 32), some (.ref 2), some (.int v2), some (.int s10.1), some (.int s10.2.1), some (.int (fx_at s10.2.2 2 s10.1))], [.int v2, .int s10.1, .ref 2, .ref 32], (110, x), s10.2.2)
        obtain ⟨q10, eq10, h⟩ := mj_bnd h
        refine mj_pcall hC rfl (tk_cutWord_x (Nat.le_trans (by decide) hd) eq10) ?_
        show P (43, [some (.ref 32), some (.ref 2), some (.int v2), some (.int s10.1), some (.int s10.2.1), some (.int (fx_at s10.2.2 2 s10.1))], [.int q10.1], (110, x), q10.2)
        refine mj_gcp hC 2 ?_
        show P (112, [some (.ref 32), some (.ref 2), some (.int v2), some (.int q10.1), some (.int s10.2.1), some (.int (fx_at s10.2.2 2 s10.1))], [], (110, x), q10.2)
        exact mj_less hC (L0 := [some (.ref 32), some (.ref 2), some (.int v2), some (.int q10.1), some (.int s10.2.1), none]) (And.intro rfl (And.intro rfl (And.intro rfl (And.intro rfl (And.intro rfl trivial))))) (tk_split_j112l10_x hC hd h h0 h1)
set_option maxRecDepth 20000 in
theorem tk_split_j118_x {Ls tp ip x d : Nat} {Z : mj_X} {R : Option Value → mj_G → mj_M → Prop} {P : mj_K → Prop} (hC : mj_cls false (mj_sh Ls) (mj_rf tp ip) mj_dv mj_cd_101 (mj_Ex false (mj_sh Ls) (mj_rf tp ip) Z d) R P) (hd : 3 ≤ d) {v2 : Int32}  {m : mj_M} {r : mj_M} (h : tk_split_j118 v2 m = some r) (hR : R none (110, x) r) : P (118, [some (.ref 32), none, some (.int v2), none, none, none], [], (110, x), m) := by
  unfold tk_split_j118 at h
  refine mj_gcp hC 4 ?_
  show P (123, [some (.ref 32), none, some (.int v2), none, none, none], [.int 0, .int v2, .int 23, .ref 32], (110, x), m)
  obtain ⟨q12, eq12, h⟩ := mj_bnd h
  refine mj_pcall hC rfl (tk_add_x (Nat.le_trans (by decide) hd) eq12) ?_
  show P (126, [some (.ref 32), none, some (.int v2), none, none, none], [], (110, x), q12)
  refine mj_gcp hC 4 ?_
  show P (132, [some (.ref 32), none, some (.int v2), none, none, none], [.ref 32], (110, x), (mj_up q12 32 5 (.int (-1))))
  obtain ⟨q13, eq13, h⟩ := mj_bnd h
  refine mj_pcall hC rfl (tk_step_x (Nat.le_trans (by decide) hd) eq13) ?_
  show P (135, [some (.ref 32), none, some (.int v2), none, none, none], [], (110, x), q13)
  cases h
  exact mj_pret hC rfl hR
set_option maxRecDepth 20000 in
theorem tk_split_p {Ls tp ip x d : Nat} {Z : mj_X} {R : Option Value → mj_G → mj_M → Prop} {P : mj_K → Prop} (hC : mj_cls false (mj_sh Ls) (mj_rf tp ip) mj_dv mj_cd_101 (mj_Ex false (mj_sh Ls) (mj_rf tp ip) Z d) R P) (hd : 3 ≤ d) {v2 : Int32} {m : mj_M} {r : mj_M} (h : tk_split v2 m = some r) (hR : R none (110, x) r) : P (0, [some (.ref 32), some (.ref 2), some (.int v2), none, none, none], [], (110, x), m) := by
  unfold tk_split at h
  refine mj_gcp hC 7 ?_
  show P (10, [some (.ref 32), some (.ref 2), some (.int v2), some (.int 0), some (.int 0), none], [], (110, x), (mj_up m 32 4 (.int 0)))
  obtain ⟨q11, eq11, h⟩ := mj_bnd h
  refine mj_less hC (L0 := [some (.ref 32), some (.ref 2), some (.int v2), some (.int 0), some (.int 0), none]) (And.intro rfl (And.intro rfl (And.intro rfl (And.intro rfl (And.intro rfl trivial))))) ?_
  refine mj_loop_P (A := fun z10 => P (10, [some (.ref 32), some (.ref 2), some (.int v2), some (.int z10.1), some (.int z10.2.1), none], [], (110, x), z10.2.2)) (E := fun _ z10 => P (118, [some (.ref 32), none, some (.int v2), none, none, none], [], (110, x), z10.2.2)) (fun zz t w hb h0 h1 => tk_split_l10_x hC hd zz hb h0 (fun ht => h1 0 ht)) mj_F _ q11 eq11 ?_
  exact mj_less hC (L0 := [some (.ref 32), none, some (.int v2), none, none, none]) (And.intro rfl (And.intro rfl trivial)) (tk_split_j118_x hC hd h hR)
set_option maxRecDepth 20000 in
theorem tk_split_x {Ls tp ip x d : Nat} {Z : mj_X} (hd : 4 ≤ d) {v2 : Int32} {m : mj_M} {r : mj_M} (h : tk_split v2 m = some r) : mj_Ex false (mj_sh Ls) (mj_rf tp ip) Z d 101 [.ref 32, .ref 2, .int v2] (110, x) m none (110, x) r := by
  exact mj_Ex_of (cd := mj_cd_101) (L := [some (.ref 32), some (.ref 2), some (.int v2), none, none, none]) (by omega) (by decide) rfl (Nat.le_of_ble_eq_true rfl) rfl (fun P hC => tk_split_p hC (by omega) h ⟨rfl, rfl, rfl⟩)
