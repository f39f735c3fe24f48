/-! FUNCTIONS OUT OF THE INSTRUCTIONS, AND THAT A RUN GIVES THEM (made by wip/whole/emit.py) -/
def md_thrown   (m : mj_M) : Int32 :=
  (mj_I (m 68 2))
set_option maxRecDepth 20000 in
theorem md_thrown_p {Ls tp ip x d : Nat} {Z : mj_X} {R : Option Value → mj_G → mj_M → Prop} {P : mj_K → Prop} (hC : mj_cls false (mj_sh Ls) (mj_rf tp ip) mj_dv mj_cd_154 (mj_Ex false (mj_sh Ls) (mj_rf tp ip) Z d) R P) (hd : 0 ≤ d)  {m : mj_M} (hR : R (some (.int (md_thrown m))) (110, x) m) : P (0, [some (.ref 68)], [], (110, x), m) := by
  unfold md_thrown at hR
  refine mj_gcp hC 2 ?_
  show P (4, [some (.ref 68)], [.int (mj_I (m 68 2))], (110, x), m)
  exact mj_pret hC rfl hR
set_option maxRecDepth 20000 in
theorem md_thrown_x {Ls tp ip x d : Nat} {Z : mj_X} (hd : 1 ≤ d)  {m : mj_M}  : mj_Ex false (mj_sh Ls) (mj_rf tp ip) Z d 154 [.ref 68] (110, x) m (some (.int (md_thrown m))) (110, x) m := by
  exact mj_Ex_of (cd := mj_cd_154) (L := [some (.ref 68)]) (by omega) (by decide) rfl (Nat.le_of_ble_eq_true rfl) rfl (fun P hC => md_thrown_p hC (by omega) ⟨rfl, rfl, rfl⟩)
def md_feed_j76l23   (v1 : Int32) (v2 : Int32) (v3 : Int32) (v4 : Int32) (v5 : Int32) (v6 : Int32) (s0 : Int32) (m : mj_M) : Option (Nat × (Int32 × mj_M)) :=
  (if ((mj_I (m 68 1)) + v6) < 0 ∨ 700 ≤ (((mj_I (m 68 1)) + v6) : Int32).toNatClampNeg then none else
  some (0, ((v6 + 1), (mj_up m 69 ((mj_I (m 68 1)) + v6).toNatClampNeg (.int ((s0 >>> (((24 : Int32) - ((8 : Int32) * (v6 - v6 / 4 * 4))) &&& 31)) &&& 255))))))
def md_feed_l23  (v1 : Int32) (v2 : Int32) (v3 : Int32) (v4 : Int32) (v5 : Int32) (s23 : (Int32 × mj_M)) : Option (Nat × (Int32 × mj_M)) :=
  (if 20 ≤ s23.1 then some (1, (s23.1, s23.2)) else
  (if 4 ≤ s23.1 then (if 8 ≤ s23.1 then (if 12 ≤ s23.1 then (if 16 ≤ s23.1 then md_feed_j76l23 v1 v2 v3 v4 v5 s23.1 v5 s23.2 else
  md_feed_j76l23 v1 v2 v3 v4 v5 s23.1 v4 s23.2) else
  md_feed_j76l23 v1 v2 v3 v4 v5 s23.1 v3 s23.2) else
  md_feed_j76l23 v1 v2 v3 v4 v5 s23.1 v2 s23.2) else
  md_feed_j76l23 v1 v2 v3 v4 v5 s23.1 v1 s23.2))
def md_feed  (v1 : Int32) (v2 : Int32) (v3 : Int32) (v4 : Int32) (v5 : Int32) (m : mj_M) : Option (Int32 × mj_M) :=
  (if ((mj_I (m 68 1)) + 20) ≤ 700 then (mj_loop (md_feed_l23 v1 v2 v3 v4 v5) mj_F (0, (mj_up m 68 2 (.int 0)))).bind fun q8 =>
  some (((mj_I (q8.2.2 68 1)) + 20), (mj_up q8.2.2 68 1 (.int ((mj_I (q8.2.2 68 1)) + 20)))) else
  some ((-1), (mj_up m 68 2 (.int 0))))
set_option maxRecDepth 20000 in
theorem md_feed_j76l23_x {Ls tp ip x d : Nat} {Z : mj_X} {R : Option Value → mj_G → mj_M → Prop} {P : mj_K → Prop} (hC : mj_cls false (mj_sh Ls) (mj_rf tp ip) mj_dv mj_cd_155 (mj_Ex false (mj_sh Ls) (mj_rf tp ip) Z d) R P) (hd : 0 ≤ d)  {v1 : Int32} {v2 : Int32} {v3 : Int32} {v4 : Int32} {v5 : Int32} {v6 : Int32} {s0 : Int32} {m : mj_M} {t : Nat} {w : (Int32 × mj_M)} (h : md_feed_j76l23  v1 v2 v3 v4 v5 v6 s0 m = some (t, w)) (h0 : t = 0 → P (23, [some (.ref 68), some (.int v1), some (.int v2), some (.int v3), some (.int v4), some (.int v5), some (.int w.1), none], [], (110, x), w.2)) (h1 : t = 1 → P (113, [some (.ref 68), none, none, none, none, none, none, none], [], (110, x), w.2)) : P (76, [some (.ref 68), some (.int v1), some (.int v2), some (.int v3), some (.int v4), some (.int v5), some (.int v6), none], [.int s0], (110, x), m) := by
  unfold md_feed_j76l23 at h
  obtain ⟨k7, h⟩ := mj_ifn h
  refine mj_gcp hC 21 ?_
  show _ ∧ (_ ∧ (P (23, [some (.ref 68), some (.int v1), some (.int v2), some (.int v3), some (.int v4), some (.int v5), some (.int (v6 + 1)), some (.int s0)], [], (110, x), (mj_up m 69 ((mj_I (m 68 1)) + v6).toNatClampNeg (.int ((s0 >>> (((24 : Int32) - ((8 : Int32) * (v6 - v6 / 4 * 4))) &&& 31)) &&& 255))))))
  refine And.intro (show ¬ ((4 : Int32) = 0) by decide) (And.intro k7 (?_))
  cases h
  exact mj_less hC (L0 := [some (.ref 68), some (.int v1), some (.int v2), some (.int v3), some (.int v4), some (.int v5), some (.int (v6 + 1)), none]) (And.intro rfl (And.intro rfl (And.intro rfl (And.intro rfl (And.intro rfl (And.intro rfl (And.intro rfl trivial))))))) (h0 rfl)
set_option maxRecDepth 20000 in
theorem md_feed_l23_x {Ls tp ip x d : Nat} {Z : mj_X} {R : Option Value → mj_G → mj_M → Prop} {P : mj_K → Prop} (hC : mj_cls false (mj_sh Ls) (mj_rf tp ip) mj_dv mj_cd_155 (mj_Ex false (mj_sh Ls) (mj_rf tp ip) Z d) R P) (hd : 0 ≤ d) {v1 : Int32} {v2 : Int32} {v3 : Int32} {v4 : Int32} {v5 : Int32} (s23 : (Int32 × mj_M)) {t : Nat} {w : (Int32 × mj_M)} (h : md_feed_l23 v1 v2 v3 v4 v5 s23 = some (t, w)) (h0 : t = 0 → P (23, [some (.ref 68), some (.int v1), some (.int v2), some (.int v3), some (.int v4), some (.int v5), some (.int w.1), none], [], (110, x), w.2)) (h1 : t = 1 → P (113, [some (.ref 68), none, none, none, none, none, none, none], [], (110, x), w.2)) : P (23, [some (.ref 68), some (.int v1), some (.int v2), some (.int v3), some (.int v4), some (.int v5), some (.int s23.1), none], [], (110, x), s23.2) := by
  unfold md_feed_l23 at h
  refine mj_gcp hC 3 ?_
  show P (mj_pick 113 30 (20 ≤ s23.1), [some (.ref 68), some (.int v1), some (.int v2), some (.int v3), some (.int v4), some (.int v5), some (.int s23.1), none], [], (110, x), s23.2)
  refine mj_pbr (fun c2 => ?_) (fun c2 => ?_)
  · rw [if_pos c2] at h
    cases h
    exact mj_less hC (L0 := [some (.ref 68), none, none, none, none, none, none, none]) (And.intro rfl trivial) (h1 rfl)
  · rw [if_neg c2] at h
    refine mj_gcp hC 3 ?_
    show P (mj_pick 40 36 (4 ≤ s23.1), [some (.ref 68), some (.int v1), some (.int v2), some (.int v3), some (.int v4), some (.int v5), some (.int s23.1), none], [], (110, x), s23.2)
    refine mj_pbr (fun c3 => ?_) (fun c3 => ?_)
    · rw [if_pos c3] at h
      refine mj_gcp hC 3 ?_
      show P (mj_pick 51 47 (8 ≤ s23.1), [some (.ref 68), some (.int v1), some (.int v2), some (.int v3), some (.int v4), some (.int v5), some (.int s23.1), none], [], (110, x), s23.2)
      refine mj_pbr (fun c4 => ?_) (fun c4 => ?_)
      · rw [if_pos c4] at h
        refine mj_gcp hC 3 ?_
        show P (mj_pick 62 58 (12 ≤ s23.1), [some (.ref 68), some (.int v1), some (.int v2), some (.int v3), some (.int v4), some (.int v5), some (.int s23.1), none], [], (110, x), s23.2)
        refine mj_pbr (fun c5 => ?_) (fun c5 => ?_)
        · rw [if_pos c5] at h
          refine mj_gcp hC 3 ?_
          show P (mj_pick 74 69 (16 ≤ s23.1), [some (.ref 68), some (.int v1), some (.int v2), some (.int v3), some (.int v4), some (.int v5), some (.int s23.1), none], [], (110, x), s23.2)
          refine mj_pbr (fun c6 => ?_) (fun c6 => ?_)
          · rw [if_pos c6] at h
            refine mj_gcp hC 1 ?_
            show P (76, [some (.ref 68), some (.int v1), some (.int v2), some (.int v3), some (.int v4), some (.int v5), some (.int s23.1), none], [.int v5], (110, x), s23.2)
            exact mj_less hC (L0 := [some (.ref 68), some (.int v1), some (.int v2), some (.int v3), some (.int v4), some (.int v5), some (.int s23.1), none]) (And.intro rfl (And.intro rfl (And.intro rfl (And.intro rfl (And.intro rfl (And.intro rfl (And.intro rfl trivial))))))) (md_feed_j76l23_x hC hd h h0 h1)
          · rw [if_neg c6] at h
            refine mj_gcp hC 2 ?_
            show P (76, [some (.ref 68), some (.int v1), some (.int v2), some (.int v3), some (.int v4), some (.int v5), some (.int s23.1), none], [.int v4], (110, x), s23.2)
            exact mj_less hC (L0 := [some (.ref 68), some (.int v1), some (.int v2), some (.int v3), some (.int v4), some (.int v5), some (.int s23.1), none]) (And.intro rfl (And.intro rfl (And.intro rfl (And.intro rfl (And.intro rfl (And.intro rfl (And.intro rfl trivial))))))) (md_feed_j76l23_x hC hd h h0 h1)
        · rw [if_neg c5] at h
          refine mj_gcp hC 2 ?_
          show P (76, [some (.ref 68), some (.int v1), some (.int v2), some (.int v3), some (.int v4), some (.int v5), some (.int s23.1), none], [.int v3], (110, x), s23.2)
          exact mj_less hC (L0 := [some (.ref 68), some (.int v1), some (.int v2), some (.int v3), some (.int v4), some (.int v5), some (.int s23.1), none]) (And.intro rfl (And.intro rfl (And.intro rfl (And.intro rfl (And.intro rfl (And.intro rfl (And.intro rfl trivial))))))) (md_feed_j76l23_x hC hd h h0 h1)
      · rw [if_neg c4] at h
        refine mj_gcp hC 2 ?_
        show P (76, [some (.ref 68), some (.int v1), some (.int v2), some (.int v3), some (.int v4), some (.int v5), some (.int s23.1), none], [.int v2], (110, x), s23.2)
        exact mj_less hC (L0 := [some (.ref 68), some (.int v1), some (.int v2), some (.int v3), some (.int v4), some (.int v5), some (.int s23.1), none]) (And.intro rfl (And.intro rfl (And.intro rfl (And.intro rfl (And.intro rfl (And.intro rfl (And.intro rfl trivial))))))) (md_feed_j76l23_x hC hd h h0 h1)
    · rw [if_neg c3] at h
      refine mj_gcp hC 2 ?_
      show P (76, [some (.ref 68), some (.int v1), some (.int v2), some (.int v3), some (.int v4), some (.int v5), some (.int s23.1), none], [.int v1], (110, x), s23.2)
      exact mj_less hC (L0 := [some (.ref 68), some (.int v1), some (.int v2), some (.int v3), some (.int v4), some (.int v5), some (.int s23.1), none]) (And.intro rfl (And.intro rfl (And.intro rfl (And.intro rfl (And.intro rfl (And.intro rfl (And.intro rfl trivial))))))) (md_feed_j76l23_x hC hd h h0 h1)
set_option maxRecDepth 20000 in
theorem md_feed_p {Ls tp ip x d : Nat} {Z : mj_X} {R : Option Value → mj_G → mj_M → Prop} {P : mj_K → Prop} (hC : mj_cls false (mj_sh Ls) (mj_rf tp ip) mj_dv mj_cd_155 (mj_Ex false (mj_sh Ls) (mj_rf tp ip) Z d) R P) (hd : 0 ≤ d) {v1 : Int32} {v2 : Int32} {v3 : Int32} {v4 : Int32} {v5 : Int32} {m : mj_M} {r : (Int32 × mj_M)} (h : md_feed v1 v2 v3 v4 v5 m = some r) (hR : R (some (.int r.1)) (110, x) r.2) : P (0, [some (.ref 68), some (.int v1), some (.int v2), some (.int v3), some (.int v4), some (.int v5), none, none], [], (110, x), m) := by
  unfold md_feed at h
  refine mj_gcp hC 9 ?_
  show P (mj_pick 20 18 (((mj_I (m 68 1)) + 20) ≤ 700), [some (.ref 68), some (.int v1), some (.int v2), some (.int v3), some (.int v4), some (.int v5), none, none], [], (110, x), (mj_up m 68 2 (.int 0)))
  refine mj_pbr (fun c1 => ?_) (fun c1 => ?_)
  · rw [if_pos c1] at h
    refine mj_gcp hC 2 ?_
    show P (23, [some (.ref 68), some (.int v1), some (.int v2), some (.int v3), some (.int v4), some (.int v5), some (.int 0), none], [], (110, x), (mj_up m 68 2 (.int 0)))
    obtain ⟨q8, eq8, h⟩ := mj_bnd h
    refine mj_less hC (L0 := [some (.ref 68), some (.int v1), some (.int v2), some (.int v3), some (.int v4), some (.int v5), some (.int 0), none]) (And.intro rfl (And.intro rfl (And.intro rfl (And.intro rfl (And.intro rfl (And.intro rfl (And.intro rfl trivial))))))) ?_
    refine mj_loop_P (A := fun z23 => P (23, [some (.ref 68), some (.int v1), some (.int v2), some (.int v3), some (.int v4), some (.int v5), some (.int z23.1), none], [], (110, x), z23.2)) (E := fun _ z23 => P (113, [some (.ref 68), none, none, none, none, none, none, none], [], (110, x), z23.2)) (fun zz t w hb h0 h1 => md_feed_l23_x hC hd zz hb h0 (fun ht => h1 0 ht)) mj_F _ q8 eq8 ?_
    refine mj_gcp hC 8 ?_
    show P (128, [some (.ref 68), none, none, none, none, none, none, none], [.int ((mj_I (q8.2.2 68 1)) + 20)], (110, x), (mj_up q8.2.2 68 1 (.int ((mj_I (q8.2.2 68 1)) + 20))))
    cases h
    exact mj_pret hC rfl hR
  · rw [if_neg c1] at h
    refine mj_gcp hC 1 ?_
    show P (19, [some (.ref 68), some (.int v1), some (.int v2), some (.int v3), some (.int v4), some (.int v5), none, none], [.int (-1)], (110, x), (mj_up m 68 2 (.int 0)))
    cases h
    exact mj_pret hC rfl hR
set_option maxRecDepth 20000 in
theorem md_feed_x {Ls tp ip x d : Nat} {Z : mj_X} (hd : 1 ≤ d) {v1 : Int32} {v2 : Int32} {v3 : Int32} {v4 : Int32} {v5 : Int32} {m : mj_M} {r : (Int32 × mj_M)} (h : md_feed v1 v2 v3 v4 v5 m = some r) : mj_Ex false (mj_sh Ls) (mj_rf tp ip) Z d 155 [.ref 68, .int v1, .int v2, .int v3, .int v4, .int v5] (110, x) m (some (.int r.1)) (110, x) r.2 := by
  exact mj_Ex_of (cd := mj_cd_155) (L := [some (.ref 68), some (.int v1), some (.int v2), some (.int v3), some (.int v4), some (.int v5), none, none]) (by omega) (by decide) rfl (Nat.le_of_ble_eq_true rfl) rfl (fun P hC => md_feed_p hC (by omega) h ⟨rfl, rfl, rfl⟩)
def md_isIn  (v0 : Int32) (v1 : Int32) (v2 : Int32) (m : mj_M) : Int32 :=
  (if v0 < v1 then 0 else
  (if v2 < v0 then 0 else
  1))
set_option maxRecDepth 20000 in
theorem md_isIn_p {Ls tp ip x d : Nat} {Z : mj_X} {R : Option Value → mj_G → mj_M → Prop} {P : mj_K → Prop} (hC : mj_cls false (mj_sh Ls) (mj_rf tp ip) mj_dv mj_cd_156 (mj_Ex false (mj_sh Ls) (mj_rf tp ip) Z d) R P) (hd : 0 ≤ d) {v0 : Int32} {v1 : Int32} {v2 : Int32} {m : mj_M} (hR : R (some (.int (md_isIn v0 v1 v2 m))) (110, x) m) : P (0, [some (.int v0), some (.int v1), some (.int v2)], [], (110, x), m) := by
  unfold md_isIn at hR
  refine mj_gcp hC 3 ?_
  show P (mj_pick 14 5 (v0 < v1), [some (.int v0), some (.int v1), some (.int v2)], [], (110, x), m)
  refine mj_pbr (fun c1 => ?_) (fun c1 => ?_)
  · rw [if_pos c1] at hR
    refine mj_gcp hC 1 ?_
    show P (15, [some (.int v0), some (.int v1), some (.int v2)], [.int 0], (110, x), m)
    exact mj_pret hC rfl hR
  · rw [if_neg c1] at hR
    refine mj_gcp hC 3 ?_
    show P (mj_pick 14 10 (v2 < v0), [some (.int v0), some (.int v1), some (.int v2)], [], (110, x), m)
    refine mj_pbr (fun c2 => ?_) (fun c2 => ?_)
    · rw [if_pos c2] at hR
      refine mj_gcp hC 1 ?_
      show P (15, [some (.int v0), some (.int v1), some (.int v2)], [.int 0], (110, x), m)
      exact mj_pret hC rfl hR
    · rw [if_neg c2] at hR
      refine mj_gcp hC 2 ?_
      show P (15, [some (.int v0), some (.int v1), some (.int v2)], [.int 1], (110, x), m)
      exact mj_pret hC rfl hR
set_option maxRecDepth 20000 in
theorem md_isIn_x {Ls tp ip x d : Nat} {Z : mj_X} (hd : 1 ≤ d) {v0 : Int32} {v1 : Int32} {v2 : Int32} {m : mj_M}  : mj_Ex false (mj_sh Ls) (mj_rf tp ip) Z d 156 [.int v0, .int v1, .int v2] (110, x) m (some (.int (md_isIn v0 v1 v2 m))) (110, x) m := by
  exact mj_Ex_of (cd := mj_cd_156) (L := [some (.int v0), some (.int v1), some (.int v2)]) (by omega) (by decide) rfl (Nat.le_of_ble_eq_true rfl) rfl (fun P hC => md_isIn_p hC (by omega) ⟨rfl, rfl, rfl⟩)
def md_isOf  (v0 : Int32) (v1 : Int32) (m : mj_M) : Int32 :=
  (if ((v0 >>> (v1 &&& 31)) &&& 1) = 1 then 1 else
  0)
set_option maxRecDepth 20000 in
theorem md_isOf_p {Ls tp ip x d : Nat} {Z : mj_X} {R : Option Value → mj_G → mj_M → Prop} {P : mj_K → Prop} (hC : mj_cls false (mj_sh Ls) (mj_rf tp ip) mj_dv mj_cd_157 (mj_Ex false (mj_sh Ls) (mj_rf tp ip) Z d) R P) (hd : 0 ≤ d) {v0 : Int32} {v1 : Int32} {m : mj_M} (hR : R (some (.int (md_isOf v0 v1 m))) (110, x) m) : P (0, [some (.int v0), some (.int v1)], [], (110, x), m) := by
  unfold md_isOf at hR
  refine mj_gcp hC 7 ?_
  show P (mj_pick 9 13 (((v0 >>> (v1 &&& 31)) &&& 1) = 1), [some (.int v0), some (.int v1)], [], (110, x), m)
  refine mj_pbr (fun c1 => ?_) (fun c1 => ?_)
  · rw [if_pos c1] at hR
    refine mj_gcp hC 2 ?_
    show P (14, [some (.int v0), some (.int v1)], [.int 1], (110, x), m)
    exact mj_pret hC rfl hR
  · rw [if_neg c1] at hR
    refine mj_gcp hC 1 ?_
    show P (14, [some (.int v0), some (.int v1)], [.int 0], (110, x), m)
    exact mj_pret hC rfl hR
set_option maxRecDepth 20000 in
theorem md_isOf_x {Ls tp ip x d : Nat} {Z : mj_X} (hd : 1 ≤ d) {v0 : Int32} {v1 : Int32} {m : mj_M}  : mj_Ex false (mj_sh Ls) (mj_rf tp ip) Z d 157 [.int v0, .int v1] (110, x) m (some (.int (md_isOf v0 v1 m))) (110, x) m := by
  exact mj_Ex_of (cd := mj_cd_157) (L := [some (.int v0), some (.int v1)]) (by omega) (by decide) rfl (Nat.le_of_ble_eq_true rfl) rfl (fun P hC => md_isOf_p hC (by omega) ⟨rfl, rfl, rfl⟩)
def md_wrong  (v1 : Int32) (m : mj_M) : Option (Int32 × mj_M) :=
  some (0, (mj_up (mj_up m 68 4 (.int v1)) 68 5 (.int (mj_I (m 68 10)))))
set_option maxRecDepth 20000 in
theorem md_wrong_p {Ls tp ip x d : Nat} {Z : mj_X} {R : Option Value → mj_G → mj_M → Prop} {P : mj_K → Prop} (hC : mj_cls false (mj_sh Ls) (mj_rf tp ip) mj_dv mj_cd_158 (mj_Ex false (mj_sh Ls) (mj_rf tp ip) Z d) R P) (hd : 0 ≤ d) {v1 : Int32} {m : mj_M} {r : (Int32 × mj_M)} (h : md_wrong v1 m = some r) (hR : R (some (.int r.1)) (110, x) r.2) : P (0, [some (.ref 68), some (.int v1)], [], (110, x), m) := by
  unfold md_wrong at h
  refine mj_gcp hC 8 ?_
  show P (14, [some (.ref 68), some (.int v1)], [.int 0], (110, x), (mj_up (mj_up m 68 4 (.int v1)) 68 5 (.int (mj_I (m 68 10)))))
  cases h
  exact mj_pret hC rfl hR
set_option maxRecDepth 20000 in
theorem md_wrong_x {Ls tp ip x d : Nat} {Z : mj_X} (hd : 1 ≤ d) {v1 : Int32} {m : mj_M} {r : (Int32 × mj_M)} (h : md_wrong v1 m = some r) : mj_Ex false (mj_sh Ls) (mj_rf tp ip) Z d 158 [.ref 68, .int v1] (110, x) m (some (.int r.1)) (110, x) r.2 := by
  exact mj_Ex_of (cd := mj_cd_158) (L := [some (.ref 68), some (.int v1)]) (by omega) (by decide) rfl (Nat.le_of_ble_eq_true rfl) rfl (fun P hC => md_wrong_p hC (by omega) h ⟨rfl, rfl, rfl⟩)
def md_wordAt_l18  (v1 : Int32) (v2 : Int32) (v3 : Int32) (v4 : Int32) (m : mj_M) (s18 : Int32) : Option (Nat × Int32) :=
  (if (v4 + s18) < 0 ∨ 100 ≤ ((v4 + s18) : Int32).toNatClampNeg then none else
  (if (mj_I (m 70 (v4 + s18).toNatClampNeg)) = 32 then some (1, s18) else
  some (0, (s18 + 1))))
def md_wordAt_j96l57   (v1 : Int32) (v2 : Int32) (v3 : Int32) (v4 : Int32) (v5 : Int32) (v7 : Int32) (s0 : Int32) (m : mj_M) : Option (Nat × (Int32 × Int32)) :=
  some (0, (s0, (v7 + 1)))
def md_wordAt_l57  (v1 : Int32) (v2 : Int32) (v3 : Int32) (v4 : Int32) (v5 : Int32) (m : mj_M) (s57 : (Int32 × Int32)) : Option (Nat × (Int32 × Int32)) :=
  (if v5 ≤ s57.2 then some (1, (s57.1, s57.2)) else
  (if s57.1 = 0 then some (1, (s57.1, s57.2)) else
  (if (v4 + s57.2) < 0 ∨ 100 ≤ ((v4 + s57.2) : Int32).toNatClampNeg then none else
  (if (v1 + s57.2) < 0 ∨ 700 ≤ ((v1 + s57.2) : Int32).toNatClampNeg then none else
  (if (mj_I (m 70 (v4 + s57.2).toNatClampNeg)) = (mj_I (m 69 (v1 + s57.2).toNatClampNeg)) then md_wordAt_j96l57 v1 v2 v3 v4 v5 s57.2 1 m else
  md_wordAt_j96l57 v1 v2 v3 v4 v5 s57.2 0 m)))))
def md_wordAt_j104l5   (v1 : Int32) (v2 : Int32) (v3 : Int32) (v4 : Int32) (v5 : Int32) (v6 : Int32)  (m : mj_M) : Option (Nat × (Int32 × Int32)) :=
  (if v6 = 0 then some (0, ((v3 + 1), (v4 + (v5 + 1)))) else
  some (1, (v3, v4)))
def md_wordAt_j52l5   (v1 : Int32) (v2 : Int32) (v3 : Int32) (v4 : Int32) (v5 : Int32) (s0 : Int32) (m : mj_M) : Option (Nat × (Int32 × Int32)) :=
  (mj_loop (md_wordAt_l57 v1 v2 v3 v4 v5 m) mj_F (s0, 0)).bind fun q11 =>
  md_wordAt_j104l5 v1 v2 v3 v4 v5 q11.2.1 m
def md_wordAt_l5  (v1 : Int32) (v2 : Int32) (m : mj_M) (s5 : (Int32 × Int32)) : Option (Nat × (Int32 × Int32)) :=
  (if (Int32.ofNat 100) ≤ s5.2 then some (2, (s5.1, s5.2)) else
  (mj_loop (md_wordAt_l18 v1 v2 s5.1 s5.2 m) mj_F 0).bind fun q4 =>
  (if q4.2 = (v2 - v1) then md_wordAt_j52l5 v1 v2 s5.1 s5.2 q4.2 1 m else
  md_wordAt_j52l5 v1 v2 s5.1 s5.2 q4.2 0 m))
def md_wordAt  (v1 : Int32) (v2 : Int32) (m : mj_M) : Option Int32 :=
  (mj_loop (md_wordAt_l5 v1 v2 m) mj_F (0, 0)).bind fun q13 =>
  (if q13.1 = 0 then some q13.2.1 else some (-1))
set_option maxRecDepth 20000 in
theorem md_wordAt_l18_x {Ls tp ip x d : Nat} {Z : mj_X} {R : Option Value → mj_G → mj_M → Prop} {P : mj_K → Prop} (hC : mj_cls false (mj_sh Ls) (mj_rf tp ip) mj_dv mj_cd_159 (mj_Ex false (mj_sh Ls) (mj_rf tp ip) Z d) R P) (hd : 0 ≤ d) {v1 : Int32} {v2 : Int32} {v3 : Int32} {v4 : Int32} {m : mj_M} (s18 : Int32) {t : Nat} {w : Int32} (h : md_wordAt_l18 v1 v2 v3 v4 m s18 = some (t, w)) (h0 : t = 0 → P (18, [some (.ref 68), some (.int v1), some (.int v2), some (.int v3), some (.int v4), some (.int w), none, none], [], (110, x), m)) (h1 : t = 1 → P (39, [some (.ref 68), some (.int v1), some (.int v2), some (.int v3), some (.int v4), some (.int w), none, none], [], (110, x), m)) : P (18, [some (.ref 68), some (.int v1), some (.int v2), some (.int v3), some (.int v4), some (.int s18), none, none], [], (110, x), m) := by
  unfold md_wordAt_l18 at h
  obtain ⟨k2, h⟩ := mj_ifn h
  refine mj_gcp hC 8 ?_
  show _ ∧ (P (mj_pick 39 33 ((mj_I (m 70 (v4 + s18).toNatClampNeg)) = 32), [some (.ref 68), some (.int v1), some (.int v2), some (.int v3), some (.int v4), some (.int s18), none, none], [], (110, x), m))
  refine And.intro k2 (?_)
  refine mj_pbr (fun c3 => ?_) (fun c3 => ?_)
  · rw [if_pos c3] at h
    cases h
    exact mj_less hC (L0 := [some (.ref 68), some (.int v1), some (.int v2), some (.int v3), some (.int v4), some (.int s18), none, none]) (And.intro rfl (And.intro rfl (And.intro rfl (And.intro rfl (And.intro rfl (And.intro rfl trivial)))))) (h1 rfl)
  · rw [if_neg c3] at h
    refine mj_gcp hC 2 ?_
    show P (18, [some (.ref 68), some (.int v1), some (.int v2), some (.int v3), some (.int v4), some (.int (s18 + 1)), none, none], [], (110, x), m)
    cases h
    exact mj_less hC (L0 := [some (.ref 68), some (.int v1), some (.int v2), some (.int v3), some (.int v4), some (.int (s18 + 1)), none, none]) (And.intro rfl (And.intro rfl (And.intro rfl (And.intro rfl (And.intro rfl (And.intro rfl trivial)))))) (h0 rfl)
set_option maxRecDepth 20000 in
theorem md_wordAt_j96l57_x {Ls tp ip x d : Nat} {Z : mj_X} {R : Option Value → mj_G → mj_M → Prop} {P : mj_K → Prop} (hC : mj_cls false (mj_sh Ls) (mj_rf tp ip) mj_dv mj_cd_159 (mj_Ex false (mj_sh Ls) (mj_rf tp ip) Z d) R P) (hd : 0 ≤ d)  {v1 : Int32} {v2 : Int32} {v3 : Int32} {v4 : Int32} {v5 : Int32} {v7 : Int32} {s0 : Int32} {m : mj_M} {t : Nat} {w : (Int32 × Int32)} (h : md_wordAt_j96l57  v1 v2 v3 v4 v5 v7 s0 m = some (t, w)) (h0 : t = 0 → P (57, [some (.ref 68), some (.int v1), some (.int v2), some (.int v3), some (.int v4), some (.int v5), some (.int w.1), some (.int w.2)], [], (110, x), m)) (h1 : t = 1 → P (104, [some (.ref 68), some (.int v1), some (.int v2), some (.int v3), some (.int v4), some (.int v5), some (.int w.1), none], [], (110, x), m)) : P (96, [some (.ref 68), some (.int v1), some (.int v2), some (.int v3), some (.int v4), some (.int v5), none, some (.int v7)], [.int s0], (110, x), m) := by
  unfold md_wordAt_j96l57 at h
  refine mj_gcp hC 3 ?_
  show P (57, [some (.ref 68), some (.int v1), some (.int v2), some (.int v3), some (.int v4), some (.int v5), some (.int s0), some (.int (v7 + 1))], [], (110, x), m)
  cases h
  exact mj_less hC (L0 := [some (.ref 68), some (.int v1), some (.int v2), some (.int v3), some (.int v4), some (.int v5), some (.int s0), some (.int (v7 + 1))]) (And.intro rfl (And.intro rfl (And.intro rfl (And.intro rfl (And.intro rfl (And.intro rfl (And.intro rfl (And.intro rfl trivial)))))))) (h0 rfl)
set_option maxRecDepth 20000 in
theorem md_wordAt_l57_x {Ls tp ip x d : Nat} {Z : mj_X} {R : Option Value → mj_G → mj_M → Prop} {P : mj_K → Prop} (hC : mj_cls false (mj_sh Ls) (mj_rf tp ip) mj_dv mj_cd_159 (mj_Ex false (mj_sh Ls) (mj_rf tp ip) Z d) R P) (hd : 0 ≤ d) {v1 : Int32} {v2 : Int32} {v3 : Int32} {v4 : Int32} {v5 : Int32} {m : mj_M} (s57 : (Int32 × Int32)) {t : Nat} {w : (Int32 × Int32)} (h : md_wordAt_l57 v1 v2 v3 v4 v5 m s57 = some (t, w)) (h0 : t = 0 → P (57, [some (.ref 68), some (.int v1), some (.int v2), some (.int v3), some (.int v4), some (.int v5), some (.int w.1), some (.int w.2)], [], (110, x), m)) (h1 : t = 1 → P (104, [some (.ref 68), some (.int v1), some (.int v2), some (.int v3), some (.int v4), some (.int v5), some (.int w.1), none], [], (110, x), m)) : P (57, [some (.ref 68), some (.int v1), some (.int v2), some (.int v3), some (.int v4), some (.int v5), some (.int s57.1), some (.int s57.2)], [], (110, x), m) := by
  unfold md_wordAt_l57 at h
  refine mj_gcp hC 3 ?_
  show P (mj_pick 104 64 (v5 ≤ s57.2), [some (.ref 68), some (.int v1), some (.int v2), some (.int v3), some (.int v4), some (.int v5), some (.int s57.1), some (.int s57.2)], [], (110, x), m)
  refine mj_pbr (fun c6 => ?_) (fun c6 => ?_)
  · rw [if_pos c6] at h
    cases h
    exact mj_less hC (L0 := [some (.ref 68), some (.int v1), some (.int v2), some (.int v3), some (.int v4), some (.int v5), some (.int s57.1), none]) (And.intro rfl (And.intro rfl (And.intro rfl (And.intro rfl (And.intro rfl (And.intro rfl (And.intro rfl trivial))))))) (h1 rfl)
  · rw [if_neg c6] at h
    refine mj_gcp hC 2 ?_
    show P (mj_pick 104 69 (s57.1 = 0), [some (.ref 68), some (.int v1), some (.int v2), some (.int v3), some (.int v4), some (.int v5), some (.int s57.1), some (.int s57.2)], [], (110, x), m)
    refine mj_pbr (fun c7 => ?_) (fun c7 => ?_)
    · rw [if_pos c7] at h
      cases h
      exact mj_less hC (L0 := [some (.ref 68), some (.int v1), some (.int v2), some (.int v3), some (.int v4), some (.int v5), some (.int s57.1), none]) (And.intro rfl (And.intro rfl (And.intro rfl (And.intro rfl (And.intro rfl (And.intro rfl (And.intro rfl trivial))))))) (h1 rfl)
    · rw [if_neg c7] at h
      obtain ⟨k8, h⟩ := mj_ifn h
      obtain ⟨k9, h⟩ := mj_ifn h
      refine mj_gcp hC 13 ?_
      show _ ∧ (_ ∧ (P (mj_pick 91 95 ((mj_I (m 70 (v4 + s57.2).toNatClampNeg)) = (mj_I (m 69 (v1 + s57.2).toNatClampNeg))), [some (.ref 68), some (.int v1), some (.int v2), some (.int v3), some (.int v4), some (.int v5), some (.int s57.1), some (.int s57.2)], [], (110, x), m)))
      refine And.intro k8 (And.intro k9 (?_))
      refine mj_pbr (fun c10 => ?_) (fun c10 => ?_)
      · rw [if_pos c10] at h
        refine mj_gcp hC 2 ?_
        show P (96, [some (.ref 68), some (.int v1), some (.int v2), some (.int v3), some (.int v4), some (.int v5), some (.int s57.1), some (.int s57.2)], [.int 1], (110, x), m)
        exact mj_less hC (L0 := [some (.ref 68), some (.int v1), some (.int v2), some (.int v3), some (.int v4), some (.int v5), none, some (.int s57.2)]) (And.intro rfl (And.intro rfl (And.intro rfl (And.intro rfl (And.intro rfl (And.intro rfl (And.intro rfl trivial))))))) (md_wordAt_j96l57_x hC hd h h0 h1)
      · rw [if_neg c10] at h
        refine mj_gcp hC 1 ?_
        show P (96, [some (.ref 68), some (.int v1), some (.int v2), some (.int v3), some (.int v4), some (.int v5), some (.int s57.1), some (.int s57.2)], [.int 0], (110, x), m)
        exact mj_less hC (L0 := [some (.ref 68), some (.int v1), some (.int v2), some (.int v3), some (.int v4), some (.int v5), none, some (.int s57.2)]) (And.intro rfl (And.intro rfl (And.intro rfl (And.intro rfl (And.intro rfl (And.intro rfl (And.intro rfl trivial))))))) (md_wordAt_j96l57_x hC hd h h0 h1)
set_option maxRecDepth 20000 in
theorem md_wordAt_j104l5_x {Ls tp ip x d : Nat} {Z : mj_X} {R : Option Value → mj_G → mj_M → Prop} {P : mj_K → Prop} (hC : mj_cls false (mj_sh Ls) (mj_rf tp ip) mj_dv mj_cd_159 (mj_Ex false (mj_sh Ls) (mj_rf tp ip) Z d) R P) (hd : 0 ≤ d)  {v1 : Int32} {v2 : Int32} {v3 : Int32} {v4 : Int32} {v5 : Int32} {v6 : Int32}  {m : mj_M} {t : Nat} {w : (Int32 × Int32)} (h : md_wordAt_j104l5  v1 v2 v3 v4 v5 v6 m = some (t, w)) (h0 : t = 0 → P (5, [some (.ref 68), some (.int v1), some (.int v2), some (.int w.1), some (.int w.2), none, none, none], [], (110, x), m)) (h1 : t = 1 → P (109, [none, none, none, some (.int w.1), none, none, none, none], [], (110, x), m)) (h2 : t = 2 → P (126, [none, none, none, none, none, none, none, none], [], (110, x), m)) : P (104, [some (.ref 68), some (.int v1), some (.int v2), some (.int v3), some (.int v4), some (.int v5), some (.int v6), none], [], (110, x), m) := by
  unfold md_wordAt_j104l5 at h
  refine mj_gcp hC 2 ?_
  show P (mj_pick 111 109 (v6 = 0), [some (.ref 68), some (.int v1), some (.int v2), some (.int v3), some (.int v4), some (.int v5), some (.int v6), none], [], (110, x), m)
  refine mj_pbr (fun c12 => ?_) (fun c12 => ?_)
  · rw [if_pos c12] at h
    refine mj_gcp hC 8 ?_
    show P (5, [some (.ref 68), some (.int v1), some (.int v2), some (.int (v3 + 1)), some (.int (v4 + (v5 + 1))), some (.int v5), some (.int v6), none], [], (110, x), m)
    cases h
    exact mj_less hC (L0 := [some (.ref 68), some (.int v1), some (.int v2), some (.int (v3 + 1)), some (.int (v4 + (v5 + 1))), none, none, none]) (And.intro rfl (And.intro rfl (And.intro rfl (And.intro rfl (And.intro rfl trivial))))) (h0 rfl)
  · rw [if_neg c12] at h
    cases h
    exact mj_less hC (L0 := [none, none, none, some (.int v3), none, none, none, none]) (And.intro rfl trivial) (h1 rfl)
set_option maxRecDepth 20000 in
theorem md_wordAt_j52l5_x {Ls tp ip x d : Nat} {Z : mj_X} {R : Option Value → mj_G → mj_M → Prop} {P : mj_K → Prop} (hC : mj_cls false (mj_sh Ls) (mj_rf tp ip) mj_dv mj_cd_159 (mj_Ex false (mj_sh Ls) (mj_rf tp ip) Z d) R P) (hd : 0 ≤ d)  {v1 : Int32} {v2 : Int32} {v3 : Int32} {v4 : Int32} {v5 : Int32} {s0 : Int32} {m : mj_M} {t : Nat} {w : (Int32 × Int32)} (h : md_wordAt_j52l5  v1 v2 v3 v4 v5 s0 m = some (t, w)) (h0 : t = 0 → P (5, [some (.ref 68), some (.int v1), some (.int v2), some (.int w.1), some (.int w.2), none, none, none], [], (110, x), m)) (h1 : t = 1 → P (109, [none, none, none, some (.int w.1), none, none, none, none], [], (110, x), m)) (h2 : t = 2 → P (126, [none, none, none, none, none, none, none, none], [], (110, x), m)) : P (52, [some (.ref 68), some (.int v1), some (.int v2), some (.int v3), some (.int v4), some (.int v5), none, none], [.int s0], (110, x), m) := by
  unfold md_wordAt_j52l5 at h
  refine mj_gcp hC 3 ?_
  show P (57, [some (.ref 68), some (.int v1), some (.int v2), some (.int v3), some (.int v4), some (.int v5), some (.int s0), some (.int 0)], [], (110, x), m)
  obtain ⟨q11, eq11, h⟩ := mj_bnd h
  refine mj_less hC (L0 := [some (.ref 68), some (.int v1), some (.int v2), some (.int v3), some (.int v4), some (.int v5), some (.int s0), some (.int 0)]) (And.intro rfl (And.intro rfl (And.intro rfl (And.intro rfl (And.intro rfl (And.intro rfl (And.intro rfl (And.intro rfl trivial)))))))) ?_
  refine mj_loop_P (A := fun z57 => P (57, [some (.ref 68), some (.int v1), some (.int v2), some (.int v3), some (.int v4), some (.int v5), some (.int z57.1), some (.int z57.2)], [], (110, x), m)) (E := fun _ z57 => P (104, [some (.ref 68), some (.int v1), some (.int v2), some (.int v3), some (.int v4), some (.int v5), some (.int z57.1), none], [], (110, x), m)) (fun zz t w hb h0 h1 => md_wordAt_l57_x hC hd zz hb h0 (fun ht => h1 0 ht)) mj_F _ q11 eq11 ?_
  exact mj_less hC (L0 := [some (.ref 68), some (.int v1), some (.int v2), some (.int v3), some (.int v4), some (.int v5), some (.int q11.2.1), none]) (And.intro rfl (And.intro rfl (And.intro rfl (And.intro rfl (And.intro rfl (And.intro rfl (And.intro rfl trivial))))))) (md_wordAt_j104l5_x hC hd h h0 h1 h2)
set_option maxRecDepth 20000 in
theorem md_wordAt_l5_x {Ls tp ip x d : Nat} {Z : mj_X} {R : Option Value → mj_G → mj_M → Prop} {P : mj_K → Prop} (hC : mj_cls false (mj_sh Ls) (mj_rf tp ip) mj_dv mj_cd_159 (mj_Ex false (mj_sh Ls) (mj_rf tp ip) Z d) R P) (hd : 0 ≤ d) {v1 : Int32} {v2 : Int32} {m : mj_M} (s5 : (Int32 × Int32)) {t : Nat} {w : (Int32 × Int32)} (h : md_wordAt_l5 v1 v2 m s5 = some (t, w)) (h0 : t = 0 → P (5, [some (.ref 68), some (.int v1), some (.int v2), some (.int w.1), some (.int w.2), none, none, none], [], (110, x), m)) (h1 : t = 1 → P (109, [none, none, none, some (.int w.1), none, none, none, none], [], (110, x), m)) (h2 : t = 2 → P (126, [none, none, none, none, none, none, none, none], [], (110, x), m)) : P (5, [some (.ref 68), some (.int v1), some (.int v2), some (.int s5.1), some (.int s5.2), none, none, none], [], (110, x), m) := by
  unfold md_wordAt_l5 at h
  refine mj_gcp hC 5 ?_
  show P (mj_pick 126 15 ((Int32.ofNat 100) ≤ s5.2), [some (.ref 68), some (.int v1), some (.int v2), some (.int s5.1), some (.int s5.2), none, none, none], [], (110, x), m)
  refine mj_pbr (fun c1 => ?_) (fun c1 => ?_)
  · rw [if_pos c1] at h
    cases h
    exact mj_less hC (L0 := [none, none, none, none, none, none, none, none]) trivial (h2 rfl)
  · rw [if_neg c1] at h
    refine mj_gcp hC 2 ?_
    show P (18, [some (.ref 68), some (.int v1), some (.int v2), some (.int s5.1), some (.int s5.2), some (.int 0), none, none], [], (110, x), m)
    obtain ⟨q4, eq4, h⟩ := mj_bnd h
    refine mj_less hC (L0 := [some (.ref 68), some (.int v1), some (.int v2), some (.int s5.1), some (.int s5.2), some (.int 0), none, none]) (And.intro rfl (And.intro rfl (And.intro rfl (And.intro rfl (And.intro rfl (And.intro rfl trivial)))))) ?_
    refine mj_loop_P (A := fun z18 => P (18, [some (.ref 68), some (.int v1), some (.int v2), some (.int s5.1), some (.int s5.2), some (.int z18), none, none], [], (110, x), m)) (E := fun _ z18 => P (39, [some (.ref 68), some (.int v1), some (.int v2), some (.int s5.1), some (.int s5.2), some (.int z18), none, none], [], (110, x), m)) (fun zz t w hb h0 h1 => md_wordAt_l18_x hC hd zz hb h0 (fun ht => h1 0 ht)) mj_F _ q4 eq4 ?_
    refine mj_gcp hC 5 ?_
    show P (mj_pick 47 51 (q4.2 = (v2 - v1)), [some (.ref 68), some (.int v1), some (.int v2), some (.int s5.1), some (.int s5.2), some (.int q4.2), none, none], [], (110, x), m)
    refine mj_pbr (fun c5 => ?_) (fun c5 => ?_)
    · rw [if_pos c5] at h
      refine mj_gcp hC 2 ?_
      show P (52, [some (.ref 68), some (.int v1), some (.int v2), some (.int s5.1), some (.int s5.2), some (.int q4.2), none, none], [.int 1], (110, x), m)
      exact mj_less hC (L0 := [some (.ref 68), some (.int v1), some (.int v2), some (.int s5.1), some (.int s5.2), some (.int q4.2), none, none]) (And.intro rfl (And.intro rfl (And.intro rfl (And.intro rfl (And.intro rfl (And.intro rfl trivial)))))) (md_wordAt_j52l5_x hC hd h h0 h1 h2)
    · rw [if_neg c5] at h
      refine mj_gcp hC 1 ?_
      show P (52, [some (.ref 68), some (.int v1), some (.int v2), some (.int s5.1), some (.int s5.2), some (.int q4.2), none, none], [.int 0], (110, x), m)
      exact mj_less hC (L0 := [some (.ref 68), some (.int v1), some (.int v2), some (.int s5.1), some (.int s5.2), some (.int q4.2), none, none]) (And.intro rfl (And.intro rfl (And.intro rfl (And.intro rfl (And.intro rfl (And.intro rfl trivial)))))) (md_wordAt_j52l5_x hC hd h h0 h1 h2)
set_option maxRecDepth 20000 in
theorem md_wordAt_p {Ls tp ip x d : Nat} {Z : mj_X} {R : Option Value → mj_G → mj_M → Prop} {P : mj_K → Prop} (hC : mj_cls false (mj_sh Ls) (mj_rf tp ip) mj_dv mj_cd_159 (mj_Ex false (mj_sh Ls) (mj_rf tp ip) Z d) R P) (hd : 0 ≤ d) {v1 : Int32} {v2 : Int32} {m : mj_M} {r : Int32} (h : md_wordAt v1 v2 m = some r) (hR : R (some (.int r)) (110, x) m) : P (0, [some (.ref 68), some (.int v1), some (.int v2), none, none, none, none, none], [], (110, x), m) := by
  unfold md_wordAt at h
  refine mj_gcp hC 4 ?_
  show P (5, [some (.ref 68), some (.int v1), some (.int v2), some (.int 0), some (.int 0), none, none, none], [], (110, x), m)
  obtain ⟨q13, eq13, h⟩ := mj_bnd h
  refine mj_less hC (L0 := [some (.ref 68), some (.int v1), some (.int v2), some (.int 0), some (.int 0), none, none, none]) (And.intro rfl (And.intro rfl (And.intro rfl (And.intro rfl (And.intro rfl trivial))))) ?_
  refine mj_loop_P (A := fun z5 => P (5, [some (.ref 68), some (.int v1), some (.int v2), some (.int z5.1), some (.int z5.2), none, none, none], [], (110, x), m)) (E := fun j z5 => (j = 0 → P (109, [none, none, none, some (.int z5.1), none, none, none, none], [], (110, x), m)) ∧ (¬ j = 0 → P (126, [none, none, none, none, none, none, none, none], [], (110, x), m))) (fun zz t w hb h0 h1 => md_wordAt_l5_x hC hd zz hb h0 (fun ht => (h1 0 ht).1 rfl) (fun ht => (h1 1 ht).2 (by decide))) mj_F _ q13 eq13 ⟨fun hj => ?_, fun hj => ?_⟩
  · rw [if_pos hj] at h
    refine mj_gcp hC 1 ?_
    show P (110, [none, none, none, some (.int q13.2.1), none, none, none, none], [.int q13.2.1], (110, x), m)
    cases h
    exact mj_pret hC rfl hR
  · rw [if_neg hj] at h
    refine mj_gcp hC 1 ?_
    show P (127, [none, none, none, none, none, none, none, none], [.int (-1)], (110, x), m)
    cases h
    exact mj_pret hC rfl hR
set_option maxRecDepth 20000 in
theorem md_wordAt_x {Ls tp ip x d : Nat} {Z : mj_X} (hd : 1 ≤ d) {v1 : Int32} {v2 : Int32} {m : mj_M} {r : Int32} (h : md_wordAt v1 v2 m = some r) : mj_Ex false (mj_sh Ls) (mj_rf tp ip) Z d 159 [.ref 68, .int v1, .int v2] (110, x) m (some (.int r)) (110, x) m := by
  exact mj_Ex_of (cd := mj_cd_159) (L := [some (.ref 68), some (.int v1), some (.int v2), none, none, none, none, none]) (by omega) (by decide) rfl (Nat.le_of_ble_eq_true rfl) rfl (fun P hC => md_wordAt_p hC (by omega) h ⟨rfl, rfl, rfl⟩)
def md_isSmall  (v1 : Int32) (m : mj_M) : Option Int32 :=
  (if (mj_I (m 68 6)) ≤ v1 then some 0 else
  (if v1 < 0 ∨ 700 ≤ (v1 : Int32).toNatClampNeg then none else
  (if (mj_I (m 69 v1.toNatClampNeg)) < 97 then some 0 else
  (if v1 < 0 ∨ 700 ≤ (v1 : Int32).toNatClampNeg then none else
  (if 122 < (mj_I (m 69 v1.toNatClampNeg)) then some 0 else
  some 1)))))
set_option maxRecDepth 20000 in
theorem md_isSmall_p {Ls tp ip x d : Nat} {Z : mj_X} {R : Option Value → mj_G → mj_M → Prop} {P : mj_K → Prop} (hC : mj_cls false (mj_sh Ls) (mj_rf tp ip) mj_dv mj_cd_160 (mj_Ex false (mj_sh Ls) (mj_rf tp ip) Z d) R P) (hd : 0 ≤ d) {v1 : Int32} {m : mj_M} {r : Int32} (h : md_isSmall v1 m = some r) (hR : R (some (.int r)) (110, x) m) : P (0, [some (.ref 68), some (.int v1)], [], (110, x), m) := by
  unfold md_isSmall at h
  refine mj_gcp hC 4 ?_
  show P (mj_pick 34 8 ((mj_I (m 68 6)) ≤ v1), [some (.ref 68), some (.int v1)], [], (110, x), m)
  refine mj_pbr (fun c1 => ?_) (fun c1 => ?_)
  · rw [if_pos c1] at h
    refine mj_gcp hC 1 ?_
    show P (35, [some (.ref 68), some (.int v1)], [.int 0], (110, x), m)
    cases h
    exact mj_pret hC rfl hR
  · rw [if_neg c1] at h
    obtain ⟨k2, h⟩ := mj_ifn h
    refine mj_gcp hC 6 ?_
    show _ ∧ (P (mj_pick 34 19 ((mj_I (m 69 v1.toNatClampNeg)) < 97), [some (.ref 68), some (.int v1)], [], (110, x), m))
    refine And.intro k2 (?_)
    refine mj_pbr (fun c3 => ?_) (fun c3 => ?_)
    · rw [if_pos c3] at h
      refine mj_gcp hC 1 ?_
      show P (35, [some (.ref 68), some (.int v1)], [.int 0], (110, x), m)
      cases h
      exact mj_pret hC rfl hR
    · rw [if_neg c3] at h
      obtain ⟨k4, h⟩ := mj_ifn h
      refine mj_gcp hC 6 ?_
      show _ ∧ (P (mj_pick 34 30 (122 < (mj_I (m 69 v1.toNatClampNeg))), [some (.ref 68), some (.int v1)], [], (110, x), m))
      refine And.intro k4 (?_)
      refine mj_pbr (fun c5 => ?_) (fun c5 => ?_)
      · rw [if_pos c5] at h
        refine mj_gcp hC 1 ?_
        show P (35, [some (.ref 68), some (.int v1)], [.int 0], (110, x), m)
        cases h
        exact mj_pret hC rfl hR
      · rw [if_neg c5] at h
        refine mj_gcp hC 2 ?_
        show P (35, [some (.ref 68), some (.int v1)], [.int 1], (110, x), m)
        cases h
        exact mj_pret hC rfl hR
set_option maxRecDepth 20000 in
theorem md_isSmall_x {Ls tp ip x d : Nat} {Z : mj_X} (hd : 1 ≤ d) {v1 : Int32} {m : mj_M} {r : Int32} (h : md_isSmall v1 m = some r) : mj_Ex false (mj_sh Ls) (mj_rf tp ip) Z d 160 [.ref 68, .int v1] (110, x) m (some (.int r)) (110, x) m := by
  exact mj_Ex_of (cd := mj_cd_160) (L := [some (.ref 68), some (.int v1)]) (by omega) (by decide) rfl (Nat.le_of_ble_eq_true rfl) rfl (fun P hC => md_isSmall_p hC (by omega) h ⟨rfl, rfl, rfl⟩)
def md_isDigit  (v1 : Int32) (m : mj_M) : Option Int32 :=
  (if (mj_I (m 68 6)) ≤ v1 then some 0 else
  (if v1 < 0 ∨ 700 ≤ (v1 : Int32).toNatClampNeg then none else
  (if (mj_I (m 69 v1.toNatClampNeg)) < 48 then some 0 else
  (if v1 < 0 ∨ 700 ≤ (v1 : Int32).toNatClampNeg then none else
  (if 57 < (mj_I (m 69 v1.toNatClampNeg)) then some 0 else
  some 1)))))
set_option maxRecDepth 20000 in
theorem md_isDigit_p {Ls tp ip x d : Nat} {Z : mj_X} {R : Option Value → mj_G → mj_M → Prop} {P : mj_K → Prop} (hC : mj_cls false (mj_sh Ls) (mj_rf tp ip) mj_dv mj_cd_161 (mj_Ex false (mj_sh Ls) (mj_rf tp ip) Z d) R P) (hd : 0 ≤ d) {v1 : Int32} {m : mj_M} {r : Int32} (h : md_isDigit v1 m = some r) (hR : R (some (.int r)) (110, x) m) : P (0, [some (.ref 68), some (.int v1)], [], (110, x), m) := by
  unfold md_isDigit at h
  refine mj_gcp hC 4 ?_
  show P (mj_pick 34 8 ((mj_I (m 68 6)) ≤ v1), [some (.ref 68), some (.int v1)], [], (110, x), m)
  refine mj_pbr (fun c1 => ?_) (fun c1 => ?_)
  · rw [if_pos c1] at h
    refine mj_gcp hC 1 ?_
    show P (35, [some (.ref 68), some (.int v1)], [.int 0], (110, x), m)
    cases h
    exact mj_pret hC rfl hR
  · rw [if_neg c1] at h
    obtain ⟨k2, h⟩ := mj_ifn h
    refine mj_gcp hC 6 ?_
    show _ ∧ (P (mj_pick 34 19 ((mj_I (m 69 v1.toNatClampNeg)) < 48), [some (.ref 68), some (.int v1)], [], (110, x), m))
    refine And.intro k2 (?_)
    refine mj_pbr (fun c3 => ?_) (fun c3 => ?_)
    · rw [if_pos c3] at h
      refine mj_gcp hC 1 ?_
      show P (35, [some (.ref 68), some (.int v1)], [.int 0], (110, x), m)
      cases h
      exact mj_pret hC rfl hR
    · rw [if_neg c3] at h
      obtain ⟨k4, h⟩ := mj_ifn h
      refine mj_gcp hC 6 ?_
      show _ ∧ (P (mj_pick 34 30 (57 < (mj_I (m 69 v1.toNatClampNeg))), [some (.ref 68), some (.int v1)], [], (110, x), m))
      refine And.intro k4 (?_)
      refine mj_pbr (fun c5 => ?_) (fun c5 => ?_)
      · rw [if_pos c5] at h
        refine mj_gcp hC 1 ?_
        show P (35, [some (.ref 68), some (.int v1)], [.int 0], (110, x), m)
        cases h
        exact mj_pret hC rfl hR
      · rw [if_neg c5] at h
        refine mj_gcp hC 2 ?_
        show P (35, [some (.ref 68), some (.int v1)], [.int 1], (110, x), m)
        cases h
        exact mj_pret hC rfl hR
set_option maxRecDepth 20000 in
theorem md_isDigit_x {Ls tp ip x d : Nat} {Z : mj_X} (hd : 1 ≤ d) {v1 : Int32} {m : mj_M} {r : Int32} (h : md_isDigit v1 m = some r) : mj_Ex false (mj_sh Ls) (mj_rf tp ip) Z d 161 [.ref 68, .int v1] (110, x) m (some (.int r)) (110, x) m := by
  exact mj_Ex_of (cd := mj_cd_161) (L := [some (.ref 68), some (.int v1)]) (by omega) (by decide) rfl (Nat.le_of_ble_eq_true rfl) rfl (fun P hC => md_isDigit_p hC (by omega) h ⟨rfl, rfl, rfl⟩)
def md_signToken_j135  (v2 : Int32) (v3 : Int32)  (m : mj_M) : Option mj_M :=
  (if (mj_I (m 68 9)) = 61 then some (mj_up (mj_up m 68 8 (.int 5)) 68 9 (.int 2)) else
  (if (mj_I (m 68 9)) = 60 then (if v2 = 0 then (if v3 = 0 then some (mj_up (mj_up m 68 8 (.int 5)) 68 9 (.int 0)) else
  some (mj_up (mj_up m 68 8 (.int 5)) 68 9 (.int 3))) else
  some (mj_up (mj_up m 68 8 (.int 5)) 68 9 (.int 1))) else
  (if v2 = 0 then some (mj_up (mj_up m 68 8 (.int 5)) 68 9 (.int 5)) else
  some (mj_up (mj_up m 68 8 (.int 5)) 68 9 (.int 4)))))
def md_signToken_j125  (v2 : Int32) (v3 : Int32)  (m : mj_M) : Option mj_M :=
  md_signToken_j135 v2 v3 (mj_up m 68 7 (.int ((mj_I (m 68 7)) + 1)))
def md_signToken_j116  (v2 : Int32) (s0 : Int32) (m : mj_M) : Option mj_M :=
  (if v2 = 0 then (if s0 = 0 then md_signToken_j135 v2 s0 m else
  md_signToken_j125 v2 s0 m) else
  md_signToken_j125 v2 s0 m)
def md_signToken_j115  (v2 : Int32)  (m : mj_M) : Option mj_M :=
  md_signToken_j116 v2 0 m
def md_signToken_j95  (v1 : Int32) (s0 : Int32) (m : mj_M) : Option mj_M :=
  (if (mj_I (m 68 9)) = 60 then (if v1 = 62 then md_signToken_j116 s0 1 m else
  md_signToken_j115 s0 m) else
  md_signToken_j115 s0 m)
def md_signToken_j94  (v1 : Int32)  (m : mj_M) : Option mj_M :=
  md_signToken_j95 v1 0 m
def md_signToken_j74   (s0 : Int32) (m : mj_M) : Option mj_M :=
  (if (mj_I (m 68 9)) = 61 then md_signToken_j94 s0 m else
  (if s0 = 61 then md_signToken_j95 s0 1 m else
  md_signToken_j94 s0 m))
def md_signToken_j50    (m : mj_M) : Option mj_M :=
  (if (mj_I (m 68 6)) ≤ (mj_I (m 68 7)) then md_signToken_j74 0 m else
  (if (mj_I (m 68 7)) < 0 ∨ 700 ≤ ((mj_I (m 68 7)) : Int32).toNatClampNeg then none else
  md_signToken_j74 (mj_I (m 69 (mj_I (m 68 7)).toNatClampNeg)) m))
def md_signToken_j275   (s0 : Int32) (m : mj_M) : Option mj_M :=
  (if s0 = 0 then some (mj_up m 68 8 (.int 6)) else
  some (mj_up m 68 8 (.int 4)))
def md_signToken_j270    (m : mj_M) : Option mj_M :=
  md_signToken_j275 1 m
def md_signToken   (m : mj_M) : Option mj_M :=
  (if (mj_I (m 68 7)) < 0 ∨ 700 ≤ ((mj_I (m 68 7)) : Int32).toNatClampNeg then none else
  (if (mj_I (m 69 (mj_I (m 68 7)).toNatClampNeg)) = 60 then md_signToken_j50 (mj_up (mj_up m 68 9 (.int (mj_I (m 69 (mj_I (m 68 7)).toNatClampNeg)))) 68 7 (.int ((mj_I (m 68 7)) + 1))) else
  (if (mj_I (m 69 (mj_I (m 68 7)).toNatClampNeg)) = 62 then md_signToken_j50 (mj_up (mj_up m 68 9 (.int (mj_I (m 69 (mj_I (m 68 7)).toNatClampNeg)))) 68 7 (.int ((mj_I (m 68 7)) + 1))) else
  (if (mj_I (m 69 (mj_I (m 68 7)).toNatClampNeg)) = 61 then md_signToken_j50 (mj_up (mj_up m 68 9 (.int (mj_I (m 69 (mj_I (m 68 7)).toNatClampNeg)))) 68 7 (.int ((mj_I (m 68 7)) + 1))) else
  (if (mj_I (m 69 (mj_I (m 68 7)).toNatClampNeg)) = 59 then md_signToken_j270 (mj_up (mj_up m 68 9 (.int (mj_I (m 69 (mj_I (m 68 7)).toNatClampNeg)))) 68 7 (.int ((mj_I (m 68 7)) + 1))) else
  (if (mj_I (m 69 (mj_I (m 68 7)).toNatClampNeg)) = 40 then md_signToken_j270 (mj_up (mj_up m 68 9 (.int (mj_I (m 69 (mj_I (m 68 7)).toNatClampNeg)))) 68 7 (.int ((mj_I (m 68 7)) + 1))) else
  (if (mj_I (m 69 (mj_I (m 68 7)).toNatClampNeg)) = 41 then md_signToken_j270 (mj_up (mj_up m 68 9 (.int (mj_I (m 69 (mj_I (m 68 7)).toNatClampNeg)))) 68 7 (.int ((mj_I (m 68 7)) + 1))) else
  (if (mj_I (m 69 (mj_I (m 68 7)).toNatClampNeg)) = 43 then md_signToken_j270 (mj_up (mj_up m 68 9 (.int (mj_I (m 69 (mj_I (m 68 7)).toNatClampNeg)))) 68 7 (.int ((mj_I (m 68 7)) + 1))) else
  (if (mj_I (m 69 (mj_I (m 68 7)).toNatClampNeg)) = 45 then md_signToken_j270 (mj_up (mj_up m 68 9 (.int (mj_I (m 69 (mj_I (m 68 7)).toNatClampNeg)))) 68 7 (.int ((mj_I (m 68 7)) + 1))) else
  (if (mj_I (m 69 (mj_I (m 68 7)).toNatClampNeg)) = 42 then md_signToken_j270 (mj_up (mj_up m 68 9 (.int (mj_I (m 69 (mj_I (m 68 7)).toNatClampNeg)))) 68 7 (.int ((mj_I (m 68 7)) + 1))) else
  (if (mj_I (m 69 (mj_I (m 68 7)).toNatClampNeg)) = 47 then md_signToken_j270 (mj_up (mj_up m 68 9 (.int (mj_I (m 69 (mj_I (m 68 7)).toNatClampNeg)))) 68 7 (.int ((mj_I (m 68 7)) + 1))) else
  (if (mj_I (m 69 (mj_I (m 68 7)).toNatClampNeg)) = 37 then md_signToken_j270 (mj_up (mj_up m 68 9 (.int (mj_I (m 69 (mj_I (m 68 7)).toNatClampNeg)))) 68 7 (.int ((mj_I (m 68 7)) + 1))) else
  md_signToken_j275 0 (mj_up (mj_up m 68 9 (.int (mj_I (m 69 (mj_I (m 68 7)).toNatClampNeg)))) 68 7 (.int ((mj_I (m 68 7)) + 1)))))))))))))))
set_option maxRecDepth 20000 in
theorem md_signToken_j135_x {Ls tp ip x d : Nat} {Z : mj_X} {R : Option Value → mj_G → mj_M → Prop} {P : mj_K → Prop} (hC : mj_cls false (mj_sh Ls) (mj_rf tp ip) mj_dv mj_cd_163 (mj_Ex false (mj_sh Ls) (mj_rf tp ip) Z d) R P) (hd : 0 ≤ d) {v2 : Int32} {v3 : Int32}  {m : mj_M} {r : mj_M} (h : md_signToken_j135 v2 v3 m = some r) (hR : R none (110, x) r) : P (135, [some (.ref 68), none, some (.int v2), some (.int v3)], [], (110, x), m) := by
  unfold md_signToken_j135 at h
  refine mj_gcp hC 8 ?_
  show P (mj_pick 150 154 ((mj_I (m 68 9)) = 61), [some (.ref 68), none, some (.int v2), some (.int v3)], [.ref 68], (110, x), (mj_up m 68 8 (.int 5)))
  refine mj_pbr (fun c9 => ?_) (fun c9 => ?_)
  · rw [if_pos c9] at h
    refine mj_gcp hC 2 ?_
    show P (192, [some (.ref 68), none, some (.int v2), some (.int v3)], [.int 2, .ref 68], (110, x), (mj_up m 68 8 (.int 5)))
    refine mj_gcp hC 2 ?_
    show P (290, [some (.ref 68), none, some (.int v2), some (.int v3)], [], (110, x), (mj_up (mj_up m 68 8 (.int 5)) 68 9 (.int 2)))
    cases h
    exact mj_pret hC rfl hR
  · rw [if_neg c9] at h
    refine mj_gcp hC 4 ?_
    show P (mj_pick 163 183 ((mj_I (m 68 9)) = 60), [some (.ref 68), none, some (.int v2), some (.int v3)], [.ref 68], (110, x), (mj_up m 68 8 (.int 5)))
    refine mj_pbr (fun c10 => ?_) (fun c10 => ?_)
    · rw [if_pos c10] at h
      refine mj_gcp hC 2 ?_
      show P (mj_pick 171 167 (v2 = 0), [some (.ref 68), none, some (.int v2), some (.int v3)], [.ref 68], (110, x), (mj_up m 68 8 (.int 5)))
      refine mj_pbr (fun c11 => ?_) (fun c11 => ?_)
      · rw [if_pos c11] at h
        refine mj_gcp hC 2 ?_
        show P (mj_pick 179 175 (v3 = 0), [some (.ref 68), none, some (.int v2), some (.int v3)], [.ref 68], (110, x), (mj_up m 68 8 (.int 5)))
        refine mj_pbr (fun c12 => ?_) (fun c12 => ?_)
        · rw [if_pos c12] at h
          refine mj_gcp hC 2 ?_
          show P (192, [some (.ref 68), none, some (.int v2), some (.int v3)], [.int 0, .ref 68], (110, x), (mj_up m 68 8 (.int 5)))
          refine mj_gcp hC 2 ?_
          show P (290, [some (.ref 68), none, some (.int v2), some (.int v3)], [], (110, x), (mj_up (mj_up m 68 8 (.int 5)) 68 9 (.int 0)))
          cases h
          exact mj_pret hC rfl hR
        · rw [if_neg c12] at h
          refine mj_gcp hC 2 ?_
          show P (192, [some (.ref 68), none, some (.int v2), some (.int v3)], [.int 3, .ref 68], (110, x), (mj_up m 68 8 (.int 5)))
          refine mj_gcp hC 2 ?_
          show P (290, [some (.ref 68), none, some (.int v2), some (.int v3)], [], (110, x), (mj_up (mj_up m 68 8 (.int 5)) 68 9 (.int 3)))
          cases h
          exact mj_pret hC rfl hR
      · rw [if_neg c11] at h
        refine mj_gcp hC 2 ?_
        show P (192, [some (.ref 68), none, some (.int v2), some (.int v3)], [.int 1, .ref 68], (110, x), (mj_up m 68 8 (.int 5)))
        refine mj_gcp hC 2 ?_
        show P (290, [some (.ref 68), none, some (.int v2), some (.int v3)], [], (110, x), (mj_up (mj_up m 68 8 (.int 5)) 68 9 (.int 1)))
        cases h
        exact mj_pret hC rfl hR
    · rw [if_neg c10] at h
      refine mj_gcp hC 2 ?_
      show P (mj_pick 191 187 (v2 = 0), [some (.ref 68), none, some (.int v2), some (.int v3)], [.ref 68], (110, x), (mj_up m 68 8 (.int 5)))
      refine mj_pbr (fun c13 => ?_) (fun c13 => ?_)
      · rw [if_pos c13] at h
        refine mj_gcp hC 1 ?_
        show P (192, [some (.ref 68), none, some (.int v2), some (.int v3)], [.int 5, .ref 68], (110, x), (mj_up m 68 8 (.int 5)))
        refine mj_gcp hC 2 ?_
        show P (290, [some (.ref 68), none, some (.int v2), some (.int v3)], [], (110, x), (mj_up (mj_up m 68 8 (.int 5)) 68 9 (.int 5)))
        cases h
        exact mj_pret hC rfl hR
      · rw [if_neg c13] at h
        refine mj_gcp hC 2 ?_
        show P (192, [some (.ref 68), none, some (.int v2), some (.int v3)], [.int 4, .ref 68], (110, x), (mj_up m 68 8 (.int 5)))
        refine mj_gcp hC 2 ?_
        show P (290, [some (.ref 68), none, some (.int v2), some (.int v3)], [], (110, x), (mj_up (mj_up m 68 8 (.int 5)) 68 9 (.int 4)))
        cases h
        exact mj_pret hC rfl hR
set_option maxRecDepth 20000 in
theorem md_signToken_j125_x {Ls tp ip x d : Nat} {Z : mj_X} {R : Option Value → mj_G → mj_M → Prop} {P : mj_K → Prop} (hC : mj_cls false (mj_sh Ls) (mj_rf tp ip) mj_dv mj_cd_163 (mj_Ex false (mj_sh Ls) (mj_rf tp ip) Z d) R P) (hd : 0 ≤ d) {v2 : Int32} {v3 : Int32}  {m : mj_M} {r : mj_M} (h : md_signToken_j125 v2 v3 m = some r) (hR : R none (110, x) r) : P (125, [some (.ref 68), none, some (.int v2), some (.int v3)], [], (110, x), m) := by
  unfold md_signToken_j125 at h
  refine mj_gcp hC 6 ?_
  show P (135, [some (.ref 68), none, some (.int v2), some (.int v3)], [], (110, x), (mj_up m 68 7 (.int ((mj_I (m 68 7)) + 1))))
  exact mj_less hC (L0 := [some (.ref 68), none, some (.int v2), some (.int v3)]) (And.intro rfl (And.intro rfl (And.intro rfl trivial))) (md_signToken_j135_x hC hd h hR)
set_option maxRecDepth 20000 in
theorem md_signToken_j116_x {Ls tp ip x d : Nat} {Z : mj_X} {R : Option Value → mj_G → mj_M → Prop} {P : mj_K → Prop} (hC : mj_cls false (mj_sh Ls) (mj_rf tp ip) mj_dv mj_cd_163 (mj_Ex false (mj_sh Ls) (mj_rf tp ip) Z d) R P) (hd : 0 ≤ d) {v2 : Int32} {s0 : Int32} {m : mj_M} {r : mj_M} (h : md_signToken_j116 v2 s0 m = some r) (hR : R none (110, x) r) : P (116, [some (.ref 68), none, some (.int v2), none], [.int s0], (110, x), m) := by
  unfold md_signToken_j116 at h
  refine mj_gcp hC 3 ?_
  show P (mj_pick 121 125 (v2 = 0), [some (.ref 68), none, some (.int v2), some (.int s0)], [], (110, x), m)
  refine mj_pbr (fun c7 => ?_) (fun c7 => ?_)
  · rw [if_pos c7] at h
    refine mj_gcp hC 2 ?_
    show P (mj_pick 135 125 (s0 = 0), [some (.ref 68), none, some (.int v2), some (.int s0)], [], (110, x), m)
    refine mj_pbr (fun c8 => ?_) (fun c8 => ?_)
    · rw [if_pos c8] at h
      exact mj_less hC (L0 := [some (.ref 68), none, some (.int v2), some (.int s0)]) (And.intro rfl (And.intro rfl (And.intro rfl trivial))) (md_signToken_j135_x hC hd h hR)
    · rw [if_neg c8] at h
      exact mj_less hC (L0 := [some (.ref 68), none, some (.int v2), some (.int s0)]) (And.intro rfl (And.intro rfl (And.intro rfl trivial))) (md_signToken_j125_x hC hd h hR)
  · rw [if_neg c7] at h
    exact mj_less hC (L0 := [some (.ref 68), none, some (.int v2), some (.int s0)]) (And.intro rfl (And.intro rfl (And.intro rfl trivial))) (md_signToken_j125_x hC hd h hR)
set_option maxRecDepth 20000 in
theorem md_signToken_j115_x {Ls tp ip x d : Nat} {Z : mj_X} {R : Option Value → mj_G → mj_M → Prop} {P : mj_K → Prop} (hC : mj_cls false (mj_sh Ls) (mj_rf tp ip) mj_dv mj_cd_163 (mj_Ex false (mj_sh Ls) (mj_rf tp ip) Z d) R P) (hd : 0 ≤ d) {v2 : Int32}  {m : mj_M} {r : mj_M} (h : md_signToken_j115 v2 m = some r) (hR : R none (110, x) r) : P (115, [some (.ref 68), none, some (.int v2), none], [], (110, x), m) := by
  unfold md_signToken_j115 at h
  refine mj_gcp hC 1 ?_
  show P (116, [some (.ref 68), none, some (.int v2), none], [.int 0], (110, x), m)
  exact mj_less hC (L0 := [some (.ref 68), none, some (.int v2), none]) (And.intro rfl (And.intro rfl trivial)) (md_signToken_j116_x hC hd h hR)
set_option maxRecDepth 20000 in
theorem md_signToken_j95_x {Ls tp ip x d : Nat} {Z : mj_X} {R : Option Value → mj_G → mj_M → Prop} {P : mj_K → Prop} (hC : mj_cls false (mj_sh Ls) (mj_rf tp ip) mj_dv mj_cd_163 (mj_Ex false (mj_sh Ls) (mj_rf tp ip) Z d) R P) (hd : 0 ≤ d) {v1 : Int32} {s0 : Int32} {m : mj_M} {r : mj_M} (h : md_signToken_j95 v1 s0 m = some r) (hR : R none (110, x) r) : P (95, [some (.ref 68), some (.int v1), none, none], [.int s0], (110, x), m) := by
  unfold md_signToken_j95 at h
  refine mj_gcp hC 5 ?_
  show P (mj_pick 105 115 ((mj_I (m 68 9)) = 60), [some (.ref 68), some (.int v1), some (.int s0), none], [], (110, x), m)
  refine mj_pbr (fun c5 => ?_) (fun c5 => ?_)
  · rw [if_pos c5] at h
    refine mj_gcp hC 3 ?_
    show P (mj_pick 111 115 (v1 = 62), [some (.ref 68), some (.int v1), some (.int s0), none], [], (110, x), m)
    refine mj_pbr (fun c6 => ?_) (fun c6 => ?_)
    · rw [if_pos c6] at h
      refine mj_gcp hC 2 ?_
      show P (116, [some (.ref 68), some (.int v1), some (.int s0), none], [.int 1], (110, x), m)
      exact mj_less hC (L0 := [some (.ref 68), none, some (.int s0), none]) (And.intro rfl (And.intro rfl trivial)) (md_signToken_j116_x hC hd h hR)
    · rw [if_neg c6] at h
      exact mj_less hC (L0 := [some (.ref 68), none, some (.int s0), none]) (And.intro rfl (And.intro rfl trivial)) (md_signToken_j115_x hC hd h hR)
  · rw [if_neg c5] at h
    exact mj_less hC (L0 := [some (.ref 68), none, some (.int s0), none]) (And.intro rfl (And.intro rfl trivial)) (md_signToken_j115_x hC hd h hR)
set_option maxRecDepth 20000 in
theorem md_signToken_j94_x {Ls tp ip x d : Nat} {Z : mj_X} {R : Option Value → mj_G → mj_M → Prop} {P : mj_K → Prop} (hC : mj_cls false (mj_sh Ls) (mj_rf tp ip) mj_dv mj_cd_163 (mj_Ex false (mj_sh Ls) (mj_rf tp ip) Z d) R P) (hd : 0 ≤ d) {v1 : Int32}  {m : mj_M} {r : mj_M} (h : md_signToken_j94 v1 m = some r) (hR : R none (110, x) r) : P (94, [some (.ref 68), some (.int v1), none, none], [], (110, x), m) := by
  unfold md_signToken_j94 at h
  refine mj_gcp hC 1 ?_
  show P (95, [some (.ref 68), some (.int v1), none, none], [.int 0], (110, x), m)
  exact mj_less hC (L0 := [some (.ref 68), some (.int v1), none, none]) (And.intro rfl (And.intro rfl trivial)) (md_signToken_j95_x hC hd h hR)
set_option maxRecDepth 20000 in
theorem md_signToken_j74_x {Ls tp ip x d : Nat} {Z : mj_X} {R : Option Value → mj_G → mj_M → Prop} {P : mj_K → Prop} (hC : mj_cls false (mj_sh Ls) (mj_rf tp ip) mj_dv mj_cd_163 (mj_Ex false (mj_sh Ls) (mj_rf tp ip) Z d) R P) (hd : 0 ≤ d)  {s0 : Int32} {m : mj_M} {r : mj_M} (h : md_signToken_j74 s0 m = some r) (hR : R none (110, x) r) : P (74, [some (.ref 68), none, none, none], [.int s0], (110, x), m) := by
  unfold md_signToken_j74 at h
  refine mj_gcp hC 5 ?_
  show P (mj_pick 94 84 ((mj_I (m 68 9)) = 61), [some (.ref 68), some (.int s0), none, none], [], (110, x), m)
  refine mj_pbr (fun c4 => ?_) (fun c4 => ?_)
  · rw [if_pos c4] at h
    exact mj_less hC (L0 := [some (.ref 68), some (.int s0), none, none]) (And.intro rfl (And.intro rfl trivial)) (md_signToken_j94_x hC hd h hR)
  · rw [if_neg c4] at h
    refine mj_gcp hC 3 ?_
    show P (mj_pick 90 94 (s0 = 61), [some (.ref 68), some (.int s0), none, none], [], (110, x), m)
    refine mj_pbr (fun c14 => ?_) (fun c14 => ?_)
    · rw [if_pos c14] at h
      refine mj_gcp hC 2 ?_
      show P (95, [some (.ref 68), some (.int s0), none, none], [.int 1], (110, x), m)
      exact mj_less hC (L0 := [some (.ref 68), some (.int s0), none, none]) (And.intro rfl (And.intro rfl trivial)) (md_signToken_j95_x hC hd h hR)
    · rw [if_neg c14] at h
      exact mj_less hC (L0 := [some (.ref 68), some (.int s0), none, none]) (And.intro rfl (And.intro rfl trivial)) (md_signToken_j94_x hC hd h hR)
set_option maxRecDepth 20000 in
theorem md_signToken_j50_x {Ls tp ip x d : Nat} {Z : mj_X} {R : Option Value → mj_G → mj_M → Prop} {P : mj_K → Prop} (hC : mj_cls false (mj_sh Ls) (mj_rf tp ip) mj_dv mj_cd_163 (mj_Ex false (mj_sh Ls) (mj_rf tp ip) Z d) R P) (hd : 0 ≤ d)   {m : mj_M} {r : mj_M} (h : md_signToken_j50 m = some r) (hR : R none (110, x) r) : P (50, [some (.ref 68), none, none, none], [], (110, x), m) := by
  unfold md_signToken_j50 at h
  refine mj_gcp hC 5 ?_
  show P (mj_pick 73 61 ((mj_I (m 68 6)) ≤ (mj_I (m 68 7))), [some (.ref 68), none, none, none], [], (110, x), m)
  refine mj_pbr (fun c3 => ?_) (fun c3 => ?_)
  · rw [if_pos c3] at h
    refine mj_gcp hC 1 ?_
    show P (74, [some (.ref 68), none, none, none], [.int 0], (110, x), m)
    exact mj_less hC (L0 := [some (.ref 68), none, none, none]) (And.intro rfl trivial) (md_signToken_j74_x hC hd h hR)
  · rw [if_neg c3] at h
    obtain ⟨k15, h⟩ := mj_ifn h
    refine mj_gcp hC 6 ?_
    show _ ∧ (P (74, [some (.ref 68), none, none, none], [.int (mj_I (m 69 (mj_I (m 68 7)).toNatClampNeg))], (110, x), m))
    refine And.intro k15 (?_)
    exact mj_less hC (L0 := [some (.ref 68), none, none, none]) (And.intro rfl trivial) (md_signToken_j74_x hC hd h hR)
set_option maxRecDepth 20000 in
theorem md_signToken_j275_x {Ls tp ip x d : Nat} {Z : mj_X} {R : Option Value → mj_G → mj_M → Prop} {P : mj_K → Prop} (hC : mj_cls false (mj_sh Ls) (mj_rf tp ip) mj_dv mj_cd_163 (mj_Ex false (mj_sh Ls) (mj_rf tp ip) Z d) R P) (hd : 0 ≤ d)  {s0 : Int32} {m : mj_M} {r : mj_M} (h : md_signToken_j275 s0 m = some r) (hR : R none (110, x) r) : P (275, [some (.ref 68), none, none, none], [.int s0], (110, x), m) := by
  unfold md_signToken_j275 at h
  refine mj_gcp hC 4 ?_
  show P (mj_pick 285 281 (s0 = 0), [some (.ref 68), some (.int s0), none, none], [.ref 68], (110, x), m)
  refine mj_pbr (fun c19 => ?_) (fun c19 => ?_)
  · rw [if_pos c19] at h
    refine mj_gcp hC 1 ?_
    show P (287, [some (.ref 68), some (.int s0), none, none], [.int 6, .ref 68], (110, x), m)
    refine mj_gcp hC 1 ?_
    show P (290, [some (.ref 68), some (.int s0), none, none], [], (110, x), (mj_up m 68 8 (.int 6)))
    cases h
    exact mj_pret hC rfl hR
  · rw [if_neg c19] at h
    refine mj_gcp hC 2 ?_
    show P (287, [some (.ref 68), some (.int s0), none, none], [.int 4, .ref 68], (110, x), m)
    refine mj_gcp hC 1 ?_
    show P (290, [some (.ref 68), some (.int s0), none, none], [], (110, x), (mj_up m 68 8 (.int 4)))
    cases h
    exact mj_pret hC rfl hR
set_option maxRecDepth 20000 in
theorem md_signToken_j270_x {Ls tp ip x d : Nat} {Z : mj_X} {R : Option Value → mj_G → mj_M → Prop} {P : mj_K → Prop} (hC : mj_cls false (mj_sh Ls) (mj_rf tp ip) mj_dv mj_cd_163 (mj_Ex false (mj_sh Ls) (mj_rf tp ip) Z d) R P) (hd : 0 ≤ d)   {m : mj_M} {r : mj_M} (h : md_signToken_j270 m = some r) (hR : R none (110, x) r) : P (270, [some (.ref 68), none, none, none], [], (110, x), m) := by
  unfold md_signToken_j270 at h
  refine mj_gcp hC 2 ?_
  show P (275, [some (.ref 68), none, none, none], [.int 1], (110, x), m)
  exact mj_less hC (L0 := [some (.ref 68), none, none, none]) (And.intro rfl trivial) (md_signToken_j275_x hC hd h hR)
set_option maxRecDepth 20000 in
theorem md_signToken_p {Ls tp ip x d : Nat} {Z : mj_X} {R : Option Value → mj_G → mj_M → Prop} {P : mj_K → Prop} (hC : mj_cls false (mj_sh Ls) (mj_rf tp ip) mj_dv mj_cd_163 (mj_Ex false (mj_sh Ls) (mj_rf tp ip) Z d) R P) (hd : 0 ≤ d)  {m : mj_M} {r : mj_M} (h : md_signToken m = some r) (hR : R none (110, x) r) : P (0, [some (.ref 68), none, none, none], [], (110, x), m) := by
  unfold md_signToken at h
  obtain ⟨k1, h⟩ := mj_ifn h
  refine mj_gcp hC 17 ?_
  show _ ∧ (P (mj_pick 50 32 ((mj_I (m 69 (mj_I (m 68 7)).toNatClampNeg)) = 60), [some (.ref 68), none, none, none], [], (110, x), (mj_up (mj_up m 68 9 (.int (mj_I (m 69 (mj_I (m 68 7)).toNatClampNeg)))) 68 7 (.int ((mj_I (m 68 7)) + 1)))))
  refine And.intro k1 (?_)
  refine mj_pbr (fun c2 => ?_) (fun c2 => ?_)
  · rw [if_pos c2] at h
    exact mj_less hC (L0 := [some (.ref 68), none, none, none]) (And.intro rfl trivial) (md_signToken_j50_x hC hd h hR)
  · rw [if_neg c2] at h
    refine mj_gcp hC 4 ?_
    show P (mj_pick 50 41 ((mj_I (m 69 (mj_I (m 68 7)).toNatClampNeg)) = 62), [some (.ref 68), none, none, none], [], (110, x), (mj_up (mj_up m 68 9 (.int (mj_I (m 69 (mj_I (m 68 7)).toNatClampNeg)))) 68 7 (.int ((mj_I (m 68 7)) + 1))))
    refine mj_pbr (fun c16 => ?_) (fun c16 => ?_)
    · rw [if_pos c16] at h
      exact mj_less hC (L0 := [some (.ref 68), none, none, none]) (And.intro rfl trivial) (md_signToken_j50_x hC hd h hR)
    · rw [if_neg c16] at h
      refine mj_gcp hC 4 ?_
      show P (mj_pick 50 198 ((mj_I (m 69 (mj_I (m 68 7)).toNatClampNeg)) = 61), [some (.ref 68), none, none, none], [], (110, x), (mj_up (mj_up m 68 9 (.int (mj_I (m 69 (mj_I (m 68 7)).toNatClampNeg)))) 68 7 (.int ((mj_I (m 68 7)) + 1))))
      refine mj_pbr (fun c17 => ?_) (fun c17 => ?_)
      · rw [if_pos c17] at h
        exact mj_less hC (L0 := [some (.ref 68), none, none, none]) (And.intro rfl trivial) (md_signToken_j50_x hC hd h hR)
      · rw [if_neg c17] at h
        refine mj_gcp hC 4 ?_
        show P (mj_pick 270 207 ((mj_I (m 69 (mj_I (m 68 7)).toNatClampNeg)) = 59), [some (.ref 68), none, none, none], [], (110, x), (mj_up (mj_up m 68 9 (.int (mj_I (m 69 (mj_I (m 68 7)).toNatClampNeg)))) 68 7 (.int ((mj_I (m 68 7)) + 1))))
        refine mj_pbr (fun c18 => ?_) (fun c18 => ?_)
        · rw [if_pos c18] at h
          exact mj_less hC (L0 := [some (.ref 68), none, none, none]) (And.intro rfl trivial) (md_signToken_j270_x hC hd h hR)
        · rw [if_neg c18] at h
          refine mj_gcp hC 4 ?_
          show P (mj_pick 270 216 ((mj_I (m 69 (mj_I (m 68 7)).toNatClampNeg)) = 40), [some (.ref 68), none, none, none], [], (110, x), (mj_up (mj_up m 68 9 (.int (mj_I (m 69 (mj_I (m 68 7)).toNatClampNeg)))) 68 7 (.int ((mj_I (m 68 7)) + 1))))
          refine mj_pbr (fun c20 => ?_) (fun c20 => ?_)
          · rw [if_pos c20] at h
            exact mj_less hC (L0 := [some (.ref 68), none, none, none]) (And.intro rfl trivial) (md_signToken_j270_x hC hd h hR)
          · rw [if_neg c20] at h
            refine mj_gcp hC 4 ?_
            show P (mj_pick 270 225 ((mj_I (m 69 (mj_I (m 68 7)).toNatClampNeg)) = 41), [some (.ref 68), none, none, none], [], (110, x), (mj_up (mj_up m 68 9 (.int (mj_I (m 69 (mj_I (m 68 7)).toNatClampNeg)))) 68 7 (.int ((mj_I (m 68 7)) + 1))))
            refine mj_pbr (fun c21 => ?_) (fun c21 => ?_)
            · rw [if_pos c21] at h
              exact mj_less hC (L0 := [some (.ref 68), none, none, none]) (And.intro rfl trivial) (md_signToken_j270_x hC hd h hR)
            · rw [if_neg c21] at h
              refine mj_gcp hC 4 ?_
              show P (mj_pick 270 234 ((mj_I (m 69 (mj_I (m 68 7)).toNatClampNeg)) = 43), [some (.ref 68), none, none, none], [], (110, x), (mj_up (mj_up m 68 9 (.int (mj_I (m 69 (mj_I (m 68 7)).toNatClampNeg)))) 68 7 (.int ((mj_I (m 68 7)) + 1))))
              refine mj_pbr (fun c22 => ?_) (fun c22 => ?_)
              · rw [if_pos c22] at h
                exact mj_less hC (L0 := [some (.ref 68), none, none, none]) (And.intro rfl trivial) (md_signToken_j270_x hC hd h hR)
              · rw [if_neg c22] at h
                refine mj_gcp hC 4 ?_
                show P (mj_pick 270 243 ((mj_I (m 69 (mj_I (m 68 7)).toNatClampNeg)) = 45), [some (.ref 68), none, none, none], [], (110, x), (mj_up (mj_up m 68 9 (.int (mj_I (m 69 (mj_I (m 68 7)).toNatClampNeg)))) 68 7 (.int ((mj_I (m 68 7)) + 1))))
                refine mj_pbr (fun c23 => ?_) (fun c23 => ?_)
                · rw [if_pos c23] at h
                  exact mj_less hC (L0 := [some (.ref 68), none, none, none]) (And.intro rfl trivial) (md_signToken_j270_x hC hd h hR)
                · rw [if_neg c23] at h
                  refine mj_gcp hC 4 ?_
                  show P (mj_pick 270 252 ((mj_I (m 69 (mj_I (m 68 7)).toNatClampNeg)) = 42), [some (.ref 68), none, none, none], [], (110, x), (mj_up (mj_up m 68 9 (.int (mj_I (m 69 (mj_I (m 68 7)).toNatClampNeg)))) 68 7 (.int ((mj_I (m 68 7)) + 1))))
                  refine mj_pbr (fun c24 => ?_) (fun c24 => ?_)
                  · rw [if_pos c24] at h
                    exact mj_less hC (L0 := [some (.ref 68), none, none, none]) (And.intro rfl trivial) (md_signToken_j270_x hC hd h hR)
                  · rw [if_neg c24] at h
                    refine mj_gcp hC 4 ?_
                    show P (mj_pick 270 261 ((mj_I (m 69 (mj_I (m 68 7)).toNatClampNeg)) = 47), [some (.ref 68), none, none, none], [], (110, x), (mj_up (mj_up m 68 9 (.int (mj_I (m 69 (mj_I (m 68 7)).toNatClampNeg)))) 68 7 (.int ((mj_I (m 68 7)) + 1))))
                    refine mj_pbr (fun c25 => ?_) (fun c25 => ?_)
                    · rw [if_pos c25] at h
                      exact mj_less hC (L0 := [some (.ref 68), none, none, none]) (And.intro rfl trivial) (md_signToken_j270_x hC hd h hR)
                    · rw [if_neg c25] at h
                      refine mj_gcp hC 4 ?_
                      show P (mj_pick 270 274 ((mj_I (m 69 (mj_I (m 68 7)).toNatClampNeg)) = 37), [some (.ref 68), none, none, none], [], (110, x), (mj_up (mj_up m 68 9 (.int (mj_I (m 69 (mj_I (m 68 7)).toNatClampNeg)))) 68 7 (.int ((mj_I (m 68 7)) + 1))))
                      refine mj_pbr (fun c26 => ?_) (fun c26 => ?_)
                      · rw [if_pos c26] at h
                        exact mj_less hC (L0 := [some (.ref 68), none, none, none]) (And.intro rfl trivial) (md_signToken_j270_x hC hd h hR)
                      · rw [if_neg c26] at h
                        refine mj_gcp hC 1 ?_
                        show P (275, [some (.ref 68), none, none, none], [.int 0], (110, x), (mj_up (mj_up m 68 9 (.int (mj_I (m 69 (mj_I (m 68 7)).toNatClampNeg)))) 68 7 (.int ((mj_I (m 68 7)) + 1))))
                        exact mj_less hC (L0 := [some (.ref 68), none, none, none]) (And.intro rfl trivial) (md_signToken_j275_x hC hd h hR)
set_option maxRecDepth 20000 in
theorem md_signToken_x {Ls tp ip x d : Nat} {Z : mj_X} (hd : 1 ≤ d)  {m : mj_M} {r : mj_M} (h : md_signToken m = some r) : mj_Ex false (mj_sh Ls) (mj_rf tp ip) Z d 163 [.ref 68] (110, x) m none (110, x) r := by
  exact mj_Ex_of (cd := mj_cd_163) (L := [some (.ref 68), none, none, none]) (by omega) (by decide) rfl (Nat.le_of_ble_eq_true rfl) rfl (fun P hC => md_signToken_p hC (by omega) h ⟨rfl, rfl, rfl⟩)
def md_packed_j37l5   (v1 : Int32) (v2 : Int32) (v4 : Int32) (s0 : Int32) (s1 : Int32) (m : mj_M) : Option (Nat × (Int32 × Int32)) :=
  some (0, ((s0 ||| s1), (v4 + 1)))
def md_packed_l5  (v1 : Int32) (v2 : Int32) (m : mj_M) (s5 : (Int32 × Int32)) : Option (Nat × (Int32 × Int32)) :=
  (if (v1 + 6) ≤ s5.2 then some (1, (s5.1, s5.2)) else
  (if v2 ≤ s5.2 then md_packed_j37l5 v1 v2 s5.2 (s5.1 <<< (5 &&& 31)) 0 m else
  (if s5.2 < 0 ∨ 700 ≤ (s5.2 : Int32).toNatClampNeg then none else
  md_packed_j37l5 v1 v2 s5.2 (s5.1 <<< (5 &&& 31)) ((mj_I (m 69 s5.2.toNatClampNeg)) - 96) m)))
def md_packed  (v1 : Int32) (v2 : Int32) (m : mj_M) : Option Int32 :=
  (mj_loop (md_packed_l5 v1 v2 m) mj_F (0, v1)).bind fun q4 =>
  some q4.2.1
set_option maxRecDepth 20000 in
theorem md_packed_j37l5_x {Ls tp ip x d : Nat} {Z : mj_X} {R : Option Value → mj_G → mj_M → Prop} {P : mj_K → Prop} (hC : mj_cls false (mj_sh Ls) (mj_rf tp ip) mj_dv mj_cd_164 (mj_Ex false (mj_sh Ls) (mj_rf tp ip) Z d) R P) (hd : 0 ≤ d)  {v1 : Int32} {v2 : Int32} {v4 : Int32} {s0 : Int32} {s1 : Int32} {m : mj_M} {t : Nat} {w : (Int32 × Int32)} (h : md_packed_j37l5  v1 v2 v4 s0 s1 m = some (t, w)) (h0 : t = 0 → P (5, [some (.ref 68), some (.int v1), some (.int v2), some (.int w.1), some (.int w.2)], [], (110, x), m)) (h1 : t = 1 → P (45, [none, none, none, some (.int w.1), none], [], (110, x), m)) : P (37, [some (.ref 68), some (.int v1), some (.int v2), none, some (.int v4)], [.int s1, .int s0], (110, x), m) := by
  unfold md_packed_j37l5 at h
  refine mj_gcp hC 4 ?_
  show P (5, [some (.ref 68), some (.int v1), some (.int v2), some (.int (s0 ||| s1)), some (.int (v4 + 1))], [], (110, x), m)
  cases h
  exact mj_less hC (L0 := [some (.ref 68), some (.int v1), some (.int v2), some (.int (s0 ||| s1)), some (.int (v4 + 1))]) (And.intro rfl (And.intro rfl (And.intro rfl (And.intro rfl (And.intro rfl trivial))))) (h0 rfl)
set_option maxRecDepth 20000 in
theorem md_packed_l5_x {Ls tp ip x d : Nat} {Z : mj_X} {R : Option Value → mj_G → mj_M → Prop} {P : mj_K → Prop} (hC : mj_cls false (mj_sh Ls) (mj_rf tp ip) mj_dv mj_cd_164 (mj_Ex false (mj_sh Ls) (mj_rf tp ip) Z d) R P) (hd : 0 ≤ d) {v1 : Int32} {v2 : Int32} {m : mj_M} (s5 : (Int32 × Int32)) {t : Nat} {w : (Int32 × Int32)} (h : md_packed_l5 v1 v2 m s5 = some (t, w)) (h0 : t = 0 → P (5, [some (.ref 68), some (.int v1), some (.int v2), some (.int w.1), some (.int w.2)], [], (110, x), m)) (h1 : t = 1 → P (45, [none, none, none, some (.int w.1), none], [], (110, x), m)) : P (5, [some (.ref 68), some (.int v1), some (.int v2), some (.int s5.1), some (.int s5.2)], [], (110, x), m) := by
  unfold md_packed_l5 at h
  refine mj_gcp hC 5 ?_
  show P (mj_pick 45 14 ((v1 + 6) ≤ s5.2), [some (.ref 68), some (.int v1), some (.int v2), some (.int s5.1), some (.int s5.2)], [], (110, x), m)
  refine mj_pbr (fun c1 => ?_) (fun c1 => ?_)
  · rw [if_pos c1] at h
    cases h
    exact mj_less hC (L0 := [none, none, none, some (.int s5.1), none]) (And.intro rfl trivial) (h1 rfl)
  · rw [if_neg c1] at h
    refine mj_gcp hC 6 ?_
    show P (mj_pick 36 23 (v2 ≤ s5.2), [some (.ref 68), some (.int v1), some (.int v2), some (.int s5.1), some (.int s5.2)], [.int (s5.1 <<< (5 &&& 31))], (110, x), m)
    refine mj_pbr (fun c2 => ?_) (fun c2 => ?_)
    · rw [if_pos c2] at h
      refine mj_gcp hC 1 ?_
      show P (37, [some (.ref 68), some (.int v1), some (.int v2), some (.int s5.1), some (.int s5.2)], [.int 0, .int (s5.1 <<< (5 &&& 31))], (110, x), m)
      exact mj_less hC (L0 := [some (.ref 68), some (.int v1), some (.int v2), none, some (.int s5.2)]) (And.intro rfl (And.intro rfl (And.intro rfl (And.intro rfl trivial)))) (md_packed_j37l5_x hC hd h h0 h1)
    · rw [if_neg c2] at h
      obtain ⟨k3, h⟩ := mj_ifn h
      refine mj_gcp hC 7 ?_
      show _ ∧ (P (37, [some (.ref 68), some (.int v1), some (.int v2), some (.int s5.1), some (.int s5.2)], [.int ((mj_I (m 69 s5.2.toNatClampNeg)) - 96), .int (s5.1 <<< (5 &&& 31))], (110, x), m))
      refine And.intro k3 (?_)
      exact mj_less hC (L0 := [some (.ref 68), some (.int v1), some (.int v2), none, some (.int s5.2)]) (And.intro rfl (And.intro rfl (And.intro rfl (And.intro rfl trivial)))) (md_packed_j37l5_x hC hd h h0 h1)
set_option maxRecDepth 20000 in
theorem md_packed_p {Ls tp ip x d : Nat} {Z : mj_X} {R : Option Value → mj_G → mj_M → Prop} {P : mj_K → Prop} (hC : mj_cls false (mj_sh Ls) (mj_rf tp ip) mj_dv mj_cd_164 (mj_Ex false (mj_sh Ls) (mj_rf tp ip) Z d) R P) (hd : 0 ≤ d) {v1 : Int32} {v2 : Int32} {m : mj_M} {r : Int32} (h : md_packed v1 v2 m = some r) (hR : R (some (.int r)) (110, x) m) : P (0, [some (.ref 68), some (.int v1), some (.int v2), none, none], [], (110, x), m) := by
  unfold md_packed at h
  refine mj_gcp hC 4 ?_
  show P (5, [some (.ref 68), some (.int v1), some (.int v2), some (.int 0), some (.int v1)], [], (110, x), m)
  obtain ⟨q4, eq4, h⟩ := mj_bnd h
  refine mj_less hC (L0 := [some (.ref 68), some (.int v1), some (.int v2), some (.int 0), some (.int v1)]) (And.intro rfl (And.intro rfl (And.intro rfl (And.intro rfl (And.intro rfl trivial))))) ?_
  refine mj_loop_P (A := fun z5 => P (5, [some (.ref 68), some (.int v1), some (.int v2), some (.int z5.1), some (.int z5.2)], [], (110, x), m)) (E := fun _ z5 => P (45, [none, none, none, some (.int z5.1), none], [], (110, x), m)) (fun zz t w hb h0 h1 => md_packed_l5_x hC hd zz hb h0 (fun ht => h1 0 ht)) mj_F _ q4 eq4 ?_
  refine mj_gcp hC 1 ?_
  show P (46, [none, none, none, some (.int q4.2.1), none], [.int q4.2.1], (110, x), m)
  cases h
  exact mj_pret hC rfl hR
set_option maxRecDepth 20000 in
theorem md_packed_x {Ls tp ip x d : Nat} {Z : mj_X} (hd : 1 ≤ d) {v1 : Int32} {v2 : Int32} {m : mj_M} {r : Int32} (h : md_packed v1 v2 m = some r) : mj_Ex false (mj_sh Ls) (mj_rf tp ip) Z d 164 [.ref 68, .int v1, .int v2] (110, x) m (some (.int r)) (110, x) m := by
  exact mj_Ex_of (cd := mj_cd_164) (L := [some (.ref 68), some (.int v1), some (.int v2), none, none]) (by omega) (by decide) rfl (Nat.le_of_ble_eq_true rfl) rfl (fun P hC => md_packed_p hC (by omega) h ⟨rfl, rfl, rfl⟩)
def md_isKey  (v1 : Int32) (m : mj_M) : Int32 :=
  (if (mj_I (m 68 8)) = 1 then (if (mj_I (m 68 9)) = v1 then 1 else
  0) else
  0)
set_option maxRecDepth 20000 in
theorem md_isKey_p {Ls tp ip x d : Nat} {Z : mj_X} {R : Option Value → mj_G → mj_M → Prop} {P : mj_K → Prop} (hC : mj_cls false (mj_sh Ls) (mj_rf tp ip) mj_dv mj_cd_165 (mj_Ex false (mj_sh Ls) (mj_rf tp ip) Z d) R P) (hd : 0 ≤ d) {v1 : Int32} {m : mj_M} (hR : R (some (.int (md_isKey v1 m))) (110, x) m) : P (0, [some (.ref 68), some (.int v1)], [], (110, x), m) := by
  unfold md_isKey at hR
  refine mj_gcp hC 4 ?_
  show P (mj_pick 8 20 ((mj_I (m 68 8)) = 1), [some (.ref 68), some (.int v1)], [], (110, x), m)
  refine mj_pbr (fun c1 => ?_) (fun c1 => ?_)
  · rw [if_pos c1] at hR
    refine mj_gcp hC 4 ?_
    show P (mj_pick 16 20 ((mj_I (m 68 9)) = v1), [some (.ref 68), some (.int v1)], [], (110, x), m)
    refine mj_pbr (fun c2 => ?_) (fun c2 => ?_)
    · rw [if_pos c2] at hR
      refine mj_gcp hC 2 ?_
      show P (21, [some (.ref 68), some (.int v1)], [.int 1], (110, x), m)
      exact mj_pret hC rfl hR
    · rw [if_neg c2] at hR
      refine mj_gcp hC 1 ?_
      show P (21, [some (.ref 68), some (.int v1)], [.int 0], (110, x), m)
      exact mj_pret hC rfl hR
  · rw [if_neg c1] at hR
    refine mj_gcp hC 1 ?_
    show P (21, [some (.ref 68), some (.int v1)], [.int 0], (110, x), m)
    exact mj_pret hC rfl hR
set_option maxRecDepth 20000 in
theorem md_isKey_x {Ls tp ip x d : Nat} {Z : mj_X} (hd : 1 ≤ d) {v1 : Int32} {m : mj_M}  : mj_Ex false (mj_sh Ls) (mj_rf tp ip) Z d 165 [.ref 68, .int v1] (110, x) m (some (.int (md_isKey v1 m))) (110, x) m := by
  exact mj_Ex_of (cd := mj_cd_165) (L := [some (.ref 68), some (.int v1)]) (by omega) (by decide) rfl (Nat.le_of_ble_eq_true rfl) rfl (fun P hC => md_isKey_p hC (by omega) ⟨rfl, rfl, rfl⟩)
def md_isSign  (v1 : Int32) (m : mj_M) : Int32 :=
  (if (mj_I (m 68 8)) = 4 then (if (mj_I (m 68 9)) = v1 then 1 else
  0) else
  0)
set_option maxRecDepth 20000 in
theorem md_isSign_p {Ls tp ip x d : Nat} {Z : mj_X} {R : Option Value → mj_G → mj_M → Prop} {P : mj_K → Prop} (hC : mj_cls false (mj_sh Ls) (mj_rf tp ip) mj_dv mj_cd_166 (mj_Ex false (mj_sh Ls) (mj_rf tp ip) Z d) R P) (hd : 0 ≤ d) {v1 : Int32} {m : mj_M} (hR : R (some (.int (md_isSign v1 m))) (110, x) m) : P (0, [some (.ref 68), some (.int v1)], [], (110, x), m) := by
  unfold md_isSign at hR
  refine mj_gcp hC 4 ?_
  show P (mj_pick 8 20 ((mj_I (m 68 8)) = 4), [some (.ref 68), some (.int v1)], [], (110, x), m)
  refine mj_pbr (fun c1 => ?_) (fun c1 => ?_)
  · rw [if_pos c1] at hR
    refine mj_gcp hC 4 ?_
    show P (mj_pick 16 20 ((mj_I (m 68 9)) = v1), [some (.ref 68), some (.int v1)], [], (110, x), m)
    refine mj_pbr (fun c2 => ?_) (fun c2 => ?_)
    · rw [if_pos c2] at hR
      refine mj_gcp hC 2 ?_
      show P (21, [some (.ref 68), some (.int v1)], [.int 1], (110, x), m)
      exact mj_pret hC rfl hR
    · rw [if_neg c2] at hR
      refine mj_gcp hC 1 ?_
      show P (21, [some (.ref 68), some (.int v1)], [.int 0], (110, x), m)
      exact mj_pret hC rfl hR
  · rw [if_neg c1] at hR
    refine mj_gcp hC 1 ?_
    show P (21, [some (.ref 68), some (.int v1)], [.int 0], (110, x), m)
    exact mj_pret hC rfl hR
set_option maxRecDepth 20000 in
theorem md_isSign_x {Ls tp ip x d : Nat} {Z : mj_X} (hd : 1 ≤ d) {v1 : Int32} {m : mj_M}  : mj_Ex false (mj_sh Ls) (mj_rf tp ip) Z d 166 [.ref 68, .int v1] (110, x) m (some (.int (md_isSign v1 m))) (110, x) m := by
  exact mj_Ex_of (cd := mj_cd_166) (L := [some (.ref 68), some (.int v1)]) (by omega) (by decide) rfl (Nat.le_of_ble_eq_true rfl) rfl (fun P hC => md_isSign_p hC (by omega) ⟨rfl, rfl, rfl⟩)
def md_plain_j71l32   (v1 : Int32) (s1 : Int32) (s2 : Int32) (m : mj_M) : Option (Nat × (Int32 × mj_M)) :=
  (if s1 < 0 ∨ 6 ≤ (s1 : Int32).toNatClampNeg then none else
  some (0, ((v1 + 1), (mj_up m 72 s1.toNatClampNeg (.int s2)))))
def md_plain_l32   (s32 : (Int32 × mj_M)) : Option (Nat × (Int32 × mj_M)) :=
  (if 3 ≤ s32.1 then some (1, (s32.1, s32.2)) else
  (if s32.1 < 0 ∨ 3 ≤ (s32.1 : Int32).toNatClampNeg then none else
  (if ((3 : Int32) + s32.1) < 0 ∨ 6 ≤ (((3 : Int32) + s32.1) : Int32).toNatClampNeg then none else
  (if s32.1 = 0 then md_plain_j71l32 s32.1 ((3 : Int32) + s32.1) 200 (mj_up (mj_up s32.2 71 s32.1.toNatClampNeg (.int (0 &&& 1))) 83 ((3 : Int32) + s32.1).toNatClampNeg (.int (0 &&& 1))) else
  md_plain_j71l32 s32.1 ((3 : Int32) + s32.1) 0 (mj_up (mj_up s32.2 71 s32.1.toNatClampNeg (.int (0 &&& 1))) 83 ((3 : Int32) + s32.1).toNatClampNeg (.int (0 &&& 1)))))))
def md_plain_l81   (s81 : (Int32 × mj_M)) : Option (Nat × (Int32 × mj_M)) :=
  (if 12 ≤ s81.1 then some (1, (s81.1, s81.2)) else
  (if s81.1 < 0 ∨ 12 ≤ (s81.1 : Int32).toNatClampNeg then none else
  some (0, ((s81.1 + 1), (mj_up s81.2 76 s81.1.toNatClampNeg (.int 0))))))
def md_plain   (m : mj_M) : Option mj_M :=
  (mj_loop (md_plain_l32) mj_F (0, (mj_up (mj_up (mj_up (mj_up (mj_up (mj_up m 68 17 (.int 0)) 68 18 (.int 0)) 68 19 (.int 0)) 68 20 (.int 0)) 68 21 (.int 0)) 68 45 (.int 0)))).bind fun q6 =>
  (mj_loop (md_plain_l81) mj_F (6, q6.2.2)).bind fun q9 =>
  some q9.2.2
set_option maxRecDepth 20000 in
theorem md_plain_j71l32_x {Ls tp ip x d : Nat} {Z : mj_X} {R : Option Value → mj_G → mj_M → Prop} {P : mj_K → Prop} (hC : mj_cls false (mj_sh Ls) (mj_rf tp ip) mj_dv mj_cd_168 (mj_Ex false (mj_sh Ls) (mj_rf tp ip) Z d) R P) (hd : 0 ≤ d)  {v1 : Int32} {s1 : Int32} {s2 : Int32} {m : mj_M} {t : Nat} {w : (Int32 × mj_M)} (h : md_plain_j71l32  v1 s1 s2 m = some (t, w)) (h0 : t = 0 → P (32, [some (.ref 68), some (.int w.1)], [], (110, x), w.2)) (h1 : t = 1 → P (78, [some (.ref 68), none], [], (110, x), w.2)) : P (71, [some (.ref 68), some (.int v1)], [.int s2, .int s1, .ref 72], (110, x), m) := by
  unfold md_plain_j71l32 at h
  obtain ⟨k5, h⟩ := mj_ifn h
  refine mj_gcp hC 3 ?_
  show _ ∧ (P (32, [some (.ref 68), some (.int (v1 + 1))], [], (110, x), (mj_up m 72 s1.toNatClampNeg (.int s2))))
  refine And.intro k5 (?_)
  cases h
  exact mj_less hC (L0 := [some (.ref 68), some (.int (v1 + 1))]) (And.intro rfl (And.intro rfl trivial)) (h0 rfl)
set_option maxRecDepth 20000 in
theorem md_plain_l32_x {Ls tp ip x d : Nat} {Z : mj_X} {R : Option Value → mj_G → mj_M → Prop} {P : mj_K → Prop} (hC : mj_cls false (mj_sh Ls) (mj_rf tp ip) mj_dv mj_cd_168 (mj_Ex false (mj_sh Ls) (mj_rf tp ip) Z d) R P) (hd : 0 ≤ d)  (s32 : (Int32 × mj_M)) {t : Nat} {w : (Int32 × mj_M)} (h : md_plain_l32 s32 = some (t, w)) (h0 : t = 0 → P (32, [some (.ref 68), some (.int w.1)], [], (110, x), w.2)) (h1 : t = 1 → P (78, [some (.ref 68), none], [], (110, x), w.2)) : P (32, [some (.ref 68), some (.int s32.1)], [], (110, x), s32.2) := by
  unfold md_plain_l32 at h
  refine mj_gcp hC 3 ?_
  show P (mj_pick 78 37 (3 ≤ s32.1), [some (.ref 68), some (.int s32.1)], [], (110, x), s32.2)
  refine mj_pbr (fun c1 => ?_) (fun c1 => ?_)
  · rw [if_pos c1] at h
    cases h
    exact mj_less hC (L0 := [some (.ref 68), none]) (And.intro rfl trivial) (h1 rfl)
  · rw [if_neg c1] at h
    obtain ⟨k2, h⟩ := mj_ifn h
    obtain ⟨k3, h⟩ := mj_ifn h
    refine mj_gcp hC 19 ?_
    show _ ∧ (_ ∧ (P (mj_pick 64 70 (s32.1 = 0), [some (.ref 68), some (.int s32.1)], [.int ((3 : Int32) + s32.1), .ref 72], (110, x), (mj_up (mj_up s32.2 71 s32.1.toNatClampNeg (.int (0 &&& 1))) 83 ((3 : Int32) + s32.1).toNatClampNeg (.int (0 &&& 1))))))
    refine And.intro k2 (And.intro k3 (?_))
    refine mj_pbr (fun c4 => ?_) (fun c4 => ?_)
    · rw [if_pos c4] at h
      refine mj_gcp hC 2 ?_
      show P (71, [some (.ref 68), some (.int s32.1)], [.int 200, .int ((3 : Int32) + s32.1), .ref 72], (110, x), (mj_up (mj_up s32.2 71 s32.1.toNatClampNeg (.int (0 &&& 1))) 83 ((3 : Int32) + s32.1).toNatClampNeg (.int (0 &&& 1))))
      exact mj_less hC (L0 := [some (.ref 68), some (.int s32.1)]) (And.intro rfl (And.intro rfl trivial)) (md_plain_j71l32_x hC hd h h0 h1)
    · rw [if_neg c4] at h
      refine mj_gcp hC 1 ?_
      show P (71, [some (.ref 68), some (.int s32.1)], [.int 0, .int ((3 : Int32) + s32.1), .ref 72], (110, x), (mj_up (mj_up s32.2 71 s32.1.toNatClampNeg (.int (0 &&& 1))) 83 ((3 : Int32) + s32.1).toNatClampNeg (.int (0 &&& 1))))
      exact mj_less hC (L0 := [some (.ref 68), some (.int s32.1)]) (And.intro rfl (And.intro rfl trivial)) (md_plain_j71l32_x hC hd h h0 h1)
set_option maxRecDepth 20000 in
theorem md_plain_l81_x {Ls tp ip x d : Nat} {Z : mj_X} {R : Option Value → mj_G → mj_M → Prop} {P : mj_K → Prop} (hC : mj_cls false (mj_sh Ls) (mj_rf tp ip) mj_dv mj_cd_168 (mj_Ex false (mj_sh Ls) (mj_rf tp ip) Z d) R P) (hd : 0 ≤ d)  (s81 : (Int32 × mj_M)) {t : Nat} {w : (Int32 × mj_M)} (h : md_plain_l81 s81 = some (t, w)) (h0 : t = 0 → P (81, [some (.ref 68), some (.int w.1)], [], (110, x), w.2)) (h1 : t = 1 → P (100, [none, none], [], (110, x), w.2)) : P (81, [some (.ref 68), some (.int s81.1)], [], (110, x), s81.2) := by
  unfold md_plain_l81 at h
  refine mj_gcp hC 3 ?_
  show P (mj_pick 100 87 (12 ≤ s81.1), [some (.ref 68), some (.int s81.1)], [], (110, x), s81.2)
  refine mj_pbr (fun c7 => ?_) (fun c7 => ?_)
  · rw [if_pos c7] at h
    cases h
    exact mj_less hC (L0 := [none, none]) trivial (h1 rfl)
  · rw [if_neg c7] at h
    obtain ⟨k8, h⟩ := mj_ifn h
    refine mj_gcp hC 7 ?_
    show _ ∧ (P (81, [some (.ref 68), some (.int (s81.1 + 1))], [], (110, x), (mj_up s81.2 76 s81.1.toNatClampNeg (.int 0))))
    refine And.intro k8 (?_)
    cases h
    exact mj_less hC (L0 := [some (.ref 68), some (.int (s81.1 + 1))]) (And.intro rfl (And.intro rfl trivial)) (h0 rfl)
set_option maxRecDepth 20000 in
theorem md_plain_p {Ls tp ip x d : Nat} {Z : mj_X} {R : Option Value → mj_G → mj_M → Prop} {P : mj_K → Prop} (hC : mj_cls false (mj_sh Ls) (mj_rf tp ip) mj_dv mj_cd_168 (mj_Ex false (mj_sh Ls) (mj_rf tp ip) Z d) R P) (hd : 0 ≤ d)  {m : mj_M} {r : mj_M} (h : md_plain m = some r) (hR : R none (110, x) r) : P (0, [some (.ref 68), none], [], (110, x), m) := by
  unfold md_plain at h
  refine mj_gcp hC 20 ?_
  show P (32, [some (.ref 68), some (.int 0)], [], (110, x), (mj_up (mj_up (mj_up (mj_up (mj_up (mj_up m 68 17 (.int 0)) 68 18 (.int 0)) 68 19 (.int 0)) 68 20 (.int 0)) 68 21 (.int 0)) 68 45 (.int 0)))
  obtain ⟨q6, eq6, h⟩ := mj_bnd h
  refine mj_less hC (L0 := [some (.ref 68), some (.int 0)]) (And.intro rfl (And.intro rfl trivial)) ?_
  refine mj_loop_P (A := fun z32 => P (32, [some (.ref 68), some (.int z32.1)], [], (110, x), z32.2)) (E := fun _ z32 => P (78, [some (.ref 68), none], [], (110, x), z32.2)) (fun zz t w hb h0 h1 => md_plain_l32_x hC hd zz hb h0 (fun ht => h1 0 ht)) mj_F _ q6 eq6 ?_
  refine mj_gcp hC 2 ?_
  show P (81, [some (.ref 68), some (.int 6)], [], (110, x), q6.2.2)
  obtain ⟨q9, eq9, h⟩ := mj_bnd h
  refine mj_less hC (L0 := [some (.ref 68), some (.int 6)]) (And.intro rfl (And.intro rfl trivial)) ?_
  refine mj_loop_P (A := fun z81 => P (81, [some (.ref 68), some (.int z81.1)], [], (110, x), z81.2)) (E := fun _ z81 => P (100, [none, none], [], (110, x), z81.2)) (fun zz t w hb h0 h1 => md_plain_l81_x hC hd zz hb h0 (fun ht => h1 0 ht)) mj_F _ q9 eq9 ?_
  cases h
  exact mj_pret hC rfl hR
set_option maxRecDepth 20000 in
theorem md_plain_x {Ls tp ip x d : Nat} {Z : mj_X} (hd : 1 ≤ d)  {m : mj_M} {r : mj_M} (h : md_plain m = some r) : mj_Ex false (mj_sh Ls) (mj_rf tp ip) Z d 168 [.ref 68] (110, x) m none (110, x) r := by
  exact mj_Ex_of (cd := mj_cd_168) (L := [some (.ref 68), none]) (by omega) (by decide) rfl (Nat.le_of_ble_eq_true rfl) rfl (fun P hC => md_plain_p hC (by omega) h ⟨rfl, rfl, rfl⟩)
def md_find_l3 (rq : Nat) (v1 : Int32) (v2 : Int32) (v3 : Int32) (m : mj_M) (s3 : Int32) : Option (Nat × Int32) :=
  (if v2 ≤ s3 then some (2, s3) else
  (if (v1 + s3) < 0 ∨ (mj_siz rq) ≤ ((v1 + s3) : Int32).toNatClampNeg then none else
  (if (mj_I (m rq (v1 + s3).toNatClampNeg)) = v3 then some (1, s3) else
  some (0, (s3 + 1)))))
def md_find (rq : Nat) (v1 : Int32) (v2 : Int32) (v3 : Int32) (m : mj_M) : Option Int32 :=
  (mj_loop (md_find_l3 rq v1 v2 v3 m) mj_F 0).bind fun q4 =>
  (if q4.1 = 0 then some q4.2 else some (-1))
set_option maxRecDepth 20000 in
theorem md_find_l3_x {Ls tp ip x d : Nat} {Z : mj_X} {R : Option Value → mj_G → mj_M → Prop} {P : mj_K → Prop} (hC : mj_cls false (mj_sh Ls) (mj_rf tp ip) mj_dv mj_cd_171 (mj_Ex false (mj_sh Ls) (mj_rf tp ip) Z d) R P) (hd : 0 ≤ d) {rq : Nat} (hrq : rq = 73 ∨ rq = 77) {v1 : Int32} {v2 : Int32} {v3 : Int32} {m : mj_M} (s3 : Int32) {t : Nat} {w : Int32} (h : md_find_l3 rq v1 v2 v3 m s3 = some (t, w)) (h0 : t = 0 → P (3, [some (.ref rq), some (.int v1), some (.int v2), some (.int v3), some (.int w)], [], (110, x), m)) (h1 : t = 1 → P (19, [none, none, none, none, some (.int w)], [], (110, x), m)) (h2 : t = 2 → P (28, [none, none, none, none, none], [], (110, x), m)) : P (3, [some (.ref rq), some (.int v1), some (.int v2), some (.int v3), some (.int s3)], [], (110, x), m) := by
  unfold md_find_l3 at h
  rcases hrq with rfl | rfl
  all_goals
    refine mj_gcp hC 3 ?_
    show P (mj_pick 28 9 (v2 ≤ s3), [some (.ref _), some (.int v1), some (.int v2), some (.int v3), some (.int s3)], [], (110, x), m)
    refine mj_pbr (fun c1 => ?_) (fun c1 => ?_)
    · rw [if_pos c1] at h
      cases h
      exact mj_less hC (L0 := [none, none, none, none, none]) trivial (h2 rfl)
    · rw [if_neg c1] at h
      obtain ⟨k2, h⟩ := mj_ifn h
      refine mj_gcp hC 7 ?_
      show _ ∧ (P (mj_pick 19 22 ((mj_I (m _ (v1 + s3).toNatClampNeg)) = v3), [some (.ref _), some (.int v1), some (.int v2), some (.int v3), some (.int s3)], [], (110, x), m))
      refine And.intro k2 (?_)
      refine mj_pbr (fun c3 => ?_) (fun c3 => ?_)
      · rw [if_pos c3] at h
        cases h
        exact mj_less hC (L0 := [none, none, none, none, some (.int s3)]) (And.intro rfl trivial) (h1 rfl)
      · rw [if_neg c3] at h
        refine mj_gcp hC 2 ?_
        show P (3, [some (.ref _), some (.int v1), some (.int v2), some (.int v3), some (.int (s3 + 1))], [], (110, x), m)
        cases h
        exact mj_less hC (L0 := [some (.ref _), some (.int v1), some (.int v2), some (.int v3), some (.int (s3 + 1))]) (And.intro rfl (And.intro rfl (And.intro rfl (And.intro rfl (And.intro rfl trivial))))) (h0 rfl)
set_option maxRecDepth 20000 in
theorem md_find_p {Ls tp ip x d : Nat} {Z : mj_X} {R : Option Value → mj_G → mj_M → Prop} {P : mj_K → Prop} (hC : mj_cls false (mj_sh Ls) (mj_rf tp ip) mj_dv mj_cd_171 (mj_Ex false (mj_sh Ls) (mj_rf tp ip) Z d) R P) (hd : 0 ≤ d) {rq : Nat} (hrq : rq = 73 ∨ rq = 77) {v1 : Int32} {v2 : Int32} {v3 : Int32} {m : mj_M} {r : Int32} (h : md_find rq v1 v2 v3 m = some r) (hR : R (some (.int r)) (110, x) m) : P (0, [some (.ref rq), some (.int v1), some (.int v2), some (.int v3), none], [], (110, x), m) := by
  unfold md_find at h
  rcases hrq with rfl | rfl
  all_goals
    refine mj_gcp hC 2 ?_
    show P (3, [some (.ref _), some (.int v1), some (.int v2), some (.int v3), some (.int 0)], [], (110, x), m)
    obtain ⟨q4, eq4, h⟩ := mj_bnd h
    refine mj_less hC (L0 := [some (.ref _), some (.int v1), some (.int v2), some (.int v3), some (.int 0)]) (And.intro rfl (And.intro rfl (And.intro rfl (And.intro rfl (And.intro rfl trivial))))) ?_
    refine mj_loop_P (A := fun z3 => P (3, [some (.ref _), some (.int v1), some (.int v2), some (.int v3), some (.int z3)], [], (110, x), m)) (E := fun j z3 => (j = 0 → P (19, [none, none, none, none, some (.int z3)], [], (110, x), m)) ∧ (¬ j = 0 → P (28, [none, none, none, none, none], [], (110, x), m))) (fun zz t w hb h0 h1 => md_find_l3_x hC hd (by decide) zz hb h0 (fun ht => (h1 0 ht).1 rfl) (fun ht => (h1 1 ht).2 (by decide))) mj_F _ q4 eq4 ⟨fun hj => ?_, fun hj => ?_⟩
    · rw [if_pos hj] at h
      refine mj_gcp hC 1 ?_
      show P (21, [none, none, none, none, some (.int q4.2)], [.int q4.2], (110, x), m)
      cases h
      exact mj_pret hC rfl hR
    · rw [if_neg hj] at h
      refine mj_gcp hC 1 ?_
      show P (29, [none, none, none, none, none], [.int (-1)], (110, x), m)
      cases h
      exact mj_pret hC rfl hR
set_option maxRecDepth 20000 in
theorem md_find_x {Ls tp ip x d : Nat} {Z : mj_X} (hd : 1 ≤ d) {rq : Nat} (hrq : rq = 73 ∨ rq = 77) {v1 : Int32} {v2 : Int32} {v3 : Int32} {m : mj_M} {r : Int32} (h : md_find rq v1 v2 v3 m = some r) : mj_Ex false (mj_sh Ls) (mj_rf tp ip) Z d 171 [.ref rq, .int v1, .int v2, .int v3] (110, x) m (some (.int r)) (110, x) m := by
  exact mj_Ex_of (cd := mj_cd_171) (L := [some (.ref rq), some (.int v1), some (.int v2), some (.int v3), none]) (by omega) (by decide) rfl (Nat.le_of_ble_eq_true rfl) rfl (fun P hC => md_find_p hC (by omega) hrq h ⟨rfl, rfl, rfl⟩)
def md_fault  (v1 : Int32) (m : mj_M) : Option (Int32 × mj_M) :=
  (if v1 = 0 then some ((mj_I (m 68 4)), (mj_up m 68 2 (.int 0))) else
  (if v1 = 1 then some ((mj_I (m 68 5)), (mj_up m 68 2 (.int 0))) else
  some ((-1), (mj_up m 68 2 (.int 0)))))
set_option maxRecDepth 20000 in
theorem md_fault_p {Ls tp ip x d : Nat} {Z : mj_X} {R : Option Value → mj_G → mj_M → Prop} {P : mj_K → Prop} (hC : mj_cls false (mj_sh Ls) (mj_rf tp ip) mj_dv mj_cd_181 (mj_Ex false (mj_sh Ls) (mj_rf tp ip) Z d) R P) (hd : 0 ≤ d) {v1 : Int32} {m : mj_M} {r : (Int32 × mj_M)} (h : md_fault v1 m = some r) (hR : R (some (.int r.1)) (110, x) r.2) : P (0, [some (.ref 68), some (.int v1)], [], (110, x), m) := by
  unfold md_fault at h
  refine mj_gcp hC 5 ?_
  show P (mj_pick 9 16 (v1 = 0), [some (.ref 68), some (.int v1)], [], (110, x), (mj_up m 68 2 (.int 0)))
  refine mj_pbr (fun c1 => ?_) (fun c1 => ?_)
  · rw [if_pos c1] at h
    refine mj_gcp hC 3 ?_
    show P (29, [some (.ref 68), some (.int v1)], [.int (mj_I (m 68 4))], (110, x), (mj_up m 68 2 (.int 0)))
    cases h
    exact mj_pret hC rfl hR
  · rw [if_neg c1] at h
    refine mj_gcp hC 3 ?_
    show P (mj_pick 21 28 (v1 = 1), [some (.ref 68), some (.int v1)], [], (110, x), (mj_up m 68 2 (.int 0)))
    refine mj_pbr (fun c2 => ?_) (fun c2 => ?_)
    · rw [if_pos c2] at h
      refine mj_gcp hC 3 ?_
      show P (29, [some (.ref 68), some (.int v1)], [.int (mj_I (m 68 5))], (110, x), (mj_up m 68 2 (.int 0)))
      cases h
      exact mj_pret hC rfl hR
    · rw [if_neg c2] at h
      refine mj_gcp hC 1 ?_
      show P (29, [some (.ref 68), some (.int v1)], [.int (-1)], (110, x), (mj_up m 68 2 (.int 0)))
      cases h
      exact mj_pret hC rfl hR
set_option maxRecDepth 20000 in
theorem md_fault_x {Ls tp ip x d : Nat} {Z : mj_X} (hd : 1 ≤ d) {v1 : Int32} {m : mj_M} {r : (Int32 × mj_M)} (h : md_fault v1 m = some r) : mj_Ex false (mj_sh Ls) (mj_rf tp ip) Z d 181 [.ref 68, .int v1] (110, x) m (some (.int r.1)) (110, x) r.2 := by
  exact mj_Ex_of (cd := mj_cd_181) (L := [some (.ref 68), some (.int v1)]) (by omega) (by decide) rfl (Nat.le_of_ble_eq_true rfl) rfl (fun P hC => md_fault_p hC (by omega) h ⟨rfl, rfl, rfl⟩)
def md_named  (v1 : Int32) (v2 : Int32) (m : mj_M) : Option (Int32 × mj_M) :=
  (if v1 = 0 then (md_find 73 0 (mj_I (m 68 12)) v2 (mj_up m 68 2 (.int 0))).bind fun q2 =>
  some (q2, (mj_up m 68 2 (.int 0))) else
  (if v1 = 1 then (md_find 77 0 (mj_I (m 68 14)) v2 (mj_up m 68 2 (.int 0))).bind fun q4 =>
  some (q4, (mj_up m 68 2 (.int 0))) else
  some ((-1), (mj_up m 68 2 (.int 0)))))
set_option maxRecDepth 20000 in
theorem md_named_p {Ls tp ip x d : Nat} {Z : mj_X} {R : Option Value → mj_G → mj_M → Prop} {P : mj_K → Prop} (hC : mj_cls false (mj_sh Ls) (mj_rf tp ip) mj_dv mj_cd_182 (mj_Ex false (mj_sh Ls) (mj_rf tp ip) Z d) R P) (hd : 1 ≤ d) {v1 : Int32} {v2 : Int32} {m : mj_M} {r : (Int32 × mj_M)} (h : md_named v1 v2 m = some r) (hR : R (some (.int r.1)) (110, x) r.2) : P (0, [some (.ref 68), some (.int v1), some (.int v2)], [], (110, x), m) := by
  unfold md_named at h
  refine mj_gcp hC 5 ?_
  show P (mj_pick 9 25 (v1 = 0), [some (.ref 68), some (.int v1), some (.int v2)], [], (110, x), (mj_up m 68 2 (.int 0)))
  refine mj_pbr (fun c1 => ?_) (fun c1 => ?_)
  · rw [if_pos c1] at h
    refine mj_gcp hC 6 ?_
    show P (19, [some (.ref 68), some (.int v1), some (.int v2)], [.int v2, .int (mj_I (m 68 12)), .int 0, .ref 73], (110, x), (mj_up m 68 2 (.int 0)))
    obtain ⟨q2, eq2, h⟩ := mj_bnd h
    refine mj_pcall hC rfl (md_find_x (Nat.le_trans (by decide) hd) (by decide) eq2) ?_
    show P (22, [some (.ref 68), some (.int v1), some (.int v2)], [.int q2], (110, x), (mj_up m 68 2 (.int 0)))
    refine mj_gcp hC 1 ?_
    show P (47, [some (.ref 68), some (.int v1), some (.int v2)], [.int q2], (110, x), (mj_up m 68 2 (.int 0)))
    cases h
    exact mj_pret hC rfl hR
  · rw [if_neg c1] at h
    refine mj_gcp hC 3 ?_
    show P (mj_pick 30 46 (v1 = 1), [some (.ref 68), some (.int v1), some (.int v2)], [], (110, x), (mj_up m 68 2 (.int 0)))
    refine mj_pbr (fun c3 => ?_) (fun c3 => ?_)
    · rw [if_pos c3] at h
      refine mj_gcp hC 6 ?_
      show P (40, [some (.ref 68), some (.int v1), some (.int v2)], [.int v2, .int (mj_I (m 68 14)), .int 0, .ref 77], (110, x), (mj_up m 68 2 (.int 0)))
      obtain ⟨q4, eq4, h⟩ := mj_bnd h
      refine mj_pcall hC rfl (md_find_x (Nat.le_trans (by decide) hd) (by decide) eq4) ?_
      show P (43, [some (.ref 68), some (.int v1), some (.int v2)], [.int q4], (110, x), (mj_up m 68 2 (.int 0)))
      refine mj_gcp hC 1 ?_
      show P (47, [some (.ref 68), some (.int v1), some (.int v2)], [.int q4], (110, x), (mj_up m 68 2 (.int 0)))
      cases h
      exact mj_pret hC rfl hR
    · rw [if_neg c3] at h
      refine mj_gcp hC 1 ?_
      show P (47, [some (.ref 68), some (.int v1), some (.int v2)], [.int (-1)], (110, x), (mj_up m 68 2 (.int 0)))
      cases h
      exact mj_pret hC rfl hR
set_option maxRecDepth 20000 in
theorem md_named_x {Ls tp ip x d : Nat} {Z : mj_X} (hd : 2 ≤ d) {v1 : Int32} {v2 : Int32} {m : mj_M} {r : (Int32 × mj_M)} (h : md_named v1 v2 m = some r) : mj_Ex false (mj_sh Ls) (mj_rf tp ip) Z d 182 [.ref 68, .int v1, .int v2] (110, x) m (some (.int r.1)) (110, x) r.2 := by
  exact mj_Ex_of (cd := mj_cd_182) (L := [some (.ref 68), some (.int v1), some (.int v2)]) (by omega) (by decide) rfl (Nat.le_of_ble_eq_true rfl) rfl (fun P hC => md_named_p hC (by omega) h ⟨rfl, rfl, rfl⟩)
def md_rank  (v0 : Int32) (m : mj_M) : Int32 :=
  (if v0 < 13 then (if v0 < 11 then (if v0 < 5 then (if v0 = 2 then 3 else
  (if v0 = 3 then 2 else
  (if v0 = 4 then 1 else
  0))) else
  4) else
  5) else
  6)
set_option maxRecDepth 20000 in
theorem md_rank_p {Ls tp ip x d : Nat} {Z : mj_X} {R : Option Value → mj_G → mj_M → Prop} {P : mj_K → Prop} (hC : mj_cls false (mj_sh Ls) (mj_rf tp ip) mj_dv mj_cd_183 (mj_Ex false (mj_sh Ls) (mj_rf tp ip) Z d) R P) (hd : 0 ≤ d) {v0 : Int32} {m : mj_M} (hR : R (some (.int (md_rank v0 m))) (110, x) m) : P (0, [some (.int v0)], [], (110, x), m) := by
  unfold md_rank at hR
  refine mj_gcp hC 3 ?_
  show P (mj_pick 11 6 (v0 < 13), [some (.int v0)], [], (110, x), m)
  refine mj_pbr (fun c1 => ?_) (fun c1 => ?_)
  · rw [if_pos c1] at hR
    refine mj_gcp hC 3 ?_
    show P (mj_pick 21 17 (v0 < 11), [some (.int v0)], [], (110, x), m)
    refine mj_pbr (fun c2 => ?_) (fun c2 => ?_)
    · rw [if_pos c2] at hR
      refine mj_gcp hC 3 ?_
      show P (mj_pick 30 26 (v0 < 5), [some (.int v0)], [], (110, x), m)
      refine mj_pbr (fun c3 => ?_) (fun c3 => ?_)
      · rw [if_pos c3] at hR
        refine mj_gcp hC 3 ?_
        show P (mj_pick 35 39 (v0 = 2), [some (.int v0)], [], (110, x), m)
        refine mj_pbr (fun c4 => ?_) (fun c4 => ?_)
        · rw [if_pos c4] at hR
          refine mj_gcp hC 2 ?_
          show P (58, [some (.int v0)], [.int 3], (110, x), m)
          exact mj_pret hC rfl hR
        · rw [if_neg c4] at hR
          refine mj_gcp hC 3 ?_
          show P (mj_pick 44 48 (v0 = 3), [some (.int v0)], [], (110, x), m)
          refine mj_pbr (fun c5 => ?_) (fun c5 => ?_)
          · rw [if_pos c5] at hR
            refine mj_gcp hC 2 ?_
            show P (58, [some (.int v0)], [.int 2], (110, x), m)
            exact mj_pret hC rfl hR
          · rw [if_neg c5] at hR
            refine mj_gcp hC 3 ?_
            show P (mj_pick 53 57 (v0 = 4), [some (.int v0)], [], (110, x), m)
            refine mj_pbr (fun c6 => ?_) (fun c6 => ?_)
            · rw [if_pos c6] at hR
              refine mj_gcp hC 2 ?_
              show P (58, [some (.int v0)], [.int 1], (110, x), m)
              exact mj_pret hC rfl hR
            · rw [if_neg c6] at hR
              refine mj_gcp hC 1 ?_
              show P (58, [some (.int v0)], [.int 0], (110, x), m)
              exact mj_pret hC rfl hR
      · rw [if_neg c3] at hR
        refine mj_gcp hC 2 ?_
        show P (58, [some (.int v0)], [.int 4], (110, x), m)
        exact mj_pret hC rfl hR
    · rw [if_neg c2] at hR
      refine mj_gcp hC 2 ?_
      show P (58, [some (.int v0)], [.int 5], (110, x), m)
      exact mj_pret hC rfl hR
  · rw [if_neg c1] at hR
    refine mj_gcp hC 2 ?_
    show P (58, [some (.int v0)], [.int 6], (110, x), m)
    exact mj_pret hC rfl hR
set_option maxRecDepth 20000 in
theorem md_rank_x {Ls tp ip x d : Nat} {Z : mj_X} (hd : 1 ≤ d) {v0 : Int32} {m : mj_M}  : mj_Ex false (mj_sh Ls) (mj_rf tp ip) Z d 183 [.int v0] (110, x) m (some (.int (md_rank v0 m))) (110, x) m := by
  exact mj_Ex_of (cd := mj_cd_183) (L := [some (.int v0)]) (by omega) (by decide) rfl (Nat.le_of_ble_eq_true rfl) rfl (fun P hC => md_rank_p hC (by omega) ⟨rfl, rfl, rfl⟩)
def md_grown  (v1 : Int32) (v2 : Int32) (v3 : Int32) (m : mj_M) : Option mj_M :=
  (if ((64 : Int32) + (mj_I (m 68 21))) < 0 ∨ 128 ≤ (((64 : Int32) + (mj_I (m 68 21))) : Int32).toNatClampNeg then none else
  (if ((64 : Int32) + (mj_I (m 68 21))) < 0 ∨ 128 ≤ (((64 : Int32) + (mj_I (m 68 21))) : Int32).toNatClampNeg then none else
  (if ((64 : Int32) + (mj_I (m 68 21))) < 0 ∨ 128 ≤ (((64 : Int32) + (mj_I (m 68 21))) : Int32).toNatClampNeg then none else
  (if (mj_I (m 68 43)) < 0 ∨ 96 ≤ ((mj_I (m 68 43)) : Int32).toNatClampNeg then none else
  some (mj_up (mj_up (mj_up (mj_up (mj_up (mj_up m 86 ((64 : Int32) + (mj_I (m 68 21))).toNatClampNeg (.int v1)) 87 ((64 : Int32) + (mj_I (m 68 21))).toNatClampNeg (.int v2)) 88 ((64 : Int32) + (mj_I (m 68 21))).toNatClampNeg (.int v3)) 90 (mj_I (m 68 43)).toNatClampNeg (.int (mj_I (m 68 21)))) 68 43 (.int ((mj_I (m 68 43)) + 1))) 68 21 (.int ((mj_I (m 68 21)) + 1)))))))
set_option maxRecDepth 20000 in
theorem md_grown_p {Ls tp ip x d : Nat} {Z : mj_X} {R : Option Value → mj_G → mj_M → Prop} {P : mj_K → Prop} (hC : mj_cls false (mj_sh Ls) (mj_rf tp ip) mj_dv mj_cd_184 (mj_Ex false (mj_sh Ls) (mj_rf tp ip) Z d) R P) (hd : 0 ≤ d) {v1 : Int32} {v2 : Int32} {v3 : Int32} {m : mj_M} {r : mj_M} (h : md_grown v1 v2 v3 m = some r) (hR : R none (110, x) r) : P (0, [some (.ref 68), some (.int v1), some (.int v2), some (.int v3)], [], (110, x), m) := by
  unfold md_grown at h
  obtain ⟨k1, h⟩ := mj_ifn h
  obtain ⟨k2, h⟩ := mj_ifn h
  obtain ⟨k3, h⟩ := mj_ifn h
  obtain ⟨k4, h⟩ := mj_ifn h
  refine mj_gcp hC 43 ?_
  show _ ∧ (_ ∧ (_ ∧ (_ ∧ (P (72, [some (.ref 68), some (.int v1), some (.int v2), some (.int v3)], [], (110, x), (mj_up (mj_up (mj_up (mj_up (mj_up (mj_up m 86 ((64 : Int32) + (mj_I (m 68 21))).toNatClampNeg (.int v1)) 87 ((64 : Int32) + (mj_I (m 68 21))).toNatClampNeg (.int v2)) 88 ((64 : Int32) + (mj_I (m 68 21))).toNatClampNeg (.int v3)) 90 (mj_I (m 68 43)).toNatClampNeg (.int (mj_I (m 68 21)))) 68 43 (.int ((mj_I (m 68 43)) + 1))) 68 21 (.int ((mj_I (m 68 21)) + 1))))))))
  refine And.intro k1 (And.intro k2 (And.intro k3 (And.intro k4 (?_))))
  cases h
  exact mj_pret hC rfl hR
set_option maxRecDepth 20000 in
theorem md_grown_x {Ls tp ip x d : Nat} {Z : mj_X} (hd : 1 ≤ d) {v1 : Int32} {v2 : Int32} {v3 : Int32} {m : mj_M} {r : mj_M} (h : md_grown v1 v2 v3 m = some r) : mj_Ex false (mj_sh Ls) (mj_rf tp ip) Z d 184 [.ref 68, .int v1, .int v2, .int v3] (110, x) m none (110, x) r := by
  exact mj_Ex_of (cd := mj_cd_184) (L := [some (.ref 68), some (.int v1), some (.int v2), some (.int v3)]) (by omega) (by decide) rfl (Nat.le_of_ble_eq_true rfl) rfl (fun P hC => md_grown_p hC (by omega) h ⟨rfl, rfl, rfl⟩)
def md_dropHeld   (m : mj_M) : Option (Int32 × mj_M) :=
  (if ((mj_I (m 68 43)) - 1) < 0 ∨ 96 ≤ (((mj_I (m 68 43)) - 1) : Int32).toNatClampNeg then none else
  some ((mj_I (m 90 ((mj_I (m 68 43)) - 1).toNatClampNeg)), (mj_up m 68 43 (.int ((mj_I (m 68 43)) - 1)))))
set_option maxRecDepth 20000 in
theorem md_dropHeld_p {Ls tp ip x d : Nat} {Z : mj_X} {R : Option Value → mj_G → mj_M → Prop} {P : mj_K → Prop} (hC : mj_cls false (mj_sh Ls) (mj_rf tp ip) mj_dv mj_cd_185 (mj_Ex false (mj_sh Ls) (mj_rf tp ip) Z d) R P) (hd : 0 ≤ d)  {m : mj_M} {r : (Int32 × mj_M)} (h : md_dropHeld m = some r) (hR : R (some (.int r.1)) (110, x) r.2) : P (0, [some (.ref 68)], [], (110, x), m) := by
  unfold md_dropHeld at h
  obtain ⟨k1, h⟩ := mj_ifn h
  refine mj_gcp hC 11 ?_
  show _ ∧ (P (19, [some (.ref 68)], [.int (mj_I (m 90 ((mj_I (m 68 43)) - 1).toNatClampNeg))], (110, x), (mj_up m 68 43 (.int ((mj_I (m 68 43)) - 1)))))
  refine And.intro k1 (?_)
  cases h
  exact mj_pret hC rfl hR
set_option maxRecDepth 20000 in
theorem md_dropHeld_x {Ls tp ip x d : Nat} {Z : mj_X} (hd : 1 ≤ d)  {m : mj_M} {r : (Int32 × mj_M)} (h : md_dropHeld m = some r) : mj_Ex false (mj_sh Ls) (mj_rf tp ip) Z d 185 [.ref 68] (110, x) m (some (.int r.1)) (110, x) r.2 := by
  exact mj_Ex_of (cd := mj_cd_185) (L := [some (.ref 68)]) (by omega) (by decide) rfl (Nat.le_of_ble_eq_true rfl) rfl (fun P hC => md_dropHeld_p hC (by omega) h ⟨rfl, rfl, rfl⟩)
def md_bind_j58l0   (v1 : Int32) (v2 : Int32) (s0 : Int32) (m : mj_M) : Option (Nat × mj_M) :=
  (md_dropHeld m).bind fun q6 =>
  (md_grown v2 q6.1 s0 q6.2).bind fun q7 =>
  some (0, q7)
def md_bind_l0  (v1 : Int32) (s0 : mj_M) : Option (Nat × mj_M) :=
  (if (mj_I (s0 68 42)) ≤ 0 then some (1, s0) else
  (if ((mj_I (s0 68 42)) - 1) < 0 ∨ 96 ≤ (((mj_I (s0 68 42)) - 1) : Int32).toNatClampNeg then none else
  (if (md_rank (mj_I (s0 89 ((mj_I (s0 68 42)) - 1).toNatClampNeg)) s0) < v1 then some (1, s0) else
  (if ((mj_I (s0 68 42)) - 1) < 0 ∨ 96 ≤ (((mj_I (s0 68 42)) - 1) : Int32).toNatClampNeg then none else
  (if (mj_I (s0 89 ((mj_I (s0 68 42)) - 1).toNatClampNeg)) = 2 then md_bind_j58l0 v1 (mj_I (s0 89 ((mj_I (s0 68 42)) - 1).toNatClampNeg)) (-1) (mj_up s0 68 42 (.int ((mj_I (s0 68 42)) - 1))) else
  (md_dropHeld (mj_up s0 68 42 (.int ((mj_I (s0 68 42)) - 1)))).bind fun q8 =>
  md_bind_j58l0 v1 (mj_I (s0 89 ((mj_I (s0 68 42)) - 1).toNatClampNeg)) q8.1 q8.2)))))
def md_bind  (v1 : Int32) (m : mj_M) : Option mj_M :=
  (mj_loop (md_bind_l0 v1) mj_F m).bind fun q9 =>
  some q9.2
set_option maxRecDepth 20000 in
theorem md_bind_j58l0_x {Ls tp ip x d : Nat} {Z : mj_X} {R : Option Value → mj_G → mj_M → Prop} {P : mj_K → Prop} (hC : mj_cls false (mj_sh Ls) (mj_rf tp ip) mj_dv mj_cd_186 (mj_Ex false (mj_sh Ls) (mj_rf tp ip) Z d) R P) (hd : 1 ≤ d)  {v1 : Int32} {v2 : Int32} {s0 : Int32} {m : mj_M} {t : Nat} {w : mj_M} (h : md_bind_j58l0  v1 v2 s0 m = some (t, w)) (h0 : t = 0 → P (0, [some (.ref 68), some (.int v1), none, none, none], [], (110, x), w)) (h1 : t = 1 → P (76, [none, none, none, none, none], [], (110, x), w)) : P (58, [some (.ref 68), some (.int v1), some (.int v2), none, none], [.int s0], (110, x), m) := by
  unfold md_bind_j58l0 at h
  refine mj_gcp hC 2 ?_
  show P (60, [some (.ref 68), some (.int v1), some (.int v2), some (.int s0), none], [.ref 68], (110, x), m)
  obtain ⟨q6, eq6, h⟩ := mj_bnd h
  refine mj_pcall hC rfl (md_dropHeld_x (Nat.le_trans (by decide) hd) eq6) ?_
  show P (63, [some (.ref 68), some (.int v1), some (.int v2), some (.int s0), none], [.int q6.1], (110, x), q6.2)
  refine mj_gcp hC 5 ?_
  show P (70, [some (.ref 68), some (.int v1), some (.int v2), some (.int s0), some (.int q6.1)], [.int s0, .int q6.1, .int v2, .ref 68], (110, x), q6.2)
  obtain ⟨q7, eq7, h⟩ := mj_bnd h
  refine mj_pcall hC rfl (md_grown_x (Nat.le_trans (by decide) hd) eq7) ?_
  show P (73, [some (.ref 68), some (.int v1), some (.int v2), some (.int s0), some (.int q6.1)], [], (110, x), q7)
  refine mj_gcp hC 1 ?_
  show P (0, [some (.ref 68), some (.int v1), some (.int v2), some (.int s0), some (.int q6.1)], [], (110, x), q7)
  cases h
  exact mj_less hC (L0 := [some (.ref 68), some (.int v1), none, none, none]) (And.intro rfl (And.intro rfl trivial)) (h0 rfl)
set_option maxRecDepth 20000 in
theorem md_bind_l0_x {Ls tp ip x d : Nat} {Z : mj_X} {R : Option Value → mj_G → mj_M → Prop} {P : mj_K → Prop} (hC : mj_cls false (mj_sh Ls) (mj_rf tp ip) mj_dv mj_cd_186 (mj_Ex false (mj_sh Ls) (mj_rf tp ip) Z d) R P) (hd : 1 ≤ d) {v1 : Int32} (s0 : mj_M) {t : Nat} {w : mj_M} (h : md_bind_l0 v1 s0 = some (t, w)) (h0 : t = 0 → P (0, [some (.ref 68), some (.int v1), none, none, none], [], (110, x), w)) (h1 : t = 1 → P (76, [none, none, none, none, none], [], (110, x), w)) : P (0, [some (.ref 68), some (.int v1), none, none, none], [], (110, x), s0) := by
  unfold md_bind_l0 at h
  refine mj_gcp hC 3 ?_
  show P (mj_pick 76 7 ((mj_I (s0 68 42)) ≤ 0), [some (.ref 68), some (.int v1), none, none, none], [], (110, x), s0)
  refine mj_pbr (fun c1 => ?_) (fun c1 => ?_)
  · rw [if_pos c1] at h
    cases h
    exact mj_less hC (L0 := [none, none, none, none, none]) trivial (h1 rfl)
  · rw [if_neg c1] at h
    obtain ⟨k2, h⟩ := mj_ifn h
    refine mj_gcp hC 7 ?_
    show _ ∧ (P (18, [some (.ref 68), some (.int v1), none, none, none], [.int (mj_I (s0 89 ((mj_I (s0 68 42)) - 1).toNatClampNeg))], (110, x), s0))
    refine And.intro k2 (?_)
    refine mj_pcall hC rfl (md_rank_x (Nat.le_trans (by decide) hd)) ?_
    show P (21, [some (.ref 68), some (.int v1), none, none, none], [.int (md_rank (mj_I (s0 89 ((mj_I (s0 68 42)) - 1).toNatClampNeg)) s0)], (110, x), s0)
    refine mj_gcp hC 2 ?_
    show P (mj_pick 76 25 ((md_rank (mj_I (s0 89 ((mj_I (s0 68 42)) - 1).toNatClampNeg)) s0) < v1), [some (.ref 68), some (.int v1), none, none, none], [], (110, x), s0)
    refine mj_pbr (fun c3 => ?_) (fun c3 => ?_)
    · rw [if_pos c3] at h
      cases h
      exact mj_less hC (L0 := [none, none, none, none, none]) trivial (h1 rfl)
    · rw [if_neg c3] at h
      obtain ⟨k4, h⟩ := mj_ifn h
      refine mj_gcp hC 15 ?_
      show _ ∧ (P (mj_pick 50 54 ((mj_I (s0 89 ((mj_I (s0 68 42)) - 1).toNatClampNeg)) = 2), [some (.ref 68), some (.int v1), some (.int (mj_I (s0 89 ((mj_I (s0 68 42)) - 1).toNatClampNeg))), none, none], [], (110, x), (mj_up s0 68 42 (.int ((mj_I (s0 68 42)) - 1)))))
      refine And.intro k4 (?_)
      refine mj_pbr (fun c5 => ?_) (fun c5 => ?_)
      · rw [if_pos c5] at h
        refine mj_gcp hC 2 ?_
        show P (58, [some (.ref 68), some (.int v1), some (.int (mj_I (s0 89 ((mj_I (s0 68 42)) - 1).toNatClampNeg))), none, none], [.int (-1)], (110, x), (mj_up s0 68 42 (.int ((mj_I (s0 68 42)) - 1))))
        exact mj_less hC (L0 := [some (.ref 68), some (.int v1), some (.int (mj_I (s0 89 ((mj_I (s0 68 42)) - 1).toNatClampNeg))), none, none]) (And.intro rfl (And.intro rfl (And.intro rfl trivial))) (md_bind_j58l0_x hC hd h h0 h1)
      · rw [if_neg c5] at h
        refine mj_gcp hC 1 ?_
        show P (55, [some (.ref 68), some (.int v1), some (.int (mj_I (s0 89 ((mj_I (s0 68 42)) - 1).toNatClampNeg))), none, none], [.ref 68], (110, x), (mj_up s0 68 42 (.int ((mj_I (s0 68 42)) - 1))))
        obtain ⟨q8, eq8, h⟩ := mj_bnd h
        refine mj_pcall hC rfl (md_dropHeld_x (Nat.le_trans (by decide) hd) eq8) ?_
        show P (58, [some (.ref 68), some (.int v1), some (.int (mj_I (s0 89 ((mj_I (s0 68 42)) - 1).toNatClampNeg))), none, none], [.int q8.1], (110, x), q8.2)
        exact mj_less hC (L0 := [some (.ref 68), some (.int v1), some (.int (mj_I (s0 89 ((mj_I (s0 68 42)) - 1).toNatClampNeg))), none, none]) (And.intro rfl (And.intro rfl (And.intro rfl trivial))) (md_bind_j58l0_x hC hd h h0 h1)
set_option maxRecDepth 20000 in
theorem md_bind_p {Ls tp ip x d : Nat} {Z : mj_X} {R : Option Value → mj_G → mj_M → Prop} {P : mj_K → Prop} (hC : mj_cls false (mj_sh Ls) (mj_rf tp ip) mj_dv mj_cd_186 (mj_Ex false (mj_sh Ls) (mj_rf tp ip) Z d) R P) (hd : 1 ≤ d) {v1 : Int32} {m : mj_M} {r : mj_M} (h : md_bind v1 m = some r) (hR : R none (110, x) r) : P (0, [some (.ref 68), some (.int v1), none, none, none], [], (110, x), m) := by
  unfold md_bind at h
  obtain ⟨q9, eq9, h⟩ := mj_bnd h
  refine mj_less hC (L0 := [some (.ref 68), some (.int v1), none, none, none]) (And.intro rfl (And.intro rfl trivial)) ?_
  refine mj_loop_P (A := fun z0 => P (0, [some (.ref 68), some (.int v1), none, none, none], [], (110, x), z0)) (E := fun _ z0 => P (76, [none, none, none, none, none], [], (110, x), z0)) (fun zz t w hb h0 h1 => md_bind_l0_x hC hd zz hb h0 (fun ht => h1 0 ht)) mj_F _ q9 eq9 ?_
  cases h
  exact mj_pret hC rfl hR
set_option maxRecDepth 20000 in
theorem md_bind_x {Ls tp ip x d : Nat} {Z : mj_X} (hd : 2 ≤ d) {v1 : Int32} {m : mj_M} {r : mj_M} (h : md_bind v1 m = some r) : mj_Ex false (mj_sh Ls) (mj_rf tp ip) Z d 186 [.ref 68, .int v1] (110, x) m none (110, x) r := by
  exact mj_Ex_of (cd := mj_cd_186) (L := [some (.ref 68), some (.int v1), none, none, none]) (by omega) (by decide) rfl (Nat.le_of_ble_eq_true rfl) rfl (fun P hC => md_bind_p hC (by omega) h ⟨rfl, rfl, rfl⟩)
def md_isCounted   (m : mj_M) : Option (Int32 × mj_M) :=
  (if (mj_I (m 68 45)) = 64 then (md_wrong 2 m).bind fun q2 =>
  (if q2.1 = 0 ∨ q2.1 = 1 then some (q2.1, q2.2) else none) else
  some (1, (mj_up m 68 45 (.int ((mj_I (m 68 45)) + 1)))))
set_option maxRecDepth 20000 in
theorem md_isCounted_p {Ls tp ip x d : Nat} {Z : mj_X} {R : Option Value → mj_G → mj_M → Prop} {P : mj_K → Prop} (hC : mj_cls false (mj_sh Ls) (mj_rf tp ip) mj_dv mj_cd_187 (mj_Ex false (mj_sh Ls) (mj_rf tp ip) Z d) R P) (hd : 1 ≤ d)  {m : mj_M} {r : (Int32 × mj_M)} (h : md_isCounted m = some r) (hR : R (some (.int r.1)) (110, x) r.2) : P (0, [some (.ref 68)], [], (110, x), m) := by
  unfold md_isCounted at h
  refine mj_gcp hC 4 ?_
  show P (mj_pick 9 15 ((mj_I (m 68 45)) = 64), [some (.ref 68)], [], (110, x), m)
  refine mj_pbr (fun c1 => ?_) (fun c1 => ?_)
  · rw [if_pos c1] at h
    refine mj_gcp hC 2 ?_
    show P (11, [some (.ref 68)], [.int 2, .ref 68], (110, x), m)
    obtain ⟨q2, eq2, h⟩ := mj_bnd h
    refine mj_pcall hC rfl (md_wrong_x (Nat.le_trans (by decide) hd) eq2) ?_
    show P (14, [some (.ref 68)], [.int q2.1], (110, x), q2.2)
    obtain ⟨k3, h⟩ := mj_ifs h
    cases h
    exact mj_pretZ hC rfl k3 hR
  · rw [if_neg c1] at h
    refine mj_gcp hC 7 ?_
    show P (26, [some (.ref 68)], [.int 1], (110, x), (mj_up m 68 45 (.int ((mj_I (m 68 45)) + 1))))
    cases h
    exact mj_pret hC rfl hR
set_option maxRecDepth 20000 in
theorem md_isCounted_x {Ls tp ip x d : Nat} {Z : mj_X} (hd : 2 ≤ d)  {m : mj_M} {r : (Int32 × mj_M)} (h : md_isCounted m = some r) : mj_Ex false (mj_sh Ls) (mj_rf tp ip) Z d 187 [.ref 68] (110, x) m (some (.int r.1)) (110, x) r.2 := by
  exact mj_Ex_of (cd := mj_cd_187) (L := [some (.ref 68)]) (by omega) (by decide) rfl (Nat.le_of_ble_eq_true rfl) rfl (fun P hC => md_isCounted_p hC (by omega) h ⟨rfl, rfl, rfl⟩)
def md_waitsFor  (v1 : Int32) (m : mj_M) : Option mj_M :=
  (if (mj_I (m 68 42)) < 0 ∨ 96 ≤ ((mj_I (m 68 42)) : Int32).toNatClampNeg then none else
  some (mj_up (mj_up m 89 (mj_I (m 68 42)).toNatClampNeg (.int v1)) 68 42 (.int ((mj_I (m 68 42)) + 1))))
set_option maxRecDepth 20000 in
theorem md_waitsFor_p {Ls tp ip x d : Nat} {Z : mj_X} {R : Option Value → mj_G → mj_M → Prop} {P : mj_K → Prop} (hC : mj_cls false (mj_sh Ls) (mj_rf tp ip) mj_dv mj_cd_188 (mj_Ex false (mj_sh Ls) (mj_rf tp ip) Z d) R P) (hd : 0 ≤ d) {v1 : Int32} {m : mj_M} {r : mj_M} (h : md_waitsFor v1 m = some r) (hR : R none (110, x) r) : P (0, [some (.ref 68), some (.int v1)], [], (110, x), m) := by
  unfold md_waitsFor at h
  obtain ⟨k1, h⟩ := mj_ifn h
  refine mj_gcp hC 12 ?_
  show _ ∧ (P (20, [some (.ref 68), some (.int v1)], [], (110, x), (mj_up (mj_up m 89 (mj_I (m 68 42)).toNatClampNeg (.int v1)) 68 42 (.int ((mj_I (m 68 42)) + 1)))))
  refine And.intro k1 (?_)
  cases h
  exact mj_pret hC rfl hR
set_option maxRecDepth 20000 in
theorem md_waitsFor_x {Ls tp ip x d : Nat} {Z : mj_X} (hd : 1 ≤ d) {v1 : Int32} {m : mj_M} {r : mj_M} (h : md_waitsFor v1 m = some r) : mj_Ex false (mj_sh Ls) (mj_rf tp ip) Z d 188 [.ref 68, .int v1] (110, x) m none (110, x) r := by
  exact mj_Ex_of (cd := mj_cd_188) (L := [some (.ref 68), some (.int v1)]) (by omega) (by decide) rfl (Nat.le_of_ble_eq_true rfl) rfl (fun P hC => md_waitsFor_p hC (by omega) h ⟨rfl, rfl, rfl⟩)
def md_nameMet   (m : mj_M) : Int32 :=
  (if (mj_I (m 68 8)) = 1 then (if (mj_I (m 68 9)) < 14 then (-1) else
  ((mj_I (m 68 9)) - 14)) else
  (-1))
set_option maxRecDepth 20000 in
theorem md_nameMet_p {Ls tp ip x d : Nat} {Z : mj_X} {R : Option Value → mj_G → mj_M → Prop} {P : mj_K → Prop} (hC : mj_cls false (mj_sh Ls) (mj_rf tp ip) mj_dv mj_cd_189 (mj_Ex false (mj_sh Ls) (mj_rf tp ip) Z d) R P) (hd : 0 ≤ d)  {m : mj_M} (hR : R (some (.int (md_nameMet m))) (110, x) m) : P (0, [some (.ref 68)], [], (110, x), m) := by
  unfold md_nameMet at hR
  refine mj_gcp hC 4 ?_
  show P (mj_pick 8 27 ((mj_I (m 68 8)) = 1), [some (.ref 68)], [], (110, x), m)
  refine mj_pbr (fun c1 => ?_) (fun c1 => ?_)
  · rw [if_pos c1] at hR
    refine mj_gcp hC 4 ?_
    show P (mj_pick 27 17 ((mj_I (m 68 9)) < 14), [some (.ref 68)], [], (110, x), m)
    refine mj_pbr (fun c2 => ?_) (fun c2 => ?_)
    · rw [if_pos c2] at hR
      refine mj_gcp hC 1 ?_
      show P (28, [some (.ref 68)], [.int (-1)], (110, x), m)
      exact mj_pret hC rfl hR
    · rw [if_neg c2] at hR
      refine mj_gcp hC 5 ?_
      show P (28, [some (.ref 68)], [.int ((mj_I (m 68 9)) - 14)], (110, x), m)
      exact mj_pret hC rfl hR
  · rw [if_neg c1] at hR
    refine mj_gcp hC 1 ?_
    show P (28, [some (.ref 68)], [.int (-1)], (110, x), m)
    exact mj_pret hC rfl hR
set_option maxRecDepth 20000 in
theorem md_nameMet_x {Ls tp ip x d : Nat} {Z : mj_X} (hd : 1 ≤ d)  {m : mj_M}  : mj_Ex false (mj_sh Ls) (mj_rf tp ip) Z d 189 [.ref 68] (110, x) m (some (.int (md_nameMet m))) (110, x) m := by
  exact mj_Ex_of (cd := mj_cd_189) (L := [some (.ref 68)]) (by omega) (by decide) rfl (Nat.le_of_ble_eq_true rfl) rfl (fun P hC => md_nameMet_p hC (by omega) ⟨rfl, rfl, rfl⟩)
def md_bounded_j29  (v1 : Int64) (s1 : Int32) (m : mj_M) : Option (Int64 × mj_M) :=
  (if s1 = 0 ∨ s1 = 1 then
  (if s1 = 0 then some (v1, (mj_up m 68 50 (.int s1))) else
  some (0, (mj_up m 68 50 (.int s1)))) else none)
def md_bounded_j24  (v1 : Int64)  (m : mj_M) : Option (Int64 × mj_M) :=
  md_bounded_j29 v1 1 m
def md_bounded  (v1 : Int64) (m : mj_M) : Option (Int64 × mj_M) :=
  (if (mj_I (m 68 50)) = 0 then (if 0 < (lg_cmp v1 1000000000000) then md_bounded_j24 v1 m else
  (if 0 ≤ (lg_cmp v1 (-1000000000000)) then md_bounded_j29 v1 0 m else
  md_bounded_j24 v1 m)) else
  md_bounded_j24 v1 m)
set_option maxRecDepth 20000 in
theorem md_bounded_j29_x {Ls tp ip x d : Nat} {Z : mj_X} {R : Option Value → mj_G → mj_M → Prop} {P : mj_K → Prop} (hC : mj_cls false (mj_sh Ls) (mj_rf tp ip) mj_dv mj_cd_193 (mj_Ex false (mj_sh Ls) (mj_rf tp ip) Z d) R P) (hd : 0 ≤ d) {v1 : Int64} {s1 : Int32} {m : mj_M} {r : (Int64 × mj_M)} (h : md_bounded_j29 v1 s1 m = some r) (hR : R (some (.long r.1)) (110, x) r.2) : P (29, [some (.ref 68), some (.long v1), none], [.int s1, .ref 68], (110, x), m) := by
  unfold md_bounded_j29 at h
  obtain ⟨k3, h⟩ := mj_ifs h
  refine mj_pputZ hC rfl ⟨rfl, Nat.le_of_ble_eq_true rfl⟩ k3 ?_
  show P (32, [some (.ref 68), some (.long v1), none], [], (110, x), (mj_up m 68 50 (.int s1)))
  refine mj_gcp hC 3 ?_
  show P (mj_pick 43 39 (s1 = 0), [some (.ref 68), some (.long v1), none], [], (110, x), (mj_up m 68 50 (.int s1)))
  refine mj_pbr (fun c4 => ?_) (fun c4 => ?_)
  · rw [if_pos c4] at h
    refine mj_gcp hC 1 ?_
    show P (44, [some (.ref 68), some (.long v1), none], [.long v1], (110, x), (mj_up m 68 50 (.int s1)))
    cases h
    exact mj_pret hC rfl hR
  · rw [if_neg c4] at h
    refine mj_gcp hC 2 ?_
    show P (44, [some (.ref 68), some (.long v1), none], [.long 0], (110, x), (mj_up m 68 50 (.int s1)))
    cases h
    exact mj_pret hC rfl hR
set_option maxRecDepth 20000 in
theorem md_bounded_j24_x {Ls tp ip x d : Nat} {Z : mj_X} {R : Option Value → mj_G → mj_M → Prop} {P : mj_K → Prop} (hC : mj_cls false (mj_sh Ls) (mj_rf tp ip) mj_dv mj_cd_193 (mj_Ex false (mj_sh Ls) (mj_rf tp ip) Z d) R P) (hd : 0 ≤ d) {v1 : Int64}  {m : mj_M} {r : (Int64 × mj_M)} (h : md_bounded_j24 v1 m = some r) (hR : R (some (.long r.1)) (110, x) r.2) : P (24, [some (.ref 68), some (.long v1), none], [.ref 68], (110, x), m) := by
  unfold md_bounded_j24 at h
  refine mj_gcp hC 2 ?_
  show P (29, [some (.ref 68), some (.long v1), none], [.int 1, .ref 68], (110, x), m)
  exact mj_less hC (L0 := [some (.ref 68), some (.long v1), none]) (And.intro rfl (And.intro rfl trivial)) (md_bounded_j29_x hC hd h hR)
set_option maxRecDepth 20000 in
theorem md_bounded_p {Ls tp ip x d : Nat} {Z : mj_X} {R : Option Value → mj_G → mj_M → Prop} {P : mj_K → Prop} (hC : mj_cls false (mj_sh Ls) (mj_rf tp ip) mj_dv mj_cd_193 (mj_Ex false (mj_sh Ls) (mj_rf tp ip) Z d) R P) (hd : 0 ≤ d) {v1 : Int64} {m : mj_M} {r : (Int64 × mj_M)} (h : md_bounded v1 m = some r) (hR : R (some (.long r.1)) (110, x) r.2) : P (0, [some (.ref 68), some (.long v1), none], [], (110, x), m) := by
  unfold md_bounded at h
  refine mj_gcp hC 4 ?_
  show P (mj_pick 8 24 ((mj_I (m 68 50)) = 0), [some (.ref 68), some (.long v1), none], [.ref 68], (110, x), m)
  refine mj_pbr (fun c1 => ?_) (fun c1 => ?_)
  · rw [if_pos c1] at h
    refine mj_gcp hC 4 ?_
    show P (mj_pick 24 16 (0 < (lg_cmp v1 1000000000000)), [some (.ref 68), some (.long v1), none], [.ref 68], (110, x), m)
    refine mj_pbr (fun c2 => ?_) (fun c2 => ?_)
    · rw [if_pos c2] at h
      exact mj_less hC (L0 := [some (.ref 68), some (.long v1), none]) (And.intro rfl (And.intro rfl trivial)) (md_bounded_j24_x hC hd h hR)
    · rw [if_neg c2] at h
      refine mj_gcp hC 4 ?_
      show P (mj_pick 28 24 (0 ≤ (lg_cmp v1 (-1000000000000))), [some (.ref 68), some (.long v1), none], [.ref 68], (110, x), m)
      refine mj_pbr (fun c5 => ?_) (fun c5 => ?_)
      · rw [if_pos c5] at h
        refine mj_gcp hC 1 ?_
        show P (29, [some (.ref 68), some (.long v1), none], [.int 0, .ref 68], (110, x), m)
        exact mj_less hC (L0 := [some (.ref 68), some (.long v1), none]) (And.intro rfl (And.intro rfl trivial)) (md_bounded_j29_x hC hd h hR)
      · rw [if_neg c5] at h
        exact mj_less hC (L0 := [some (.ref 68), some (.long v1), none]) (And.intro rfl (And.intro rfl trivial)) (md_bounded_j24_x hC hd h hR)
  · rw [if_neg c1] at h
    exact mj_less hC (L0 := [some (.ref 68), some (.long v1), none]) (And.intro rfl (And.intro rfl trivial)) (md_bounded_j24_x hC hd h hR)
set_option maxRecDepth 20000 in
theorem md_bounded_x {Ls tp ip x d : Nat} {Z : mj_X} (hd : 1 ≤ d) {v1 : Int64} {m : mj_M} {r : (Int64 × mj_M)} (h : md_bounded v1 m = some r) : mj_Ex false (mj_sh Ls) (mj_rf tp ip) Z d 193 [.ref 68, .long v1] (110, x) m (some (.long r.1)) (110, x) r.2 := by
  exact mj_Ex_of (cd := mj_cd_193) (L := [some (.ref 68), some (.long v1), none]) (by omega) (by decide) rfl (Nat.le_of_ble_eq_true rfl) rfl (fun P hC => md_bounded_p hC (by omega) h ⟨rfl, rfl, rfl⟩)
def md_compares  (v0 : Int32) (v1 : Int64) (v3 : Int64) (m : mj_M) : Int32 :=
  (if v0 = 5 then (if 0 ≤ (lg_cmp v1 v3) then 0 else
  1) else
  (if v0 = 6 then (if 0 < (lg_cmp v1 v3) then 0 else
  1) else
  (if v0 = 7 then (if (lg_cmp v1 v3) = 0 then 1 else
  0) else
  (if v0 = 8 then (if (lg_cmp v1 v3) = 0 then 0 else
  1) else
  (if v0 = 9 then (if (lg_cmp v1 v3) < 0 then 0 else
  1) else
  (if (lg_cmp v1 v3) ≤ 0 then 0 else
  1))))))
set_option maxRecDepth 20000 in
theorem md_compares_p {Ls tp ip x d : Nat} {Z : mj_X} {R : Option Value → mj_G → mj_M → Prop} {P : mj_K → Prop} (hC : mj_cls false (mj_sh Ls) (mj_rf tp ip) mj_dv mj_cd_194 (mj_Ex false (mj_sh Ls) (mj_rf tp ip) Z d) R P) (hd : 0 ≤ d) {v0 : Int32} {v1 : Int64} {v3 : Int64} {m : mj_M} (hR : R (some (.int (md_compares v0 v1 v3 m))) (110, x) m) : P (0, [some (.int v0), some (.long v1), none, some (.long v3), none], [], (110, x), m) := by
  unfold md_compares at hR
  refine mj_gcp hC 2 ?_
  show P ((mj_sw v0 [(5, 36), (6, 48), (7, 60), (8, 72), (9, 84)] 96), [some (.int v0), some (.long v1), none, some (.long v3), none], [], (110, x), m)
  refine mj_psw (fun c1 => ?_) (fun c1 => ?_)
  · rw [if_pos c1] at hR
    refine mj_gcp hC 4 ?_
    show P (mj_pick 46 42 (0 ≤ (lg_cmp v1 v3)), [some (.int v0), some (.long v1), none, some (.long v3), none], [], (110, x), m)
    refine mj_pbr (fun c2 => ?_) (fun c2 => ?_)
    · rw [if_pos c2] at hR
      refine mj_gcp hC 1 ?_
      show P (47, [some (.int v0), some (.long v1), none, some (.long v3), none], [.int 0], (110, x), m)
      exact mj_pret hC rfl hR
    · rw [if_neg c2] at hR
      refine mj_gcp hC 2 ?_
      show P (47, [some (.int v0), some (.long v1), none, some (.long v3), none], [.int 1], (110, x), m)
      exact mj_pret hC rfl hR
  · rw [if_neg c1] at hR
    refine mj_psw (fun c3 => ?_) (fun c3 => ?_)
    · rw [if_pos c3] at hR
      refine mj_gcp hC 4 ?_
      show P (mj_pick 58 54 (0 < (lg_cmp v1 v3)), [some (.int v0), some (.long v1), none, some (.long v3), none], [], (110, x), m)
      refine mj_pbr (fun c4 => ?_) (fun c4 => ?_)
      · rw [if_pos c4] at hR
        refine mj_gcp hC 1 ?_
        show P (59, [some (.int v0), some (.long v1), none, some (.long v3), none], [.int 0], (110, x), m)
        exact mj_pret hC rfl hR
      · rw [if_neg c4] at hR
        refine mj_gcp hC 2 ?_
        show P (59, [some (.int v0), some (.long v1), none, some (.long v3), none], [.int 1], (110, x), m)
        exact mj_pret hC rfl hR
    · rw [if_neg c3] at hR
      refine mj_psw (fun c5 => ?_) (fun c5 => ?_)
      · rw [if_pos c5] at hR
        refine mj_gcp hC 4 ?_
        show P (mj_pick 66 70 ((lg_cmp v1 v3) = 0), [some (.int v0), some (.long v1), none, some (.long v3), none], [], (110, x), m)
        refine mj_pbr (fun c6 => ?_) (fun c6 => ?_)
        · rw [if_pos c6] at hR
          refine mj_gcp hC 2 ?_
          show P (71, [some (.int v0), some (.long v1), none, some (.long v3), none], [.int 1], (110, x), m)
          exact mj_pret hC rfl hR
        · rw [if_neg c6] at hR
          refine mj_gcp hC 1 ?_
          show P (71, [some (.int v0), some (.long v1), none, some (.long v3), none], [.int 0], (110, x), m)
          exact mj_pret hC rfl hR
      · rw [if_neg c5] at hR
        refine mj_psw (fun c7 => ?_) (fun c7 => ?_)
        · rw [if_pos c7] at hR
          refine mj_gcp hC 4 ?_
          show P (mj_pick 82 78 ((lg_cmp v1 v3) = 0), [some (.int v0), some (.long v1), none, some (.long v3), none], [], (110, x), m)
          refine mj_pbr (fun c8 => ?_) (fun c8 => ?_)
          · rw [if_pos c8] at hR
            refine mj_gcp hC 1 ?_
            show P (83, [some (.int v0), some (.long v1), none, some (.long v3), none], [.int 0], (110, x), m)
            exact mj_pret hC rfl hR
          · rw [if_neg c8] at hR
            refine mj_gcp hC 2 ?_
            show P (83, [some (.int v0), some (.long v1), none, some (.long v3), none], [.int 1], (110, x), m)
            exact mj_pret hC rfl hR
        · rw [if_neg c7] at hR
          refine mj_psw (fun c9 => ?_) (fun c9 => ?_)
          · rw [if_pos c9] at hR
            refine mj_gcp hC 4 ?_
            show P (mj_pick 94 90 ((lg_cmp v1 v3) < 0), [some (.int v0), some (.long v1), none, some (.long v3), none], [], (110, x), m)
            refine mj_pbr (fun c10 => ?_) (fun c10 => ?_)
            · rw [if_pos c10] at hR
              refine mj_gcp hC 1 ?_
              show P (95, [some (.int v0), some (.long v1), none, some (.long v3), none], [.int 0], (110, x), m)
              exact mj_pret hC rfl hR
            · rw [if_neg c10] at hR
              refine mj_gcp hC 2 ?_
              show P (95, [some (.int v0), some (.long v1), none, some (.long v3), none], [.int 1], (110, x), m)
              exact mj_pret hC rfl hR
          · rw [if_neg c9] at hR
            show P (96, [some (.int v0), some (.long v1), none, some (.long v3), none], [], (110, x), m)
            refine mj_gcp hC 4 ?_
            show P (mj_pick 106 102 ((lg_cmp v1 v3) ≤ 0), [some (.int v0), some (.long v1), none, some (.long v3), none], [], (110, x), m)
            refine mj_pbr (fun c11 => ?_) (fun c11 => ?_)
            · rw [if_pos c11] at hR
              refine mj_gcp hC 1 ?_
              show P (107, [some (.int v0), some (.long v1), none, some (.long v3), none], [.int 0], (110, x), m)
              exact mj_pret hC rfl hR
            · rw [if_neg c11] at hR
              refine mj_gcp hC 2 ?_
              show P (107, [some (.int v0), some (.long v1), none, some (.long v3), none], [.int 1], (110, x), m)
              exact mj_pret hC rfl hR
set_option maxRecDepth 20000 in
theorem md_compares_x {Ls tp ip x d : Nat} {Z : mj_X} (hd : 1 ≤ d) {v0 : Int32} {v1 : Int64} {v3 : Int64} {m : mj_M}  : mj_Ex false (mj_sh Ls) (mj_rf tp ip) Z d 194 [.int v0, .long v1, .long v3] (110, x) m (some (.int (md_compares v0 v1 v3 m))) (110, x) m := by
  exact mj_Ex_of (cd := mj_cd_194) (L := [some (.int v0), some (.long v1), none, some (.long v3), none]) (by omega) (by decide) rfl (Nat.le_of_ble_eq_true rfl) rfl (fun P hC => md_compares_p hC (by omega) ⟨rfl, rfl, rfl⟩)
def md_times_j69  (v1 : Int64) (v3 : Int64) (s1 : Int32) (m : mj_M) : Option (Int64 × mj_M) :=
  (if s1 = 0 ∨ s1 = 1 then
  (if s1 = 0 then some ((v1 * v3), (mj_up m 68 50 (.int s1))) else
  some (0, (mj_up m 68 50 (.int s1)))) else none)
def md_times_j64  (v1 : Int64) (v3 : Int64)  (m : mj_M) : Option (Int64 × mj_M) :=
  md_times_j69 v1 v3 1 m
def md_times_j49  (v1 : Int64) (v3 : Int64) (s0 : Int32) (m : mj_M) : Option (Int64 × mj_M) :=
  (if (mj_I (m 68 50)) = 0 then (if s0 = 0 then md_times_j69 v1 v3 0 m else
  md_times_j64 v1 v3 m) else
  md_times_j64 v1 v3 m)
def md_times_j48  (v1 : Int64) (v3 : Int64)  (m : mj_M) : Option (Int64 × mj_M) :=
  md_times_j49 v1 v3 0 m
def md_times_j39  (v1 : Int64) (v3 : Int64) (s0 : Int64) (s1 : Int64) (s2 : Int64) (m : mj_M) : Option (Int64 × mj_M) :=
  (if (s2 : Int64) = 0 then none else
  (if (lg_cmp s0 (s1 / s2)) ≤ 0 then md_times_j48 v1 v3 m else
  md_times_j49 v1 v3 1 m))
def md_times_j24  (v1 : Int64) (v3 : Int64) (s0 : Int64) (m : mj_M) : Option (Int64 × mj_M) :=
  (if 0 ≤ (lg_cmp v1 0) then md_times_j39 v1 v3 s0 1000000000000 v1 m else
  md_times_j39 v1 v3 s0 1000000000000 (0 - v1) m)
def md_times  (v1 : Int64) (v3 : Int64) (m : mj_M) : Option (Int64 × mj_M) :=
  (if (lg_cmp v1 0) = 0 then md_times_j48 v1 v3 m else
  (if (lg_cmp v3 0) = 0 then md_times_j48 v1 v3 m else
  (if 0 ≤ (lg_cmp v3 0) then md_times_j24 v1 v3 v3 m else
  md_times_j24 v1 v3 (0 - v3) m)))
set_option maxRecDepth 20000 in
theorem md_times_j69_x {Ls tp ip x d : Nat} {Z : mj_X} {R : Option Value → mj_G → mj_M → Prop} {P : mj_K → Prop} (hC : mj_cls false (mj_sh Ls) (mj_rf tp ip) mj_dv mj_cd_195 (mj_Ex false (mj_sh Ls) (mj_rf tp ip) Z d) R P) (hd : 0 ≤ d) {v1 : Int64} {v3 : Int64} {s1 : Int32} {m : mj_M} {r : (Int64 × mj_M)} (h : md_times_j69 v1 v3 s1 m = some r) (hR : R (some (.long r.1)) (110, x) r.2) : P (69, [some (.ref 68), some (.long v1), none, some (.long v3), none, none], [.int s1, .ref 68], (110, x), m) := by
  unfold md_times_j69 at h
  obtain ⟨k4, h⟩ := mj_ifs h
  refine mj_pputZ hC rfl ⟨rfl, Nat.le_of_ble_eq_true rfl⟩ k4 ?_
  show P (72, [some (.ref 68), some (.long v1), none, some (.long v3), none, none], [], (110, x), (mj_up m 68 50 (.int s1)))
  refine mj_gcp hC 3 ?_
  show P (mj_pick 83 79 (s1 = 0), [some (.ref 68), some (.long v1), none, some (.long v3), none, none], [], (110, x), (mj_up m 68 50 (.int s1)))
  refine mj_pbr (fun c5 => ?_) (fun c5 => ?_)
  · rw [if_pos c5] at h
    refine mj_gcp hC 3 ?_
    show P (86, [some (.ref 68), some (.long v1), none, some (.long v3), none, none], [.long (v1 * v3)], (110, x), (mj_up m 68 50 (.int s1)))
    cases h
    exact mj_pret hC rfl hR
  · rw [if_neg c5] at h
    refine mj_gcp hC 2 ?_
    show P (86, [some (.ref 68), some (.long v1), none, some (.long v3), none, none], [.long 0], (110, x), (mj_up m 68 50 (.int s1)))
    cases h
    exact mj_pret hC rfl hR
set_option maxRecDepth 20000 in
theorem md_times_j64_x {Ls tp ip x d : Nat} {Z : mj_X} {R : Option Value → mj_G → mj_M → Prop} {P : mj_K → Prop} (hC : mj_cls false (mj_sh Ls) (mj_rf tp ip) mj_dv mj_cd_195 (mj_Ex false (mj_sh Ls) (mj_rf tp ip) Z d) R P) (hd : 0 ≤ d) {v1 : Int64} {v3 : Int64}  {m : mj_M} {r : (Int64 × mj_M)} (h : md_times_j64 v1 v3 m = some r) (hR : R (some (.long r.1)) (110, x) r.2) : P (64, [some (.ref 68), some (.long v1), none, some (.long v3), none, none], [.ref 68], (110, x), m) := by
  unfold md_times_j64 at h
  refine mj_gcp hC 2 ?_
  show P (69, [some (.ref 68), some (.long v1), none, some (.long v3), none, none], [.int 1, .ref 68], (110, x), m)
  exact mj_less hC (L0 := [some (.ref 68), some (.long v1), none, some (.long v3), none, none]) (And.intro rfl (And.intro rfl (And.intro rfl trivial))) (md_times_j69_x hC hd h hR)
set_option maxRecDepth 20000 in
theorem md_times_j49_x {Ls tp ip x d : Nat} {Z : mj_X} {R : Option Value → mj_G → mj_M → Prop} {P : mj_K → Prop} (hC : mj_cls false (mj_sh Ls) (mj_rf tp ip) mj_dv mj_cd_195 (mj_Ex false (mj_sh Ls) (mj_rf tp ip) Z d) R P) (hd : 0 ≤ d) {v1 : Int64} {v3 : Int64} {s0 : Int32} {m : mj_M} {r : (Int64 × mj_M)} (h : md_times_j49 v1 v3 s0 m = some r) (hR : R (some (.long r.1)) (110, x) r.2) : P (49, [some (.ref 68), some (.long v1), none, some (.long v3), none, none], [.int s0], (110, x), m) := by
  unfold md_times_j49 at h
  refine mj_gcp hC 5 ?_
  show P (mj_pick 59 64 ((mj_I (m 68 50)) = 0), [some (.ref 68), some (.long v1), none, some (.long v3), none, some (.int s0)], [.ref 68], (110, x), m)
  refine mj_pbr (fun c2 => ?_) (fun c2 => ?_)
  · rw [if_pos c2] at h
    refine mj_gcp hC 2 ?_
    show P (mj_pick 68 64 (s0 = 0), [some (.ref 68), some (.long v1), none, some (.long v3), none, some (.int s0)], [.ref 68], (110, x), m)
    refine mj_pbr (fun c3 => ?_) (fun c3 => ?_)
    · rw [if_pos c3] at h
      refine mj_gcp hC 1 ?_
      show P (69, [some (.ref 68), some (.long v1), none, some (.long v3), none, some (.int s0)], [.int 0, .ref 68], (110, x), m)
      exact mj_less hC (L0 := [some (.ref 68), some (.long v1), none, some (.long v3), none, none]) (And.intro rfl (And.intro rfl (And.intro rfl trivial))) (md_times_j69_x hC hd h hR)
    · rw [if_neg c3] at h
      exact mj_less hC (L0 := [some (.ref 68), some (.long v1), none, some (.long v3), none, none]) (And.intro rfl (And.intro rfl (And.intro rfl trivial))) (md_times_j64_x hC hd h hR)
  · rw [if_neg c2] at h
    exact mj_less hC (L0 := [some (.ref 68), some (.long v1), none, some (.long v3), none, none]) (And.intro rfl (And.intro rfl (And.intro rfl trivial))) (md_times_j64_x hC hd h hR)
set_option maxRecDepth 20000 in
theorem md_times_j48_x {Ls tp ip x d : Nat} {Z : mj_X} {R : Option Value → mj_G → mj_M → Prop} {P : mj_K → Prop} (hC : mj_cls false (mj_sh Ls) (mj_rf tp ip) mj_dv mj_cd_195 (mj_Ex false (mj_sh Ls) (mj_rf tp ip) Z d) R P) (hd : 0 ≤ d) {v1 : Int64} {v3 : Int64}  {m : mj_M} {r : (Int64 × mj_M)} (h : md_times_j48 v1 v3 m = some r) (hR : R (some (.long r.1)) (110, x) r.2) : P (48, [some (.ref 68), some (.long v1), none, some (.long v3), none, none], [], (110, x), m) := by
  unfold md_times_j48 at h
  refine mj_gcp hC 1 ?_
  show P (49, [some (.ref 68), some (.long v1), none, some (.long v3), none, none], [.int 0], (110, x), m)
  exact mj_less hC (L0 := [some (.ref 68), some (.long v1), none, some (.long v3), none, none]) (And.intro rfl (And.intro rfl (And.intro rfl trivial))) (md_times_j49_x hC hd h hR)
set_option maxRecDepth 20000 in
theorem md_times_j39_x {Ls tp ip x d : Nat} {Z : mj_X} {R : Option Value → mj_G → mj_M → Prop} {P : mj_K → Prop} (hC : mj_cls false (mj_sh Ls) (mj_rf tp ip) mj_dv mj_cd_195 (mj_Ex false (mj_sh Ls) (mj_rf tp ip) Z d) R P) (hd : 0 ≤ d) {v1 : Int64} {v3 : Int64} {s0 : Int64} {s1 : Int64} {s2 : Int64} {m : mj_M} {r : (Int64 × mj_M)} (h : md_times_j39 v1 v3 s0 s1 s2 m = some r) (hR : R (some (.long r.1)) (110, x) r.2) : P (39, [some (.ref 68), some (.long v1), none, some (.long v3), none, none], [.long s2, .long s1, .long s0], (110, x), m) := by
  unfold md_times_j39 at h
  obtain ⟨k9, h⟩ := mj_ifn h
  refine mj_gcp hC 3 ?_
  show _ ∧ (P (mj_pick 48 44 ((lg_cmp s0 (s1 / s2)) ≤ 0), [some (.ref 68), some (.long v1), none, some (.long v3), none, none], [], (110, x), m))
  refine And.intro k9 (?_)
  refine mj_pbr (fun c10 => ?_) (fun c10 => ?_)
  · rw [if_pos c10] at h
    exact mj_less hC (L0 := [some (.ref 68), some (.long v1), none, some (.long v3), none, none]) (And.intro rfl (And.intro rfl (And.intro rfl trivial))) (md_times_j48_x hC hd h hR)
  · rw [if_neg c10] at h
    refine mj_gcp hC 2 ?_
    show P (49, [some (.ref 68), some (.long v1), none, some (.long v3), none, none], [.int 1], (110, x), m)
    exact mj_less hC (L0 := [some (.ref 68), some (.long v1), none, some (.long v3), none, none]) (And.intro rfl (And.intro rfl (And.intro rfl trivial))) (md_times_j49_x hC hd h hR)
set_option maxRecDepth 20000 in
theorem md_times_j24_x {Ls tp ip x d : Nat} {Z : mj_X} {R : Option Value → mj_G → mj_M → Prop} {P : mj_K → Prop} (hC : mj_cls false (mj_sh Ls) (mj_rf tp ip) mj_dv mj_cd_195 (mj_Ex false (mj_sh Ls) (mj_rf tp ip) Z d) R P) (hd : 0 ≤ d) {v1 : Int64} {v3 : Int64} {s0 : Int64} {m : mj_M} {r : (Int64 × mj_M)} (h : md_times_j24 v1 v3 s0 m = some r) (hR : R (some (.long r.1)) (110, x) r.2) : P (24, [some (.ref 68), some (.long v1), none, some (.long v3), none, none], [.long s0], (110, x), m) := by
  unfold md_times_j24 at h
  refine mj_gcp hC 5 ?_
  show P (mj_pick 38 33 (0 ≤ (lg_cmp v1 0)), [some (.ref 68), some (.long v1), none, some (.long v3), none, none], [.long 1000000000000, .long s0], (110, x), m)
  refine mj_pbr (fun c8 => ?_) (fun c8 => ?_)
  · rw [if_pos c8] at h
    refine mj_gcp hC 1 ?_
    show P (39, [some (.ref 68), some (.long v1), none, some (.long v3), none, none], [.long v1, .long 1000000000000, .long s0], (110, x), m)
    exact mj_less hC (L0 := [some (.ref 68), some (.long v1), none, some (.long v3), none, none]) (And.intro rfl (And.intro rfl (And.intro rfl trivial))) (md_times_j39_x hC hd h hR)
  · rw [if_neg c8] at h
    refine mj_gcp hC 3 ?_
    show P (39, [some (.ref 68), some (.long v1), none, some (.long v3), none, none], [.long (0 - v1), .long 1000000000000, .long s0], (110, x), m)
    exact mj_less hC (L0 := [some (.ref 68), some (.long v1), none, some (.long v3), none, none]) (And.intro rfl (And.intro rfl (And.intro rfl trivial))) (md_times_j39_x hC hd h hR)
set_option maxRecDepth 20000 in
theorem md_times_p {Ls tp ip x d : Nat} {Z : mj_X} {R : Option Value → mj_G → mj_M → Prop} {P : mj_K → Prop} (hC : mj_cls false (mj_sh Ls) (mj_rf tp ip) mj_dv mj_cd_195 (mj_Ex false (mj_sh Ls) (mj_rf tp ip) Z d) R P) (hd : 0 ≤ d) {v1 : Int64} {v3 : Int64} {m : mj_M} {r : (Int64 × mj_M)} (h : md_times v1 v3 m = some r) (hR : R (some (.long r.1)) (110, x) r.2) : P (0, [some (.ref 68), some (.long v1), none, some (.long v3), none, none], [], (110, x), m) := by
  unfold md_times at h
  refine mj_gcp hC 4 ?_
  show P (mj_pick 48 6 ((lg_cmp v1 0) = 0), [some (.ref 68), some (.long v1), none, some (.long v3), none, none], [], (110, x), m)
  refine mj_pbr (fun c1 => ?_) (fun c1 => ?_)
  · rw [if_pos c1] at h
    exact mj_less hC (L0 := [some (.ref 68), some (.long v1), none, some (.long v3), none, none]) (And.intro rfl (And.intro rfl (And.intro rfl trivial))) (md_times_j48_x hC hd h hR)
  · rw [if_neg c1] at h
    refine mj_gcp hC 4 ?_
    show P (mj_pick 48 12 ((lg_cmp v3 0) = 0), [some (.ref 68), some (.long v1), none, some (.long v3), none, none], [], (110, x), m)
    refine mj_pbr (fun c6 => ?_) (fun c6 => ?_)
    · rw [if_pos c6] at h
      exact mj_less hC (L0 := [some (.ref 68), some (.long v1), none, some (.long v3), none, none]) (And.intro rfl (And.intro rfl (And.intro rfl trivial))) (md_times_j48_x hC hd h hR)
    · rw [if_neg c6] at h
      refine mj_gcp hC 4 ?_
      show P (mj_pick 23 18 (0 ≤ (lg_cmp v3 0)), [some (.ref 68), some (.long v1), none, some (.long v3), none, none], [], (110, x), m)
      refine mj_pbr (fun c7 => ?_) (fun c7 => ?_)
      · rw [if_pos c7] at h
        refine mj_gcp hC 1 ?_
        show P (24, [some (.ref 68), some (.long v1), none, some (.long v3), none, none], [.long v3], (110, x), m)
        exact mj_less hC (L0 := [some (.ref 68), some (.long v1), none, some (.long v3), none, none]) (And.intro rfl (And.intro rfl (And.intro rfl trivial))) (md_times_j24_x hC hd h hR)
      · rw [if_neg c7] at h
        refine mj_gcp hC 3 ?_
        show P (24, [some (.ref 68), some (.long v1), none, some (.long v3), none, none], [.long (0 - v3)], (110, x), m)
        exact mj_less hC (L0 := [some (.ref 68), some (.long v1), none, some (.long v3), none, none]) (And.intro rfl (And.intro rfl (And.intro rfl trivial))) (md_times_j24_x hC hd h hR)
set_option maxRecDepth 20000 in
theorem md_times_x {Ls tp ip x d : Nat} {Z : mj_X} (hd : 1 ≤ d) {v1 : Int64} {v3 : Int64} {m : mj_M} {r : (Int64 × mj_M)} (h : md_times v1 v3 m = some r) : mj_Ex false (mj_sh Ls) (mj_rf tp ip) Z d 195 [.ref 68, .long v1, .long v3] (110, x) m (some (.long r.1)) (110, x) r.2 := by
  exact mj_Ex_of (cd := mj_cd_195) (L := [some (.ref 68), some (.long v1), none, some (.long v3), none, none]) (by omega) (by decide) rfl (Nat.le_of_ble_eq_true rfl) rfl (fun P hC => md_times_p hC (by omega) h ⟨rfl, rfl, rfl⟩)
def md_valueOf_j259  (v1 : Int32) (v2 : Int64) (v4 : Int64)  (m : mj_M) : Option (Int64 × mj_M) :=
  (if v1 < 0 ∨ 128 ≤ (v1 : Int32).toNatClampNeg then none else
  (if (md_compares (mj_I (m 86 v1.toNatClampNeg)) v2 v4 m) = 0 then some (0, m) else
  some (1, m)))
def md_valueOf_j240  (v2 : Int64) (v4 : Int64) (s1 : Int32) (m : mj_M) : Option (Int64 × mj_M) :=
  (if s1 = 0 ∨ s1 = 1 then
  (if s1 = 0 then (if (v4 : Int64) = 0 then none else
  some ((v2 / v4), (mj_up m 68 50 (.int s1)))) else
  some (0, (mj_up m 68 50 (.int s1)))) else none)
def md_valueOf_j235  (v2 : Int64) (v4 : Int64)  (m : mj_M) : Option (Int64 × mj_M) :=
  md_valueOf_j240 v2 v4 1 m
def md_valueOf  (v1 : Int32) (m : mj_M) : Option (Int64 × mj_M) :=
  (if v1 < 0 ∨ 128 ≤ (v1 : Int32).toNatClampNeg then none else
  (if (mj_I (m 86 v1.toNatClampNeg)) = 0 then (if v1 < 0 ∨ 128 ≤ (v1 : Int32).toNatClampNeg then none else
  some ((mj_I (m 87 v1.toNatClampNeg)).toInt64, m)) else
  (if v1 < 0 ∨ 128 ≤ (v1 : Int32).toNatClampNeg then none else
  (if (mj_I (m 86 v1.toNatClampNeg)) = 1 then (if v1 < 0 ∨ 128 ≤ (v1 : Int32).toNatClampNeg then none else
  (if (mj_I (m 87 v1.toNatClampNeg)) < 0 ∨ 7 ≤ ((mj_I (m 87 v1.toNatClampNeg)) : Int32).toNatClampNeg then none else
  some ((mj_J (m 91 (mj_I (m 87 v1.toNatClampNeg)).toNatClampNeg)), m))) else
  (if v1 < 0 ∨ 128 ≤ (v1 : Int32).toNatClampNeg then none else
  (if (mj_I (m 87 v1.toNatClampNeg)) < 0 ∨ 64 ≤ ((mj_I (m 87 v1.toNatClampNeg)) : Int32).toNatClampNeg then none else
  (if v1 < 0 ∨ 128 ≤ (v1 : Int32).toNatClampNeg then none else
  (if (mj_I (m 86 v1.toNatClampNeg)) = 2 then (if (lg_cmp (mj_J (m 92 (mj_I (m 87 v1.toNatClampNeg)).toNatClampNeg)) 0) = 0 then some (1, m) else
  some (0, m)) else
  (if v1 < 0 ∨ 128 ≤ (v1 : Int32).toNatClampNeg then none else
  (if (mj_I (m 88 v1.toNatClampNeg)) < 0 ∨ 64 ≤ ((mj_I (m 88 v1.toNatClampNeg)) : Int32).toNatClampNeg then none else
  (if v1 < 0 ∨ 128 ≤ (v1 : Int32).toNatClampNeg then none else
  (if (mj_I (m 86 v1.toNatClampNeg)) = 3 then (if (lg_cmp (mj_J (m 92 (mj_I (m 87 v1.toNatClampNeg)).toNatClampNeg)) 0) = 0 then some (0, m) else
  (if (lg_cmp (mj_J (m 92 (mj_I (m 88 v1.toNatClampNeg)).toNatClampNeg)) 0) = 0 then some (0, m) else
  some (1, m))) else
  (if (mj_I (m 86 v1.toNatClampNeg)) = 4 then (if (lg_cmp (mj_J (m 92 (mj_I (m 87 v1.toNatClampNeg)).toNatClampNeg)) 0) = 0 then (if (lg_cmp (mj_J (m 92 (mj_I (m 88 v1.toNatClampNeg)).toNatClampNeg)) 0) = 0 then some (0, m) else
  some (1, m)) else
  some (1, m)) else
  (if (mj_I (m 86 v1.toNatClampNeg)) = 5 then md_valueOf_j259 v1 (mj_J (m 92 (mj_I (m 87 v1.toNatClampNeg)).toNatClampNeg)) (mj_J (m 92 (mj_I (m 88 v1.toNatClampNeg)).toNatClampNeg)) m else
  (if (mj_I (m 86 v1.toNatClampNeg)) = 6 then md_valueOf_j259 v1 (mj_J (m 92 (mj_I (m 87 v1.toNatClampNeg)).toNatClampNeg)) (mj_J (m 92 (mj_I (m 88 v1.toNatClampNeg)).toNatClampNeg)) m else
  (if (mj_I (m 86 v1.toNatClampNeg)) = 7 then md_valueOf_j259 v1 (mj_J (m 92 (mj_I (m 87 v1.toNatClampNeg)).toNatClampNeg)) (mj_J (m 92 (mj_I (m 88 v1.toNatClampNeg)).toNatClampNeg)) m else
  (if (mj_I (m 86 v1.toNatClampNeg)) = 8 then md_valueOf_j259 v1 (mj_J (m 92 (mj_I (m 87 v1.toNatClampNeg)).toNatClampNeg)) (mj_J (m 92 (mj_I (m 88 v1.toNatClampNeg)).toNatClampNeg)) m else
  (if (mj_I (m 86 v1.toNatClampNeg)) = 9 then md_valueOf_j259 v1 (mj_J (m 92 (mj_I (m 87 v1.toNatClampNeg)).toNatClampNeg)) (mj_J (m 92 (mj_I (m 88 v1.toNatClampNeg)).toNatClampNeg)) m else
  (if (mj_I (m 86 v1.toNatClampNeg)) = 10 then md_valueOf_j259 v1 (mj_J (m 92 (mj_I (m 87 v1.toNatClampNeg)).toNatClampNeg)) (mj_J (m 92 (mj_I (m 88 v1.toNatClampNeg)).toNatClampNeg)) m else
  (if (mj_I (m 86 v1.toNatClampNeg)) = 11 then (md_bounded ((mj_J (m 92 (mj_I (m 87 v1.toNatClampNeg)).toNatClampNeg)) + (mj_J (m 92 (mj_I (m 88 v1.toNatClampNeg)).toNatClampNeg))) m).bind fun q31 =>
  some (q31.1, q31.2) else
  (if (mj_I (m 86 v1.toNatClampNeg)) = 12 then (md_bounded ((mj_J (m 92 (mj_I (m 87 v1.toNatClampNeg)).toNatClampNeg)) - (mj_J (m 92 (mj_I (m 88 v1.toNatClampNeg)).toNatClampNeg))) m).bind fun q33 =>
  some (q33.1, q33.2) else
  (if (mj_I (m 86 v1.toNatClampNeg)) = 13 then (md_times (mj_J (m 92 (mj_I (m 87 v1.toNatClampNeg)).toNatClampNeg)) (mj_J (m 92 (mj_I (m 88 v1.toNatClampNeg)).toNatClampNeg)) m).bind fun q35 =>
  some (q35.1, q35.2) else
  (if (mj_I (m 86 v1.toNatClampNeg)) = 14 then (if (mj_I (m 68 50)) = 0 then (if (lg_cmp (mj_J (m 92 (mj_I (m 88 v1.toNatClampNeg)).toNatClampNeg)) 0) = 0 then md_valueOf_j235 (mj_J (m 92 (mj_I (m 87 v1.toNatClampNeg)).toNatClampNeg)) (mj_J (m 92 (mj_I (m 88 v1.toNatClampNeg)).toNatClampNeg)) m else
  md_valueOf_j240 (mj_J (m 92 (mj_I (m 87 v1.toNatClampNeg)).toNatClampNeg)) (mj_J (m 92 (mj_I (m 88 v1.toNatClampNeg)).toNatClampNeg)) 0 m) else
  md_valueOf_j235 (mj_J (m 92 (mj_I (m 87 v1.toNatClampNeg)).toNatClampNeg)) (mj_J (m 92 (mj_I (m 88 v1.toNatClampNeg)).toNatClampNeg)) m) else
  md_valueOf_j259 v1 (mj_J (m 92 (mj_I (m 87 v1.toNatClampNeg)).toNatClampNeg)) (mj_J (m 92 (mj_I (m 88 v1.toNatClampNeg)).toNatClampNeg)) m)))))))))))))))))))))))
set_option maxRecDepth 20000 in
theorem md_valueOf_j259_x {Ls tp ip x d : Nat} {Z : mj_X} {R : Option Value → mj_G → mj_M → Prop} {P : mj_K → Prop} (hC : mj_cls false (mj_sh Ls) (mj_rf tp ip) mj_dv mj_cd_196 (mj_Ex false (mj_sh Ls) (mj_rf tp ip) Z d) R P) (hd : 1 ≤ d) {v1 : Int32} {v2 : Int64} {v4 : Int64}  {m : mj_M} {r : (Int64 × mj_M)} (h : md_valueOf_j259 v1 v2 v4 m = some r) (hR : R (some (.long r.1)) (110, x) r.2) : P (259, [some (.ref 68), some (.int v1), some (.long v2), none, some (.long v4), none], [], (110, x), m) := by
  unfold md_valueOf_j259 at h
  obtain ⟨k23, h⟩ := mj_ifn h
  refine mj_gcp hC 6 ?_
  show _ ∧ (P (268, [some (.ref 68), some (.int v1), some (.long v2), none, some (.long v4), none], [.long v4, .long v2, .int (mj_I (m 86 v1.toNatClampNeg))], (110, x), m))
  refine And.intro k23 (?_)
  refine mj_pcall hC rfl (md_compares_x (Nat.le_trans (by decide) hd)) ?_
  show P (271, [some (.ref 68), some (.int v1), some (.long v2), none, some (.long v4), none], [.int (md_compares (mj_I (m 86 v1.toNatClampNeg)) v2 v4 m)], (110, x), m)
  refine mj_gcp hC 1 ?_
  show P (mj_pick 278 274 ((md_compares (mj_I (m 86 v1.toNatClampNeg)) v2 v4 m) = 0), [some (.ref 68), some (.int v1), some (.long v2), none, some (.long v4), none], [], (110, x), m)
  refine mj_pbr (fun c24 => ?_) (fun c24 => ?_)
  · rw [if_pos c24] at h
    refine mj_gcp hC 1 ?_
    show P (279, [some (.ref 68), some (.int v1), some (.long v2), none, some (.long v4), none], [.long 0], (110, x), m)
    cases h
    exact mj_pret hC rfl hR
  · rw [if_neg c24] at h
    refine mj_gcp hC 2 ?_
    show P (279, [some (.ref 68), some (.int v1), some (.long v2), none, some (.long v4), none], [.long 1], (110, x), m)
    cases h
    exact mj_pret hC rfl hR
set_option maxRecDepth 20000 in
theorem md_valueOf_j240_x {Ls tp ip x d : Nat} {Z : mj_X} {R : Option Value → mj_G → mj_M → Prop} {P : mj_K → Prop} (hC : mj_cls false (mj_sh Ls) (mj_rf tp ip) mj_dv mj_cd_196 (mj_Ex false (mj_sh Ls) (mj_rf tp ip) Z d) R P) (hd : 1 ≤ d) {v2 : Int64} {v4 : Int64} {s1 : Int32} {m : mj_M} {r : (Int64 × mj_M)} (h : md_valueOf_j240 v2 v4 s1 m = some r) (hR : R (some (.long r.1)) (110, x) r.2) : P (240, [some (.ref 68), none, some (.long v2), none, some (.long v4), none], [.int s1, .ref 68], (110, x), m) := by
  unfold md_valueOf_j240 at h
  obtain ⟨k39, h⟩ := mj_ifs h
  refine mj_pputZ hC rfl ⟨rfl, Nat.le_of_ble_eq_true rfl⟩ k39 ?_
  show P (243, [some (.ref 68), none, some (.long v2), none, some (.long v4), none], [], (110, x), (mj_up m 68 50 (.int s1)))
  refine mj_gcp hC 3 ?_
  show P (mj_pick 254 250 (s1 = 0), [some (.ref 68), none, some (.long v2), none, some (.long v4), none], [], (110, x), (mj_up m 68 50 (.int s1)))
  refine mj_pbr (fun c40 => ?_) (fun c40 => ?_)
  · rw [if_pos c40] at h
    obtain ⟨k41, h⟩ := mj_ifn h
    refine mj_gcp hC 3 ?_
    show _ ∧ (P (258, [some (.ref 68), none, some (.long v2), none, some (.long v4), none], [.long (v2 / v4)], (110, x), (mj_up m 68 50 (.int s1))))
    refine And.intro k41 (?_)
    cases h
    exact mj_pret hC rfl hR
  · rw [if_neg c40] at h
    refine mj_gcp hC 2 ?_
    show P (258, [some (.ref 68), none, some (.long v2), none, some (.long v4), none], [.long 0], (110, x), (mj_up m 68 50 (.int s1)))
    cases h
    exact mj_pret hC rfl hR
set_option maxRecDepth 20000 in
theorem md_valueOf_j235_x {Ls tp ip x d : Nat} {Z : mj_X} {R : Option Value → mj_G → mj_M → Prop} {P : mj_K → Prop} (hC : mj_cls false (mj_sh Ls) (mj_rf tp ip) mj_dv mj_cd_196 (mj_Ex false (mj_sh Ls) (mj_rf tp ip) Z d) R P) (hd : 1 ≤ d) {v2 : Int64} {v4 : Int64}  {m : mj_M} {r : (Int64 × mj_M)} (h : md_valueOf_j235 v2 v4 m = some r) (hR : R (some (.long r.1)) (110, x) r.2) : P (235, [some (.ref 68), none, some (.long v2), none, some (.long v4), none], [.ref 68], (110, x), m) := by
  unfold md_valueOf_j235 at h
  refine mj_gcp hC 2 ?_
  show P (240, [some (.ref 68), none, some (.long v2), none, some (.long v4), none], [.int 1, .ref 68], (110, x), m)
  exact mj_less hC (L0 := [some (.ref 68), none, some (.long v2), none, some (.long v4), none]) (And.intro rfl (And.intro rfl (And.intro rfl trivial))) (md_valueOf_j240_x hC hd h hR)
set_option maxRecDepth 20000 in
theorem md_valueOf_p {Ls tp ip x d : Nat} {Z : mj_X} {R : Option Value → mj_G → mj_M → Prop} {P : mj_K → Prop} (hC : mj_cls false (mj_sh Ls) (mj_rf tp ip) mj_dv mj_cd_196 (mj_Ex false (mj_sh Ls) (mj_rf tp ip) Z d) R P) (hd : 1 ≤ d) {v1 : Int32} {m : mj_M} {r : (Int64 × mj_M)} (h : md_valueOf v1 m = some r) (hR : R (some (.long r.1)) (110, x) r.2) : P (0, [some (.ref 68), some (.int v1), none, none, none, none], [], (110, x), m) := by
  unfold md_valueOf at h
  obtain ⟨k1, h⟩ := mj_ifn h
  refine mj_gcp hC 5 ?_
  show _ ∧ (P (mj_pick 9 17 ((mj_I (m 86 v1.toNatClampNeg)) = 0), [some (.ref 68), some (.int v1), none, none, none, none], [], (110, x), m))
  refine And.intro k1 (?_)
  refine mj_pbr (fun c2 => ?_) (fun c2 => ?_)
  · rw [if_pos c2] at h
    obtain ⟨k3, h⟩ := mj_ifn h
    refine mj_gcp hC 5 ?_
    show _ ∧ (P (16, [some (.ref 68), some (.int v1), none, none, none, none], [.long (mj_I (m 87 v1.toNatClampNeg)).toInt64], (110, x), m))
    refine And.intro k3 (?_)
    cases h
    exact mj_pret hC rfl hR
  · rw [if_neg c2] at h
    obtain ⟨k4, h⟩ := mj_ifn h
    refine mj_gcp hC 6 ?_
    show _ ∧ (P (mj_pick 27 39 ((mj_I (m 86 v1.toNatClampNeg)) = 1), [some (.ref 68), some (.int v1), none, none, none, none], [], (110, x), m))
    refine And.intro k4 (?_)
    refine mj_pbr (fun c5 => ?_) (fun c5 => ?_)
    · rw [if_pos c5] at h
      obtain ⟨k6, h⟩ := mj_ifn h
      obtain ⟨k7, h⟩ := mj_ifn h
      refine mj_gcp hC 7 ?_
      show _ ∧ (_ ∧ (P (38, [some (.ref 68), some (.int v1), none, none, none, none], [.long (mj_J (m 91 (mj_I (m 87 v1.toNatClampNeg)).toNatClampNeg))], (110, x), m)))
      refine And.intro k6 (And.intro k7 (?_))
      cases h
      exact mj_pret hC rfl hR
    · rw [if_neg c5] at h
      obtain ⟨k8, h⟩ := mj_ifn h
      obtain ⟨k9, h⟩ := mj_ifn h
      obtain ⟨k10, h⟩ := mj_ifn h
      refine mj_gcp hC 14 ?_
      show _ ∧ (_ ∧ (_ ∧ (P (mj_pick 61 73 ((mj_I (m 86 v1.toNatClampNeg)) = 2), [some (.ref 68), some (.int v1), some (.long (mj_J (m 92 (mj_I (m 87 v1.toNatClampNeg)).toNatClampNeg))), none, none, none], [], (110, x), m))))
      refine And.intro k8 (And.intro k9 (And.intro k10 (?_)))
      refine mj_pbr (fun c11 => ?_) (fun c11 => ?_)
      · rw [if_pos c11] at h
        refine mj_gcp hC 4 ?_
        show P (mj_pick 67 71 ((lg_cmp (mj_J (m 92 (mj_I (m 87 v1.toNatClampNeg)).toNatClampNeg)) 0) = 0), [some (.ref 68), some (.int v1), some (.long (mj_J (m 92 (mj_I (m 87 v1.toNatClampNeg)).toNatClampNeg))), none, none, none], [], (110, x), m)
        refine mj_pbr (fun c12 => ?_) (fun c12 => ?_)
        · rw [if_pos c12] at h
          refine mj_gcp hC 2 ?_
          show P (72, [some (.ref 68), some (.int v1), some (.long (mj_J (m 92 (mj_I (m 87 v1.toNatClampNeg)).toNatClampNeg))), none, none, none], [.long 1], (110, x), m)
          cases h
          exact mj_pret hC rfl hR
        · rw [if_neg c12] at h
          refine mj_gcp hC 1 ?_
          show P (72, [some (.ref 68), some (.int v1), some (.long (mj_J (m 92 (mj_I (m 87 v1.toNatClampNeg)).toNatClampNeg))), none, none, none], [.long 0], (110, x), m)
          cases h
          exact mj_pret hC rfl hR
      · rw [if_neg c11] at h
        obtain ⟨k13, h⟩ := mj_ifn h
        obtain ⟨k14, h⟩ := mj_ifn h
        obtain ⟨k15, h⟩ := mj_ifn h
        refine mj_gcp hC 13 ?_
        show _ ∧ (_ ∧ (_ ∧ (P ((mj_sw (mj_I (m 86 v1.toNatClampNeg)) [(3, 156), (4, 175), (5, 259), (6, 259), (7, 259), (8, 259), (9, 259), (10, 259), (11, 194), (12, 203), (13, 212), (14, 220)] 259), [some (.ref 68), some (.int v1), some (.long (mj_J (m 92 (mj_I (m 87 v1.toNatClampNeg)).toNatClampNeg))), none, some (.long (mj_J (m 92 (mj_I (m 88 v1.toNatClampNeg)).toNatClampNeg))), none], [], (110, x), m))))
        refine And.intro k13 (And.intro k14 (And.intro k15 (?_)))
        refine mj_psw (fun c16 => ?_) (fun c16 => ?_)
        · rw [if_pos c16] at h
          refine mj_gcp hC 4 ?_
          show P (mj_pick 173 162 ((lg_cmp (mj_J (m 92 (mj_I (m 87 v1.toNatClampNeg)).toNatClampNeg)) 0) = 0), [some (.ref 68), some (.int v1), some (.long (mj_J (m 92 (mj_I (m 87 v1.toNatClampNeg)).toNatClampNeg))), none, some (.long (mj_J (m 92 (mj_I (m 88 v1.toNatClampNeg)).toNatClampNeg))), none], [], (110, x), m)
          refine mj_pbr (fun c17 => ?_) (fun c17 => ?_)
          · rw [if_pos c17] at h
            refine mj_gcp hC 1 ?_
            show P (174, [some (.ref 68), some (.int v1), some (.long (mj_J (m 92 (mj_I (m 87 v1.toNatClampNeg)).toNatClampNeg))), none, some (.long (mj_J (m 92 (mj_I (m 88 v1.toNatClampNeg)).toNatClampNeg))), none], [.long 0], (110, x), m)
            cases h
            exact mj_pret hC rfl hR
          · rw [if_neg c17] at h
            refine mj_gcp hC 4 ?_
            show P (mj_pick 173 169 ((lg_cmp (mj_J (m 92 (mj_I (m 88 v1.toNatClampNeg)).toNatClampNeg)) 0) = 0), [some (.ref 68), some (.int v1), some (.long (mj_J (m 92 (mj_I (m 87 v1.toNatClampNeg)).toNatClampNeg))), none, some (.long (mj_J (m 92 (mj_I (m 88 v1.toNatClampNeg)).toNatClampNeg))), none], [], (110, x), m)
            refine mj_pbr (fun c18 => ?_) (fun c18 => ?_)
            · rw [if_pos c18] at h
              refine mj_gcp hC 1 ?_
              show P (174, [some (.ref 68), some (.int v1), some (.long (mj_J (m 92 (mj_I (m 87 v1.toNatClampNeg)).toNatClampNeg))), none, some (.long (mj_J (m 92 (mj_I (m 88 v1.toNatClampNeg)).toNatClampNeg))), none], [.long 0], (110, x), m)
              cases h
              exact mj_pret hC rfl hR
            · rw [if_neg c18] at h
              refine mj_gcp hC 2 ?_
              show P (174, [some (.ref 68), some (.int v1), some (.long (mj_J (m 92 (mj_I (m 87 v1.toNatClampNeg)).toNatClampNeg))), none, some (.long (mj_J (m 92 (mj_I (m 88 v1.toNatClampNeg)).toNatClampNeg))), none], [.long 1], (110, x), m)
              cases h
              exact mj_pret hC rfl hR
        · rw [if_neg c16] at h
          refine mj_psw (fun c19 => ?_) (fun c19 => ?_)
          · rw [if_pos c19] at h
            refine mj_gcp hC 4 ?_
            show P (mj_pick 181 188 ((lg_cmp (mj_J (m 92 (mj_I (m 87 v1.toNatClampNeg)).toNatClampNeg)) 0) = 0), [some (.ref 68), some (.int v1), some (.long (mj_J (m 92 (mj_I (m 87 v1.toNatClampNeg)).toNatClampNeg))), none, some (.long (mj_J (m 92 (mj_I (m 88 v1.toNatClampNeg)).toNatClampNeg))), none], [], (110, x), m)
            refine mj_pbr (fun c20 => ?_) (fun c20 => ?_)
            · rw [if_pos c20] at h
              refine mj_gcp hC 4 ?_
              show P (mj_pick 192 188 ((lg_cmp (mj_J (m 92 (mj_I (m 88 v1.toNatClampNeg)).toNatClampNeg)) 0) = 0), [some (.ref 68), some (.int v1), some (.long (mj_J (m 92 (mj_I (m 87 v1.toNatClampNeg)).toNatClampNeg))), none, some (.long (mj_J (m 92 (mj_I (m 88 v1.toNatClampNeg)).toNatClampNeg))), none], [], (110, x), m)
              refine mj_pbr (fun c21 => ?_) (fun c21 => ?_)
              · rw [if_pos c21] at h
                refine mj_gcp hC 1 ?_
                show P (193, [some (.ref 68), some (.int v1), some (.long (mj_J (m 92 (mj_I (m 87 v1.toNatClampNeg)).toNatClampNeg))), none, some (.long (mj_J (m 92 (mj_I (m 88 v1.toNatClampNeg)).toNatClampNeg))), none], [.long 0], (110, x), m)
                cases h
                exact mj_pret hC rfl hR
              · rw [if_neg c21] at h
                refine mj_gcp hC 2 ?_
                show P (193, [some (.ref 68), some (.int v1), some (.long (mj_J (m 92 (mj_I (m 87 v1.toNatClampNeg)).toNatClampNeg))), none, some (.long (mj_J (m 92 (mj_I (m 88 v1.toNatClampNeg)).toNatClampNeg))), none], [.long 1], (110, x), m)
                cases h
                exact mj_pret hC rfl hR
            · rw [if_neg c20] at h
              refine mj_gcp hC 2 ?_
              show P (193, [some (.ref 68), some (.int v1), some (.long (mj_J (m 92 (mj_I (m 87 v1.toNatClampNeg)).toNatClampNeg))), none, some (.long (mj_J (m 92 (mj_I (m 88 v1.toNatClampNeg)).toNatClampNeg))), none], [.long 1], (110, x), m)
              cases h
              exact mj_pret hC rfl hR
          · rw [if_neg c19] at h
            refine mj_psw (fun c22 => ?_) (fun c22 => ?_)
            · rw [if_pos c22] at h
              exact mj_less hC (L0 := [some (.ref 68), some (.int v1), some (.long (mj_J (m 92 (mj_I (m 87 v1.toNatClampNeg)).toNatClampNeg))), none, some (.long (mj_J (m 92 (mj_I (m 88 v1.toNatClampNeg)).toNatClampNeg))), none]) (And.intro rfl (And.intro rfl (And.intro rfl (And.intro rfl trivial)))) (md_valueOf_j259_x hC hd h hR)
            · rw [if_neg c22] at h
              refine mj_psw (fun c25 => ?_) (fun c25 => ?_)
              · rw [if_pos c25] at h
                exact mj_less hC (L0 := [some (.ref 68), some (.int v1), some (.long (mj_J (m 92 (mj_I (m 87 v1.toNatClampNeg)).toNatClampNeg))), none, some (.long (mj_J (m 92 (mj_I (m 88 v1.toNatClampNeg)).toNatClampNeg))), none]) (And.intro rfl (And.intro rfl (And.intro rfl (And.intro rfl trivial)))) (md_valueOf_j259_x hC hd h hR)
              · rw [if_neg c25] at h
                refine mj_psw (fun c26 => ?_) (fun c26 => ?_)
                · rw [if_pos c26] at h
                  exact mj_less hC (L0 := [some (.ref 68), some (.int v1), some (.long (mj_J (m 92 (mj_I (m 87 v1.toNatClampNeg)).toNatClampNeg))), none, some (.long (mj_J (m 92 (mj_I (m 88 v1.toNatClampNeg)).toNatClampNeg))), none]) (And.intro rfl (And.intro rfl (And.intro rfl (And.intro rfl trivial)))) (md_valueOf_j259_x hC hd h hR)
                · rw [if_neg c26] at h
                  refine mj_psw (fun c27 => ?_) (fun c27 => ?_)
                  · rw [if_pos c27] at h
                    exact mj_less hC (L0 := [some (.ref 68), some (.int v1), some (.long (mj_J (m 92 (mj_I (m 87 v1.toNatClampNeg)).toNatClampNeg))), none, some (.long (mj_J (m 92 (mj_I (m 88 v1.toNatClampNeg)).toNatClampNeg))), none]) (And.intro rfl (And.intro rfl (And.intro rfl (And.intro rfl trivial)))) (md_valueOf_j259_x hC hd h hR)
                  · rw [if_neg c27] at h
                    refine mj_psw (fun c28 => ?_) (fun c28 => ?_)
                    · rw [if_pos c28] at h
                      exact mj_less hC (L0 := [some (.ref 68), some (.int v1), some (.long (mj_J (m 92 (mj_I (m 87 v1.toNatClampNeg)).toNatClampNeg))), none, some (.long (mj_J (m 92 (mj_I (m 88 v1.toNatClampNeg)).toNatClampNeg))), none]) (And.intro rfl (And.intro rfl (And.intro rfl (And.intro rfl trivial)))) (md_valueOf_j259_x hC hd h hR)
                    · rw [if_neg c28] at h
                      refine mj_psw (fun c29 => ?_) (fun c29 => ?_)
                      · rw [if_pos c29] at h
                        exact mj_less hC (L0 := [some (.ref 68), some (.int v1), some (.long (mj_J (m 92 (mj_I (m 87 v1.toNatClampNeg)).toNatClampNeg))), none, some (.long (mj_J (m 92 (mj_I (m 88 v1.toNatClampNeg)).toNatClampNeg))), none]) (And.intro rfl (And.intro rfl (And.intro rfl (And.intro rfl trivial)))) (md_valueOf_j259_x hC hd h hR)
                      · rw [if_neg c29] at h
                        refine mj_psw (fun c30 => ?_) (fun c30 => ?_)
                        · rw [if_pos c30] at h
                          refine mj_gcp hC 4 ?_
                          show P (199, [some (.ref 68), some (.int v1), some (.long (mj_J (m 92 (mj_I (m 87 v1.toNatClampNeg)).toNatClampNeg))), none, some (.long (mj_J (m 92 (mj_I (m 88 v1.toNatClampNeg)).toNatClampNeg))), none], [.long ((mj_J (m 92 (mj_I (m 87 v1.toNatClampNeg)).toNatClampNeg)) + (mj_J (m 92 (mj_I (m 88 v1.toNatClampNeg)).toNatClampNeg))), .ref 68], (110, x), m)
                          obtain ⟨q31, eq31, h⟩ := mj_bnd h
                          refine mj_pcall hC rfl (md_bounded_x (Nat.le_trans (by decide) hd) eq31) ?_
                          show P (202, [some (.ref 68), some (.int v1), some (.long (mj_J (m 92 (mj_I (m 87 v1.toNatClampNeg)).toNatClampNeg))), none, some (.long (mj_J (m 92 (mj_I (m 88 v1.toNatClampNeg)).toNatClampNeg))), none], [.long q31.1], (110, x), q31.2)
                          cases h
                          exact mj_pret hC rfl hR
                        · rw [if_neg c30] at h
                          refine mj_psw (fun c32 => ?_) (fun c32 => ?_)
                          · rw [if_pos c32] at h
                            refine mj_gcp hC 4 ?_
                            show P (208, [some (.ref 68), some (.int v1), some (.long (mj_J (m 92 (mj_I (m 87 v1.toNatClampNeg)).toNatClampNeg))), none, some (.long (mj_J (m 92 (mj_I (m 88 v1.toNatClampNeg)).toNatClampNeg))), none], [.long ((mj_J (m 92 (mj_I (m 87 v1.toNatClampNeg)).toNatClampNeg)) - (mj_J (m 92 (mj_I (m 88 v1.toNatClampNeg)).toNatClampNeg))), .ref 68], (110, x), m)
                            obtain ⟨q33, eq33, h⟩ := mj_bnd h
                            refine mj_pcall hC rfl (md_bounded_x (Nat.le_trans (by decide) hd) eq33) ?_
                            show P (211, [some (.ref 68), some (.int v1), some (.long (mj_J (m 92 (mj_I (m 87 v1.toNatClampNeg)).toNatClampNeg))), none, some (.long (mj_J (m 92 (mj_I (m 88 v1.toNatClampNeg)).toNatClampNeg))), none], [.long q33.1], (110, x), q33.2)
                            cases h
                            exact mj_pret hC rfl hR
                          · rw [if_neg c32] at h
                            refine mj_psw (fun c34 => ?_) (fun c34 => ?_)
                            · rw [if_pos c34] at h
                              refine mj_gcp hC 3 ?_
                              show P (216, [some (.ref 68), some (.int v1), some (.long (mj_J (m 92 (mj_I (m 87 v1.toNatClampNeg)).toNatClampNeg))), none, some (.long (mj_J (m 92 (mj_I (m 88 v1.toNatClampNeg)).toNatClampNeg))), none], [.long (mj_J (m 92 (mj_I (m 88 v1.toNatClampNeg)).toNatClampNeg)), .long (mj_J (m 92 (mj_I (m 87 v1.toNatClampNeg)).toNatClampNeg)), .ref 68], (110, x), m)
                              obtain ⟨q35, eq35, h⟩ := mj_bnd h
                              refine mj_pcall hC rfl (md_times_x (Nat.le_trans (by decide) hd) eq35) ?_
                              show P (219, [some (.ref 68), some (.int v1), some (.long (mj_J (m 92 (mj_I (m 87 v1.toNatClampNeg)).toNatClampNeg))), none, some (.long (mj_J (m 92 (mj_I (m 88 v1.toNatClampNeg)).toNatClampNeg))), none], [.long q35.1], (110, x), q35.2)
                              cases h
                              exact mj_pret hC rfl hR
                            · rw [if_neg c34] at h
                              refine mj_psw (fun c36 => ?_) (fun c36 => ?_)
                              · rw [if_pos c36] at h
                                refine mj_gcp hC 4 ?_
                                show P (mj_pick 228 235 ((mj_I (m 68 50)) = 0), [some (.ref 68), some (.int v1), some (.long (mj_J (m 92 (mj_I (m 87 v1.toNatClampNeg)).toNatClampNeg))), none, some (.long (mj_J (m 92 (mj_I (m 88 v1.toNatClampNeg)).toNatClampNeg))), none], [.ref 68], (110, x), m)
                                refine mj_pbr (fun c37 => ?_) (fun c37 => ?_)
                                · rw [if_pos c37] at h
                                  refine mj_gcp hC 4 ?_
                                  show P (mj_pick 235 239 ((lg_cmp (mj_J (m 92 (mj_I (m 88 v1.toNatClampNeg)).toNatClampNeg)) 0) = 0), [some (.ref 68), some (.int v1), some (.long (mj_J (m 92 (mj_I (m 87 v1.toNatClampNeg)).toNatClampNeg))), none, some (.long (mj_J (m 92 (mj_I (m 88 v1.toNatClampNeg)).toNatClampNeg))), none], [.ref 68], (110, x), m)
                                  refine mj_pbr (fun c38 => ?_) (fun c38 => ?_)
                                  · rw [if_pos c38] at h
                                    exact mj_less hC (L0 := [some (.ref 68), none, some (.long (mj_J (m 92 (mj_I (m 87 v1.toNatClampNeg)).toNatClampNeg))), none, some (.long (mj_J (m 92 (mj_I (m 88 v1.toNatClampNeg)).toNatClampNeg))), none]) (And.intro rfl (And.intro rfl (And.intro rfl trivial))) (md_valueOf_j235_x hC hd h hR)
                                  · rw [if_neg c38] at h
                                    refine mj_gcp hC 1 ?_
                                    show P (240, [some (.ref 68), some (.int v1), some (.long (mj_J (m 92 (mj_I (m 87 v1.toNatClampNeg)).toNatClampNeg))), none, some (.long (mj_J (m 92 (mj_I (m 88 v1.toNatClampNeg)).toNatClampNeg))), none], [.int 0, .ref 68], (110, x), m)
                                    exact mj_less hC (L0 := [some (.ref 68), none, some (.long (mj_J (m 92 (mj_I (m 87 v1.toNatClampNeg)).toNatClampNeg))), none, some (.long (mj_J (m 92 (mj_I (m 88 v1.toNatClampNeg)).toNatClampNeg))), none]) (And.intro rfl (And.intro rfl (And.intro rfl trivial))) (md_valueOf_j240_x hC hd h hR)
                                · rw [if_neg c37] at h
                                  exact mj_less hC (L0 := [some (.ref 68), none, some (.long (mj_J (m 92 (mj_I (m 87 v1.toNatClampNeg)).toNatClampNeg))), none, some (.long (mj_J (m 92 (mj_I (m 88 v1.toNatClampNeg)).toNatClampNeg))), none]) (And.intro rfl (And.intro rfl (And.intro rfl trivial))) (md_valueOf_j235_x hC hd h hR)
                              · rw [if_neg c36] at h
                                show P (259, [some (.ref 68), some (.int v1), some (.long (mj_J (m 92 (mj_I (m 87 v1.toNatClampNeg)).toNatClampNeg))), none, some (.long (mj_J (m 92 (mj_I (m 88 v1.toNatClampNeg)).toNatClampNeg))), none], [], (110, x), m)
                                exact mj_less hC (L0 := [some (.ref 68), some (.int v1), some (.long (mj_J (m 92 (mj_I (m 87 v1.toNatClampNeg)).toNatClampNeg))), none, some (.long (mj_J (m 92 (mj_I (m 88 v1.toNatClampNeg)).toNatClampNeg))), none]) (And.intro rfl (And.intro rfl (And.intro rfl (And.intro rfl trivial)))) (md_valueOf_j259_x hC hd h hR)
set_option maxRecDepth 20000 in
theorem md_valueOf_x {Ls tp ip x d : Nat} {Z : mj_X} (hd : 2 ≤ d) {v1 : Int32} {m : mj_M} {r : (Int64 × mj_M)} (h : md_valueOf v1 m = some r) : mj_Ex false (mj_sh Ls) (mj_rf tp ip) Z d 196 [.ref 68, .int v1] (110, x) m (some (.long r.1)) (110, x) r.2 := by
  exact mj_Ex_of (cd := mj_cd_196) (L := [some (.ref 68), some (.int v1), none, none, none, none]) (by omega) (by decide) rfl (Nat.le_of_ble_eq_true rfl) rfl (fun P hC => md_valueOf_p hC (by omega) h ⟨rfl, rfl, rfl⟩)
def md_atFirst_l2  (v1 : Int32) (s2 : (Int32 × mj_M)) : Option (Nat × (Int32 × mj_M)) :=
  (if 8 ≤ s2.1 then some (1, (s2.1, s2.2)) else
  (if s2.1 < 0 ∨ 16 ≤ (s2.1 : Int32).toNatClampNeg then none else
  (if (((8 : Int32) * v1) + s2.1) < 0 ∨ 16 ≤ ((((8 : Int32) * v1) + s2.1) : Int32).toNatClampNeg then none else
  (if (((8 : Int32) * v1) + s2.1) < 0 ∨ 16 ≤ ((((8 : Int32) * v1) + s2.1) : Int32).toNatClampNeg then none else
  some (0, ((s2.1 + 1), (mj_up (mj_up s2.2 93 (((8 : Int32) * v1) + s2.1).toNatClampNeg (.int (mj_I (s2.2 79 s2.1.toNatClampNeg)))) 94 (((8 : Int32) * v1) + s2.1).toNatClampNeg (.int (-1)))))))))
def md_atFirst_l45  (v1 : Int32) (s45 : (Int32 × mj_M)) : Option (Nat × (Int32 × mj_M)) :=
  (if 6 ≤ s45.1 then some (1, (s45.1, s45.2)) else
  (if (((6 : Int32) * v1) + s45.1) < 0 ∨ 12 ≤ ((((6 : Int32) * v1) + s45.1) : Int32).toNatClampNeg then none else
  (if (((6 : Int32) * v1) + s45.1) < 0 ∨ 12 ≤ ((((6 : Int32) * v1) + s45.1) : Int32).toNatClampNeg then none else
  (if (((6 : Int32) * v1) + s45.1) < 0 ∨ 12 ≤ ((((6 : Int32) * v1) + s45.1) : Int32).toNatClampNeg then none else
  some (0, ((s45.1 + 1), (mj_up (mj_up (mj_up s45.2 95 (((6 : Int32) * v1) + s45.1).toNatClampNeg (.int 0)) 96 (((6 : Int32) * v1) + s45.1).toNatClampNeg (.int 0)) 97 (((6 : Int32) * v1) + s45.1).toNatClampNeg (.int (1 &&& 1)))))))))
def md_atFirst  (v1 : Int32) (m : mj_M) : Option mj_M :=
  (mj_loop (md_atFirst_l2 v1) mj_F (0, m)).bind fun q5 =>
  (mj_loop (md_atFirst_l45 v1) mj_F (0, q5.2.2)).bind fun q10 =>
  (if v1 < 0 ∨ 2 ≤ (v1 : Int32).toNatClampNeg then none else
  (if v1 < 0 ∨ 2 ≤ (v1 : Int32).toNatClampNeg then none else
  (if v1 < 0 ∨ 2 ≤ (v1 : Int32).toNatClampNeg then none else
  some (mj_up (mj_up (mj_up q10.2.2 98 v1.toNatClampNeg (.int (mj_I (q10.2.2 72 (0 : Int32).toNatClampNeg)))) 99 v1.toNatClampNeg (.int 0)) 100 v1.toNatClampNeg (.int 0)))))
set_option maxRecDepth 20000 in
theorem md_atFirst_l2_x {Ls tp ip x d : Nat} {Z : mj_X} {R : Option Value → mj_G → mj_M → Prop} {P : mj_K → Prop} (hC : mj_cls false (mj_sh Ls) (mj_rf tp ip) mj_dv mj_cd_198 (mj_Ex false (mj_sh Ls) (mj_rf tp ip) Z d) R P) (hd : 0 ≤ d) {v1 : Int32} (s2 : (Int32 × mj_M)) {t : Nat} {w : (Int32 × mj_M)} (h : md_atFirst_l2 v1 s2 = some (t, w)) (h0 : t = 0 → P (2, [some (.ref 68), some (.int v1), some (.int w.1)], [], (110, x), w.2)) (h1 : t = 1 → P (43, [some (.ref 68), some (.int v1), none], [], (110, x), w.2)) : P (2, [some (.ref 68), some (.int v1), some (.int s2.1)], [], (110, x), s2.2) := by
  unfold md_atFirst_l2 at h
  refine mj_gcp hC 3 ?_
  show P (mj_pick 43 8 (8 ≤ s2.1), [some (.ref 68), some (.int v1), some (.int s2.1)], [], (110, x), s2.2)
  refine mj_pbr (fun c1 => ?_) (fun c1 => ?_)
  · rw [if_pos c1] at h
    cases h
    exact mj_less hC (L0 := [some (.ref 68), some (.int v1), none]) (And.intro rfl (And.intro rfl trivial)) (h1 rfl)
  · rw [if_neg c1] at h
    obtain ⟨k2, h⟩ := mj_ifn h
    obtain ⟨k3, h⟩ := mj_ifn h
    obtain ⟨k4, h⟩ := mj_ifn h
    refine mj_gcp hC 23 ?_
    show _ ∧ (_ ∧ (_ ∧ (P (2, [some (.ref 68), some (.int v1), some (.int (s2.1 + 1))], [], (110, x), (mj_up (mj_up s2.2 93 (((8 : Int32) * v1) + s2.1).toNatClampNeg (.int (mj_I (s2.2 79 s2.1.toNatClampNeg)))) 94 (((8 : Int32) * v1) + s2.1).toNatClampNeg (.int (-1)))))))
    refine And.intro k2 (And.intro k3 (And.intro k4 (?_)))
    cases h
    exact mj_less hC (L0 := [some (.ref 68), some (.int v1), some (.int (s2.1 + 1))]) (And.intro rfl (And.intro rfl (And.intro rfl trivial))) (h0 rfl)
set_option maxRecDepth 20000 in
theorem md_atFirst_l45_x {Ls tp ip x d : Nat} {Z : mj_X} {R : Option Value → mj_G → mj_M → Prop} {P : mj_K → Prop} (hC : mj_cls false (mj_sh Ls) (mj_rf tp ip) mj_dv mj_cd_198 (mj_Ex false (mj_sh Ls) (mj_rf tp ip) Z d) R P) (hd : 0 ≤ d) {v1 : Int32} (s45 : (Int32 × mj_M)) {t : Nat} {w : (Int32 × mj_M)} (h : md_atFirst_l45 v1 s45 = some (t, w)) (h0 : t = 0 → P (45, [some (.ref 68), some (.int v1), some (.int w.1)], [], (110, x), w.2)) (h1 : t = 1 → P (93, [some (.ref 68), some (.int v1), none], [], (110, x), w.2)) : P (45, [some (.ref 68), some (.int v1), some (.int s45.1)], [], (110, x), s45.2) := by
  unfold md_atFirst_l45 at h
  refine mj_gcp hC 3 ?_
  show P (mj_pick 93 51 (6 ≤ s45.1), [some (.ref 68), some (.int v1), some (.int s45.1)], [], (110, x), s45.2)
  refine mj_pbr (fun c6 => ?_) (fun c6 => ?_)
  · rw [if_pos c6] at h
    cases h
    exact mj_less hC (L0 := [some (.ref 68), some (.int v1), none]) (And.intro rfl (And.intro rfl trivial)) (h1 rfl)
  · rw [if_neg c6] at h
    obtain ⟨k7, h⟩ := mj_ifn h
    obtain ⟨k8, h⟩ := mj_ifn h
    obtain ⟨k9, h⟩ := mj_ifn h
    refine mj_gcp hC 29 ?_
    show _ ∧ (_ ∧ (_ ∧ (P (45, [some (.ref 68), some (.int v1), some (.int (s45.1 + 1))], [], (110, x), (mj_up (mj_up (mj_up s45.2 95 (((6 : Int32) * v1) + s45.1).toNatClampNeg (.int 0)) 96 (((6 : Int32) * v1) + s45.1).toNatClampNeg (.int 0)) 97 (((6 : Int32) * v1) + s45.1).toNatClampNeg (.int (1 &&& 1)))))))
    refine And.intro k7 (And.intro k8 (And.intro k9 (?_)))
    cases h
    exact mj_less hC (L0 := [some (.ref 68), some (.int v1), some (.int (s45.1 + 1))]) (And.intro rfl (And.intro rfl (And.intro rfl trivial))) (h0 rfl)
set_option maxRecDepth 20000 in
theorem md_atFirst_p {Ls tp ip x d : Nat} {Z : mj_X} {R : Option Value → mj_G → mj_M → Prop} {P : mj_K → Prop} (hC : mj_cls false (mj_sh Ls) (mj_rf tp ip) mj_dv mj_cd_198 (mj_Ex false (mj_sh Ls) (mj_rf tp ip) Z d) R P) (hd : 0 ≤ d) {v1 : Int32} {m : mj_M} {r : mj_M} (h : md_atFirst v1 m = some r) (hR : R none (110, x) r) : P (0, [some (.ref 68), some (.int v1), none], [], (110, x), m) := by
  unfold md_atFirst at h
  refine mj_gcp hC 2 ?_
  show P (2, [some (.ref 68), some (.int v1), some (.int 0)], [], (110, x), m)
  obtain ⟨q5, eq5, h⟩ := mj_bnd h
  refine mj_less hC (L0 := [some (.ref 68), some (.int v1), some (.int 0)]) (And.intro rfl (And.intro rfl (And.intro rfl trivial))) ?_
  refine mj_loop_P (A := fun z2 => P (2, [some (.ref 68), some (.int v1), some (.int z2.1)], [], (110, x), z2.2)) (E := fun _ z2 => P (43, [some (.ref 68), some (.int v1), none], [], (110, x), z2.2)) (fun zz t w hb h0 h1 => md_atFirst_l2_x hC hd zz hb h0 (fun ht => h1 0 ht)) mj_F _ q5 eq5 ?_
  refine mj_gcp hC 2 ?_
  show P (45, [some (.ref 68), some (.int v1), some (.int 0)], [], (110, x), q5.2.2)
  obtain ⟨q10, eq10, h⟩ := mj_bnd h
  refine mj_less hC (L0 := [some (.ref 68), some (.int v1), some (.int 0)]) (And.intro rfl (And.intro rfl (And.intro rfl trivial))) ?_
  refine mj_loop_P (A := fun z45 => P (45, [some (.ref 68), some (.int v1), some (.int z45.1)], [], (110, x), z45.2)) (E := fun _ z45 => P (93, [some (.ref 68), some (.int v1), none], [], (110, x), z45.2)) (fun zz t w hb h0 h1 => md_atFirst_l45_x hC hd zz hb h0 (fun ht => h1 0 ht)) mj_F _ q10 eq10 ?_
  obtain ⟨k11, h⟩ := mj_ifn h
  obtain ⟨k12, h⟩ := mj_ifn h
  obtain ⟨k13, h⟩ := mj_ifn h
  refine mj_gcp hC 18 ?_
  show _ ∧ (_ ∧ (_ ∧ (_ ∧ (P (119, [some (.ref 68), some (.int v1), none], [], (110, x), (mj_up (mj_up (mj_up q10.2.2 98 v1.toNatClampNeg (.int (mj_I (q10.2.2 72 (0 : Int32).toNatClampNeg)))) 99 v1.toNatClampNeg (.int 0)) 100 v1.toNatClampNeg (.int 0)))))))
  refine And.intro (show ¬ ((0 : Int32) < 0 ∨ 6 ≤ (0 : Int32).toNatClampNeg) by decide) (And.intro k11 (And.intro k12 (And.intro k13 (?_))))
  cases h
  exact mj_pret hC rfl hR
set_option maxRecDepth 20000 in
theorem md_atFirst_x {Ls tp ip x d : Nat} {Z : mj_X} (hd : 1 ≤ d) {v1 : Int32} {m : mj_M} {r : mj_M} (h : md_atFirst v1 m = some r) : mj_Ex false (mj_sh Ls) (mj_rf tp ip) Z d 198 [.ref 68, .int v1] (110, x) m none (110, x) r := by
  exact mj_Ex_of (cd := mj_cd_198) (L := [some (.ref 68), some (.int v1), none]) (by omega) (by decide) rfl (Nat.le_of_ble_eq_true rfl) rfl (fun P hC => md_atFirst_p hC (by omega) h ⟨rfl, rfl, rfl⟩)
def md_plainTried   (m : mj_M) : Option mj_M :=
  some (mj_up (mj_up (mj_up (mj_up (mj_up (mj_up m 68 63 (.int 0)) 68 64 (.int 0)) 68 65 (.int 0)) 68 66 (.int 0)) 68 67 (.int (-1))) 68 68 (.int 0))
set_option maxRecDepth 20000 in
theorem md_plainTried_p {Ls tp ip x d : Nat} {Z : mj_X} {R : Option Value → mj_G → mj_M → Prop} {P : mj_K → Prop} (hC : mj_cls false (mj_sh Ls) (mj_rf tp ip) mj_dv mj_cd_199 (mj_Ex false (mj_sh Ls) (mj_rf tp ip) Z d) R P) (hd : 0 ≤ d)  {m : mj_M} {r : mj_M} (h : md_plainTried m = some r) (hR : R none (110, x) r) : P (0, [some (.ref 68)], [], (110, x), m) := by
  unfold md_plainTried at h
  refine mj_gcp hC 18 ?_
  show P (30, [some (.ref 68)], [], (110, x), (mj_up (mj_up (mj_up (mj_up (mj_up (mj_up m 68 63 (.int 0)) 68 64 (.int 0)) 68 65 (.int 0)) 68 66 (.int 0)) 68 67 (.int (-1))) 68 68 (.int 0)))
  cases h
  exact mj_pret hC rfl hR
set_option maxRecDepth 20000 in
theorem md_plainTried_x {Ls tp ip x d : Nat} {Z : mj_X} (hd : 1 ≤ d)  {m : mj_M} {r : mj_M} (h : md_plainTried m = some r) : mj_Ex false (mj_sh Ls) (mj_rf tp ip) Z d 199 [.ref 68] (110, x) m none (110, x) r := by
  exact mj_Ex_of (cd := mj_cd_199) (L := [some (.ref 68)]) (by omega) (by decide) rfl (Nat.le_of_ble_eq_true rfl) rfl (fun P hC => md_plainTried_p hC (by omega) h ⟨rfl, rfl, rfl⟩)
def md_layTried_l2   (s2 : (Int32 × mj_M)) : Option (Nat × (Int32 × mj_M)) :=
  (if 8 ≤ s2.1 then some (1, (s2.1, s2.2)) else
  (if s2.1 < 0 ∨ 16 ≤ (s2.1 : Int32).toNatClampNeg then none else
  (if ((8 : Int32) + s2.1) < 0 ∨ 16 ≤ (((8 : Int32) + s2.1) : Int32).toNatClampNeg then none else
  (if s2.1 < 0 ∨ 16 ≤ (s2.1 : Int32).toNatClampNeg then none else
  (if ((8 : Int32) + s2.1) < 0 ∨ 16 ≤ (((8 : Int32) + s2.1) : Int32).toNatClampNeg then none else
  some (0, ((s2.1 + 1), (mj_up (mj_up s2.2 93 ((8 : Int32) + s2.1).toNatClampNeg (.int (mj_I (s2.2 93 s2.1.toNatClampNeg)))) 94 ((8 : Int32) + s2.1).toNatClampNeg (.int (mj_I (s2.2 94 s2.1.toNatClampNeg)))))))))))
def md_layTried_l46   (s46 : (Int32 × mj_M)) : Option (Nat × (Int32 × mj_M)) :=
  (if 6 ≤ s46.1 then some (1, (s46.1, s46.2)) else
  (if s46.1 < 0 ∨ 12 ≤ (s46.1 : Int32).toNatClampNeg then none else
  (if ((6 : Int32) + s46.1) < 0 ∨ 12 ≤ (((6 : Int32) + s46.1) : Int32).toNatClampNeg then none else
  (if s46.1 < 0 ∨ 12 ≤ (s46.1 : Int32).toNatClampNeg then none else
  (if ((6 : Int32) + s46.1) < 0 ∨ 12 ≤ (((6 : Int32) + s46.1) : Int32).toNatClampNeg then none else
  (if s46.1 < 0 ∨ 12 ≤ (s46.1 : Int32).toNatClampNeg then none else
  (if ((6 : Int32) + s46.1) < 0 ∨ 12 ≤ (((6 : Int32) + s46.1) : Int32).toNatClampNeg then none else
  some (0, ((s46.1 + 1), (mj_up (mj_up (mj_up s46.2 95 ((6 : Int32) + s46.1).toNatClampNeg (.int (mj_I (s46.2 95 s46.1.toNatClampNeg)))) 96 ((6 : Int32) + s46.1).toNatClampNeg (.int (mj_I (s46.2 96 s46.1.toNatClampNeg)))) 97 ((6 : Int32) + s46.1).toNatClampNeg (.int ((mj_I (s46.2 97 s46.1.toNatClampNeg)) &&& 1))))))))))))
def md_layTried   (m : mj_M) : Option mj_M :=
  (mj_loop (md_layTried_l2) mj_F (0, m)).bind fun q6 =>
  (mj_loop (md_layTried_l46) mj_F (0, q6.2.2)).bind fun q14 =>
  (md_plainTried (mj_up (mj_up (mj_up q14.2.2 98 (1 : Int32).toNatClampNeg (.int (mj_I (q14.2.2 98 (0 : Int32).toNatClampNeg)))) 99 (1 : Int32).toNatClampNeg (.int (mj_I (q14.2.2 99 (0 : Int32).toNatClampNeg)))) 100 (1 : Int32).toNatClampNeg (.int (mj_I (q14.2.2 100 (0 : Int32).toNatClampNeg))))).bind fun q15 =>
  some q15
set_option maxRecDepth 20000 in
theorem md_layTried_l2_x {Ls tp ip x d : Nat} {Z : mj_X} {R : Option Value → mj_G → mj_M → Prop} {P : mj_K → Prop} (hC : mj_cls false (mj_sh Ls) (mj_rf tp ip) mj_dv mj_cd_200 (mj_Ex false (mj_sh Ls) (mj_rf tp ip) Z d) R P) (hd : 1 ≤ d)  (s2 : (Int32 × mj_M)) {t : Nat} {w : (Int32 × mj_M)} (h : md_layTried_l2 s2 = some (t, w)) (h0 : t = 0 → P (2, [some (.ref 68), some (.int w.1)], [], (110, x), w.2)) (h1 : t = 1 → P (44, [some (.ref 68), none], [], (110, x), w.2)) : P (2, [some (.ref 68), some (.int s2.1)], [], (110, x), s2.2) := by
  unfold md_layTried_l2 at h
  refine mj_gcp hC 3 ?_
  show P (mj_pick 44 8 (8 ≤ s2.1), [some (.ref 68), some (.int s2.1)], [], (110, x), s2.2)
  refine mj_pbr (fun c1 => ?_) (fun c1 => ?_)
  · rw [if_pos c1] at h
    cases h
    exact mj_less hC (L0 := [some (.ref 68), none]) (And.intro rfl trivial) (h1 rfl)
  · rw [if_neg c1] at h
    obtain ⟨k2, h⟩ := mj_ifn h
    obtain ⟨k3, h⟩ := mj_ifn h
    obtain ⟨k4, h⟩ := mj_ifn h
    obtain ⟨k5, h⟩ := mj_ifn h
    refine mj_gcp hC 22 ?_
    show _ ∧ (_ ∧ (_ ∧ (_ ∧ (P (2, [some (.ref 68), some (.int (s2.1 + 1))], [], (110, x), (mj_up (mj_up s2.2 93 ((8 : Int32) + s2.1).toNatClampNeg (.int (mj_I (s2.2 93 s2.1.toNatClampNeg)))) 94 ((8 : Int32) + s2.1).toNatClampNeg (.int (mj_I (s2.2 94 s2.1.toNatClampNeg)))))))))
    refine And.intro k2 (And.intro k3 (And.intro k4 (And.intro k5 (?_))))
    cases h
    exact mj_less hC (L0 := [some (.ref 68), some (.int (s2.1 + 1))]) (And.intro rfl (And.intro rfl trivial)) (h0 rfl)
set_option maxRecDepth 20000 in
theorem md_layTried_l46_x {Ls tp ip x d : Nat} {Z : mj_X} {R : Option Value → mj_G → mj_M → Prop} {P : mj_K → Prop} (hC : mj_cls false (mj_sh Ls) (mj_rf tp ip) mj_dv mj_cd_200 (mj_Ex false (mj_sh Ls) (mj_rf tp ip) Z d) R P) (hd : 1 ≤ d)  (s46 : (Int32 × mj_M)) {t : Nat} {w : (Int32 × mj_M)} (h : md_layTried_l46 s46 = some (t, w)) (h0 : t = 0 → P (46, [some (.ref 68), some (.int w.1)], [], (110, x), w.2)) (h1 : t = 1 → P (103, [some (.ref 68), none], [], (110, x), w.2)) : P (46, [some (.ref 68), some (.int s46.1)], [], (110, x), s46.2) := by
  unfold md_layTried_l46 at h
  refine mj_gcp hC 3 ?_
  show P (mj_pick 103 52 (6 ≤ s46.1), [some (.ref 68), some (.int s46.1)], [], (110, x), s46.2)
  refine mj_pbr (fun c7 => ?_) (fun c7 => ?_)
  · rw [if_pos c7] at h
    cases h
    exact mj_less hC (L0 := [some (.ref 68), none]) (And.intro rfl trivial) (h1 rfl)
  · rw [if_neg c7] at h
    obtain ⟨k8, h⟩ := mj_ifn h
    obtain ⟨k9, h⟩ := mj_ifn h
    obtain ⟨k10, h⟩ := mj_ifn h
    obtain ⟨k11, h⟩ := mj_ifn h
    obtain ⟨k12, h⟩ := mj_ifn h
    obtain ⟨k13, h⟩ := mj_ifn h
    refine mj_gcp hC 32 ?_
    show _ ∧ (_ ∧ (_ ∧ (_ ∧ (_ ∧ (_ ∧ (P (46, [some (.ref 68), some (.int (s46.1 + 1))], [], (110, x), (mj_up (mj_up (mj_up s46.2 95 ((6 : Int32) + s46.1).toNatClampNeg (.int (mj_I (s46.2 95 s46.1.toNatClampNeg)))) 96 ((6 : Int32) + s46.1).toNatClampNeg (.int (mj_I (s46.2 96 s46.1.toNatClampNeg)))) 97 ((6 : Int32) + s46.1).toNatClampNeg (.int ((mj_I (s46.2 97 s46.1.toNatClampNeg)) &&& 1))))))))))
    refine And.intro k8 (And.intro k9 (And.intro k10 (And.intro k11 (And.intro k12 (And.intro k13 (?_))))))
    cases h
    exact mj_less hC (L0 := [some (.ref 68), some (.int (s46.1 + 1))]) (And.intro rfl (And.intro rfl trivial)) (h0 rfl)
set_option maxRecDepth 20000 in
theorem md_layTried_p {Ls tp ip x d : Nat} {Z : mj_X} {R : Option Value → mj_G → mj_M → Prop} {P : mj_K → Prop} (hC : mj_cls false (mj_sh Ls) (mj_rf tp ip) mj_dv mj_cd_200 (mj_Ex false (mj_sh Ls) (mj_rf tp ip) Z d) R P) (hd : 1 ≤ d)  {m : mj_M} {r : mj_M} (h : md_layTried m = some r) (hR : R none (110, x) r) : P (0, [some (.ref 68), none], [], (110, x), m) := by
  unfold md_layTried at h
  refine mj_gcp hC 2 ?_
  show P (2, [some (.ref 68), some (.int 0)], [], (110, x), m)
  obtain ⟨q6, eq6, h⟩ := mj_bnd h
  refine mj_less hC (L0 := [some (.ref 68), some (.int 0)]) (And.intro rfl (And.intro rfl trivial)) ?_
  refine mj_loop_P (A := fun z2 => P (2, [some (.ref 68), some (.int z2.1)], [], (110, x), z2.2)) (E := fun _ z2 => P (44, [some (.ref 68), none], [], (110, x), z2.2)) (fun zz t w hb h0 h1 => md_layTried_l2_x hC hd zz hb h0 (fun ht => h1 0 ht)) mj_F _ q6 eq6 ?_
  refine mj_gcp hC 2 ?_
  show P (46, [some (.ref 68), some (.int 0)], [], (110, x), q6.2.2)
  obtain ⟨q14, eq14, h⟩ := mj_bnd h
  refine mj_less hC (L0 := [some (.ref 68), some (.int 0)]) (And.intro rfl (And.intro rfl trivial)) ?_
  refine mj_loop_P (A := fun z46 => P (46, [some (.ref 68), some (.int z46.1)], [], (110, x), z46.2)) (E := fun _ z46 => P (103, [some (.ref 68), none], [], (110, x), z46.2)) (fun zz t w hb h0 h1 => md_layTried_l46_x hC hd zz hb h0 (fun ht => h1 0 ht)) mj_F _ q14 eq14 ?_
  refine mj_gcp hC 25 ?_
  show _ ∧ (_ ∧ (_ ∧ (_ ∧ (_ ∧ (_ ∧ (P (140, [some (.ref 68), none], [.ref 68], (110, x), (mj_up (mj_up (mj_up q14.2.2 98 (1 : Int32).toNatClampNeg (.int (mj_I (q14.2.2 98 (0 : Int32).toNatClampNeg)))) 99 (1 : Int32).toNatClampNeg (.int (mj_I (q14.2.2 99 (0 : Int32).toNatClampNeg)))) 100 (1 : Int32).toNatClampNeg (.int (mj_I (q14.2.2 100 (0 : Int32).toNatClampNeg)))))))))))
  refine And.intro (show ¬ ((0 : Int32) < 0 ∨ 2 ≤ (0 : Int32).toNatClampNeg) by decide) (And.intro (show ¬ ((1 : Int32) < 0 ∨ 2 ≤ (1 : Int32).toNatClampNeg) by decide) (And.intro (show ¬ ((0 : Int32) < 0 ∨ 2 ≤ (0 : Int32).toNatClampNeg) by decide) (And.intro (show ¬ ((1 : Int32) < 0 ∨ 2 ≤ (1 : Int32).toNatClampNeg) by decide) (And.intro (show ¬ ((0 : Int32) < 0 ∨ 2 ≤ (0 : Int32).toNatClampNeg) by decide) (And.intro (show ¬ ((1 : Int32) < 0 ∨ 2 ≤ (1 : Int32).toNatClampNeg) by decide) (?_))))))
  obtain ⟨q15, eq15, h⟩ := mj_bnd h
  refine mj_pcall hC rfl (md_plainTried_x (Nat.le_trans (by decide) hd) eq15) ?_
  show P (143, [some (.ref 68), none], [], (110, x), q15)
  cases h
  exact mj_pret hC rfl hR
set_option maxRecDepth 20000 in
theorem md_layTried_x {Ls tp ip x d : Nat} {Z : mj_X} (hd : 2 ≤ d)  {m : mj_M} {r : mj_M} (h : md_layTried m = some r) : mj_Ex false (mj_sh Ls) (mj_rf tp ip) Z d 200 [.ref 68] (110, x) m none (110, x) r := by
  exact mj_Ex_of (cd := mj_cd_200) (L := [some (.ref 68), none]) (by omega) (by decide) rfl (Nat.le_of_ble_eq_true rfl) rfl (fun P hC => md_layTried_p hC (by omega) h ⟨rfl, rfl, rfl⟩)
def md_isMan  (v1 : Int32) (m : mj_M) : Int32 :=
  (if v1 < 0 then 0 else
  (if (mj_I (m 68 12)) ≤ v1 then 0 else
  1))
set_option maxRecDepth 20000 in
theorem md_isMan_p {Ls tp ip x d : Nat} {Z : mj_X} {R : Option Value → mj_G → mj_M → Prop} {P : mj_K → Prop} (hC : mj_cls false (mj_sh Ls) (mj_rf tp ip) mj_dv mj_cd_201 (mj_Ex false (mj_sh Ls) (mj_rf tp ip) Z d) R P) (hd : 0 ≤ d) {v1 : Int32} {m : mj_M} (hR : R (some (.int (md_isMan v1 m))) (110, x) m) : P (0, [some (.ref 68), some (.int v1)], [], (110, x), m) := by
  unfold md_isMan at hR
  refine mj_gcp hC 2 ?_
  show P (mj_pick 16 4 (v1 < 0), [some (.ref 68), some (.int v1)], [], (110, x), m)
  refine mj_pbr (fun c1 => ?_) (fun c1 => ?_)
  · rw [if_pos c1] at hR
    refine mj_gcp hC 1 ?_
    show P (17, [some (.ref 68), some (.int v1)], [.int 0], (110, x), m)
    exact mj_pret hC rfl hR
  · rw [if_neg c1] at hR
    refine mj_gcp hC 4 ?_
    show P (mj_pick 16 12 ((mj_I (m 68 12)) ≤ v1), [some (.ref 68), some (.int v1)], [], (110, x), m)
    refine mj_pbr (fun c2 => ?_) (fun c2 => ?_)
    · rw [if_pos c2] at hR
      refine mj_gcp hC 1 ?_
      show P (17, [some (.ref 68), some (.int v1)], [.int 0], (110, x), m)
      exact mj_pret hC rfl hR
    · rw [if_neg c2] at hR
      refine mj_gcp hC 2 ?_
      show P (17, [some (.ref 68), some (.int v1)], [.int 1], (110, x), m)
      exact mj_pret hC rfl hR
set_option maxRecDepth 20000 in
theorem md_isMan_x {Ls tp ip x d : Nat} {Z : mj_X} (hd : 1 ≤ d) {v1 : Int32} {m : mj_M}  : mj_Ex false (mj_sh Ls) (mj_rf tp ip) Z d 201 [.ref 68, .int v1] (110, x) m (some (.int (md_isMan v1 m))) (110, x) m := by
  exact mj_Ex_of (cd := mj_cd_201) (L := [some (.ref 68), some (.int v1)]) (by omega) (by decide) rfl (Nat.le_of_ble_eq_true rfl) rfl (fun P hC => md_isMan_p hC (by omega) ⟨rfl, rfl, rfl⟩)
def md_isWork  (v1 : Int32) (m : mj_M) : Int32 :=
  (if v1 < 0 then 0 else
  (if (mj_I (m 68 14)) ≤ v1 then 0 else
  1))
set_option maxRecDepth 20000 in
theorem md_isWork_p {Ls tp ip x d : Nat} {Z : mj_X} {R : Option Value → mj_G → mj_M → Prop} {P : mj_K → Prop} (hC : mj_cls false (mj_sh Ls) (mj_rf tp ip) mj_dv mj_cd_202 (mj_Ex false (mj_sh Ls) (mj_rf tp ip) Z d) R P) (hd : 0 ≤ d) {v1 : Int32} {m : mj_M} (hR : R (some (.int (md_isWork v1 m))) (110, x) m) : P (0, [some (.ref 68), some (.int v1)], [], (110, x), m) := by
  unfold md_isWork at hR
  refine mj_gcp hC 2 ?_
  show P (mj_pick 16 4 (v1 < 0), [some (.ref 68), some (.int v1)], [], (110, x), m)
  refine mj_pbr (fun c1 => ?_) (fun c1 => ?_)
  · rw [if_pos c1] at hR
    refine mj_gcp hC 1 ?_
    show P (17, [some (.ref 68), some (.int v1)], [.int 0], (110, x), m)
    exact mj_pret hC rfl hR
  · rw [if_neg c1] at hR
    refine mj_gcp hC 4 ?_
    show P (mj_pick 16 12 ((mj_I (m 68 14)) ≤ v1), [some (.ref 68), some (.int v1)], [], (110, x), m)
    refine mj_pbr (fun c2 => ?_) (fun c2 => ?_)
    · rw [if_pos c2] at hR
      refine mj_gcp hC 1 ?_
      show P (17, [some (.ref 68), some (.int v1)], [.int 0], (110, x), m)
      exact mj_pret hC rfl hR
    · rw [if_neg c2] at hR
      refine mj_gcp hC 2 ?_
      show P (17, [some (.ref 68), some (.int v1)], [.int 1], (110, x), m)
      exact mj_pret hC rfl hR
set_option maxRecDepth 20000 in
theorem md_isWork_x {Ls tp ip x d : Nat} {Z : mj_X} (hd : 1 ≤ d) {v1 : Int32} {m : mj_M}  : mj_Ex false (mj_sh Ls) (mj_rf tp ip) Z d 202 [.ref 68, .int v1] (110, x) m (some (.int (md_isWork v1 m))) (110, x) m := by
  exact mj_Ex_of (cd := mj_cd_202) (L := [some (.ref 68), some (.int v1)]) (by omega) (by decide) rfl (Nat.le_of_ble_eq_true rfl) rfl (fun P hC => md_isWork_p hC (by omega) ⟨rfl, rfl, rfl⟩)
def md_within  (v0 : Int32) (v1 : Int32) (v2 : Int32) (m : mj_M) : Int32 :=
  (if v1 ≤ v0 then (if v0 ≤ v2 then v0 else
  v2) else
  v1)
set_option maxRecDepth 20000 in
theorem md_within_p {Ls tp ip x d : Nat} {Z : mj_X} {R : Option Value → mj_G → mj_M → Prop} {P : mj_K → Prop} (hC : mj_cls false (mj_sh Ls) (mj_rf tp ip) mj_dv mj_cd_203 (mj_Ex false (mj_sh Ls) (mj_rf tp ip) Z d) R P) (hd : 0 ≤ d) {v0 : Int32} {v1 : Int32} {v2 : Int32} {m : mj_M} (hR : R (some (.int (md_within v0 v1 v2 m))) (110, x) m) : P (0, [some (.int v0), some (.int v1), some (.int v2)], [], (110, x), m) := by
  unfold md_within at hR
  refine mj_gcp hC 3 ?_
  show P (mj_pick 9 5 (v1 ≤ v0), [some (.int v0), some (.int v1), some (.int v2)], [], (110, x), m)
  refine mj_pbr (fun c1 => ?_) (fun c1 => ?_)
  · rw [if_pos c1] at hR
    refine mj_gcp hC 3 ?_
    show P (mj_pick 18 14 (v0 ≤ v2), [some (.int v0), some (.int v1), some (.int v2)], [], (110, x), m)
    refine mj_pbr (fun c2 => ?_) (fun c2 => ?_)
    · rw [if_pos c2] at hR
      refine mj_gcp hC 1 ?_
      show P (19, [some (.int v0), some (.int v1), some (.int v2)], [.int v0], (110, x), m)
      exact mj_pret hC rfl hR
    · rw [if_neg c2] at hR
      refine mj_gcp hC 2 ?_
      show P (19, [some (.int v0), some (.int v1), some (.int v2)], [.int v2], (110, x), m)
      exact mj_pret hC rfl hR
  · rw [if_neg c1] at hR
    refine mj_gcp hC 2 ?_
    show P (19, [some (.int v0), some (.int v1), some (.int v2)], [.int v1], (110, x), m)
    exact mj_pret hC rfl hR
set_option maxRecDepth 20000 in
theorem md_within_x {Ls tp ip x d : Nat} {Z : mj_X} (hd : 1 ≤ d) {v0 : Int32} {v1 : Int32} {v2 : Int32} {m : mj_M}  : mj_Ex false (mj_sh Ls) (mj_rf tp ip) Z d 203 [.int v0, .int v1, .int v2] (110, x) m (some (.int (md_within v0 v1 v2 m))) (110, x) m := by
  exact mj_Ex_of (cd := mj_cd_203) (L := [some (.int v0), some (.int v1), some (.int v2)]) (by omega) (by decide) rfl (Nat.le_of_ble_eq_true rfl) rfl (fun P hC => md_within_p hC (by omega) ⟨rfl, rfl, rfl⟩)
def md_speedOf  (v1 : Int32) (m : mj_M) : Option Int32 :=
  (if (mj_I (m 68 66)) ≤ 0 then (if (mj_I (m 68 15)) = 0 then some 60 else
  (if ((mj_I (m 68 15)) : Int32) = 0 then none else
  (if (v1 - v1 / (mj_I (m 68 15)) * (mj_I (m 68 15))) < 0 ∨ 16 ≤ ((v1 - v1 / (mj_I (m 68 15)) * (mj_I (m 68 15))) : Int32).toNatClampNeg then none else
  some (mj_I (m 82 (v1 - v1 / (mj_I (m 68 15)) * (mj_I (m 68 15))).toNatClampNeg))))) else
  some (mj_I (m 68 66)))
set_option maxRecDepth 20000 in
theorem md_speedOf_p {Ls tp ip x d : Nat} {Z : mj_X} {R : Option Value → mj_G → mj_M → Prop} {P : mj_K → Prop} (hC : mj_cls false (mj_sh Ls) (mj_rf tp ip) mj_dv mj_cd_204 (mj_Ex false (mj_sh Ls) (mj_rf tp ip) Z d) R P) (hd : 0 ≤ d) {v1 : Int32} {m : mj_M} {r : Int32} (h : md_speedOf v1 m = some r) (hR : R (some (.int r)) (110, x) m) : P (0, [some (.ref 68), some (.int v1)], [], (110, x), m) := by
  unfold md_speedOf at h
  refine mj_gcp hC 3 ?_
  show P (mj_pick 14 7 ((mj_I (m 68 66)) ≤ 0), [some (.ref 68), some (.int v1)], [], (110, x), m)
  refine mj_pbr (fun c1 => ?_) (fun c1 => ?_)
  · rw [if_pos c1] at h
    refine mj_gcp hC 3 ?_
    show P (mj_pick 21 26 ((mj_I (m 68 15)) = 0), [some (.ref 68), some (.int v1)], [], (110, x), m)
    refine mj_pbr (fun c2 => ?_) (fun c2 => ?_)
    · rw [if_pos c2] at h
      refine mj_gcp hC 2 ?_
      show P (37, [some (.ref 68), some (.int v1)], [.int 60], (110, x), m)
      cases h
      exact mj_pret hC rfl hR
    · rw [if_neg c2] at h
      obtain ⟨k3, h⟩ := mj_ifn h
      obtain ⟨k4, h⟩ := mj_ifn h
      refine mj_gcp hC 7 ?_
      show _ ∧ (_ ∧ (P (37, [some (.ref 68), some (.int v1)], [.int (mj_I (m 82 (v1 - v1 / (mj_I (m 68 15)) * (mj_I (m 68 15))).toNatClampNeg))], (110, x), m)))
      refine And.intro k3 (And.intro k4 (?_))
      cases h
      exact mj_pret hC rfl hR
  · rw [if_neg c1] at h
    refine mj_gcp hC 3 ?_
    show P (37, [some (.ref 68), some (.int v1)], [.int (mj_I (m 68 66))], (110, x), m)
    cases h
    exact mj_pret hC rfl hR
set_option maxRecDepth 20000 in
theorem md_speedOf_x {Ls tp ip x d : Nat} {Z : mj_X} (hd : 1 ≤ d) {v1 : Int32} {m : mj_M} {r : Int32} (h : md_speedOf v1 m = some r) : mj_Ex false (mj_sh Ls) (mj_rf tp ip) Z d 204 [.ref 68, .int v1] (110, x) m (some (.int r)) (110, x) m := by
  exact mj_Ex_of (cd := mj_cd_204) (L := [some (.ref 68), some (.int v1)]) (by omega) (by decide) rfl (Nat.le_of_ble_eq_true rfl) rfl (fun P hC => md_speedOf_p hC (by omega) h ⟨rfl, rfl, rfl⟩)
def md_beatOf  (v1 : Int32) (v2 : Int32) (m : mj_M) : Option Int32 :=
  (if v1 < 0 ∨ 2 ≤ (v1 : Int32).toNatClampNeg then none else
  (if (mj_I (m 98 v1.toNatClampNeg)) = 0 then some 0 else
  (if v1 < 0 ∨ 2 ≤ (v1 : Int32).toNatClampNeg then none else
  (md_speedOf (mj_I (m 100 v1.toNatClampNeg)) m).bind fun q4 =>
  (if v1 < 0 ∨ 2 ≤ (v1 : Int32).toNatClampNeg then none else
  (if v2 = 0 then some (md_within (q4 + (mj_I (m 99 v1.toNatClampNeg))) 1 199 m) else
  (if ((2 : Int32) * (md_within (q4 + (mj_I (m 99 v1.toNatClampNeg))) 1 199 m)) ≤ 199 then some ((2 : Int32) * (md_within (q4 + (mj_I (m 99 v1.toNatClampNeg))) 1 199 m)) else
  some 199))))))
set_option maxRecDepth 20000 in
theorem md_beatOf_p {Ls tp ip x d : Nat} {Z : mj_X} {R : Option Value → mj_G → mj_M → Prop} {P : mj_K → Prop} (hC : mj_cls false (mj_sh Ls) (mj_rf tp ip) mj_dv mj_cd_205 (mj_Ex false (mj_sh Ls) (mj_rf tp ip) Z d) R P) (hd : 1 ≤ d) {v1 : Int32} {v2 : Int32} {m : mj_M} {r : Int32} (h : md_beatOf v1 v2 m = some r) (hR : R (some (.int r)) (110, x) m) : P (0, [some (.ref 68), some (.int v1), some (.int v2), none], [], (110, x), m) := by
  unfold md_beatOf at h
  obtain ⟨k1, h⟩ := mj_ifn h
  refine mj_gcp hC 5 ?_
  show _ ∧ (P (mj_pick 9 11 ((mj_I (m 98 v1.toNatClampNeg)) = 0), [some (.ref 68), some (.int v1), some (.int v2), none], [], (110, x), m))
  refine And.intro k1 (?_)
  refine mj_pbr (fun c2 => ?_) (fun c2 => ?_)
  · rw [if_pos c2] at h
    refine mj_gcp hC 1 ?_
    show P (10, [some (.ref 68), some (.int v1), some (.int v2), none], [.int 0], (110, x), m)
    cases h
    exact mj_pret hC rfl hR
  · rw [if_neg c2] at h
    obtain ⟨k3, h⟩ := mj_ifn h
    refine mj_gcp hC 5 ?_
    show _ ∧ (P (18, [some (.ref 68), some (.int v1), some (.int v2), none], [.int (mj_I (m 100 v1.toNatClampNeg)), .ref 68], (110, x), m))
    refine And.intro k3 (?_)
    obtain ⟨q4, eq4, h⟩ := mj_bnd h
    refine mj_pcall hC rfl (md_speedOf_x (Nat.le_trans (by decide) hd) eq4) ?_
    show P (21, [some (.ref 68), some (.int v1), some (.int v2), none], [.int q4], (110, x), m)
    obtain ⟨k5, h⟩ := mj_ifn h
    refine mj_gcp hC 7 ?_
    show _ ∧ (P (32, [some (.ref 68), some (.int v1), some (.int v2), none], [.int 199, .int 1, .int (q4 + (mj_I (m 99 v1.toNatClampNeg)))], (110, x), m))
    refine And.intro k5 (?_)
    refine mj_pcall hC rfl (md_within_x (Nat.le_trans (by decide) hd)) ?_
    show P (35, [some (.ref 68), some (.int v1), some (.int v2), none], [.int (md_within (q4 + (mj_I (m 99 v1.toNatClampNeg))) 1 199 m)], (110, x), m)
    refine mj_gcp hC 3 ?_
    show P (mj_pick 40 44 (v2 = 0), [some (.ref 68), some (.int v1), some (.int v2), some (.int (md_within (q4 + (mj_I (m 99 v1.toNatClampNeg))) 1 199 m))], [], (110, x), m)
    refine mj_pbr (fun c6 => ?_) (fun c6 => ?_)
    · rw [if_pos c6] at h
      refine mj_gcp hC 2 ?_
      show P (62, [some (.ref 68), some (.int v1), some (.int v2), some (.int (md_within (q4 + (mj_I (m 99 v1.toNatClampNeg))) 1 199 m))], [.int (md_within (q4 + (mj_I (m 99 v1.toNatClampNeg))) 1 199 m)], (110, x), m)
      cases h
      exact mj_pret hC rfl hR
    · rw [if_neg c6] at h
      refine mj_gcp hC 5 ?_
      show P (mj_pick 59 53 (((2 : Int32) * (md_within (q4 + (mj_I (m 99 v1.toNatClampNeg))) 1 199 m)) ≤ 199), [some (.ref 68), some (.int v1), some (.int v2), some (.int (md_within (q4 + (mj_I (m 99 v1.toNatClampNeg))) 1 199 m))], [], (110, x), m)
      refine mj_pbr (fun c7 => ?_) (fun c7 => ?_)
      · rw [if_pos c7] at h
        refine mj_gcp hC 3 ?_
        show P (62, [some (.ref 68), some (.int v1), some (.int v2), some (.int (md_within (q4 + (mj_I (m 99 v1.toNatClampNeg))) 1 199 m))], [.int ((2 : Int32) * (md_within (q4 + (mj_I (m 99 v1.toNatClampNeg))) 1 199 m))], (110, x), m)
        cases h
        exact mj_pret hC rfl hR
      · rw [if_neg c7] at h
        refine mj_gcp hC 2 ?_
        show P (62, [some (.ref 68), some (.int v1), some (.int v2), some (.int (md_within (q4 + (mj_I (m 99 v1.toNatClampNeg))) 1 199 m))], [.int 199], (110, x), m)
        cases h
        exact mj_pret hC rfl hR
set_option maxRecDepth 20000 in
theorem md_beatOf_x {Ls tp ip x d : Nat} {Z : mj_X} (hd : 2 ≤ d) {v1 : Int32} {v2 : Int32} {m : mj_M} {r : Int32} (h : md_beatOf v1 v2 m = some r) : mj_Ex false (mj_sh Ls) (mj_rf tp ip) Z d 205 [.ref 68, .int v1, .int v2] (110, x) m (some (.int r)) (110, x) m := by
  exact mj_Ex_of (cd := mj_cd_205) (L := [some (.ref 68), some (.int v1), some (.int v2), none]) (by omega) (by decide) rfl (Nat.le_of_ble_eq_true rfl) rfl (fun P hC => md_beatOf_p hC (by omega) h ⟨rfl, rfl, rfl⟩)
def md_layNames_j100  (v1 : Int32) (s1 : Int32) (s2 : Int64) (m : mj_M) : Option mj_M :=
  (if s1 < 0 ∨ 7 ≤ (s1 : Int32).toNatClampNeg then none else
  (if v1 < 0 ∨ 2 ≤ (v1 : Int32).toNatClampNeg then none else
  (if v1 < 0 ∨ 2 ≤ (v1 : Int32).toNatClampNeg then none else
  some (mj_up (mj_up (mj_up m 91 s1.toNatClampNeg (.long s2)) 91 (5 : Int32).toNatClampNeg (.long (mj_I (m 98 v1.toNatClampNeg)).toInt64)) 91 (6 : Int32).toNatClampNeg (.long (mj_I (m 100 v1.toNatClampNeg)).toInt64)))))
def md_layNames_j77  (v1 : Int32) (v4 : Int32) (s1 : Int32) (s2 : Int64) (m : mj_M) : Option mj_M :=
  (if s1 < 0 ∨ 7 ≤ (s1 : Int32).toNatClampNeg then none else
  (if 0 ≤ v4 then (if v4 < 0 ∨ 16 ≤ (v4 : Int32).toNatClampNeg then none else
  md_layNames_j100 v1 4 ((mj_I (m 80 v4.toNatClampNeg)).toInt64) (mj_up m 91 s1.toNatClampNeg (.long s2))) else
  md_layNames_j100 v1 4 0 (mj_up m 91 s1.toNatClampNeg (.long s2))))
def md_layNames_j49  (v1 : Int32) (v4 : Int32) (s1 : Int32) (s2 : Int64) (m : mj_M) : Option mj_M :=
  (if s1 < 0 ∨ 7 ≤ (s1 : Int32).toNatClampNeg then none else
  (if 0 ≤ v4 then (if (((8 : Int32) * v1) + v4) < 0 ∨ 16 ≤ ((((8 : Int32) * v1) + v4) : Int32).toNatClampNeg then none else
  md_layNames_j77 v1 v4 3 ((mj_I (m 93 (((8 : Int32) * v1) + v4).toNatClampNeg)).toInt64) (mj_up m 91 s1.toNatClampNeg (.long s2))) else
  md_layNames_j77 v1 v4 3 0 (mj_up m 91 s1.toNatClampNeg (.long s2))))
def md_layNames_j28  (v1 : Int32) (v3 : Int32) (v4 : Int32) (s1 : Int32) (s2 : Int64) (m : mj_M) : Option mj_M :=
  (if s1 < 0 ∨ 7 ≤ (s1 : Int32).toNatClampNeg then none else
  (if 0 ≤ v3 then (if v3 < 0 ∨ 12 ≤ (v3 : Int32).toNatClampNeg then none else
  md_layNames_j49 v1 v4 2 ((mj_I (m 75 v3.toNatClampNeg)).toInt64) (mj_up m 91 s1.toNatClampNeg (.long s2))) else
  md_layNames_j49 v1 v4 2 0 (mj_up m 91 s1.toNatClampNeg (.long s2))))
def md_layNames  (v1 : Int32) (v2 : Int32) (v3 : Int32) (v4 : Int32) (m : mj_M) : Option mj_M :=
  (if 0 ≤ v3 then (if v3 < 0 ∨ 12 ≤ (v3 : Int32).toNatClampNeg then none else
  md_layNames_j28 v1 v3 v4 1 ((mj_I (m 74 v3.toNatClampNeg)).toInt64) (mj_up m 91 (0 : Int32).toNatClampNeg (.long (v2.toInt64)))) else
  md_layNames_j28 v1 v3 v4 1 0 (mj_up m 91 (0 : Int32).toNatClampNeg (.long (v2.toInt64))))
set_option maxRecDepth 20000 in
theorem md_layNames_j100_x {Ls tp ip x d : Nat} {Z : mj_X} {R : Option Value → mj_G → mj_M → Prop} {P : mj_K → Prop} (hC : mj_cls false (mj_sh Ls) (mj_rf tp ip) mj_dv mj_cd_206 (mj_Ex false (mj_sh Ls) (mj_rf tp ip) Z d) R P) (hd : 0 ≤ d) {v1 : Int32} {s1 : Int32} {s2 : Int64} {m : mj_M} {r : mj_M} (h : md_layNames_j100 v1 s1 s2 m = some r) (hR : R none (110, x) r) : P (100, [some (.ref 68), some (.int v1), none, none, none], [.long s2, .int s1, .ref 91], (110, x), m) := by
  unfold md_layNames_j100 at h
  obtain ⟨k12, h⟩ := mj_ifn h
  obtain ⟨k13, h⟩ := mj_ifn h
  obtain ⟨k14, h⟩ := mj_ifn h
  refine mj_gcp hC 19 ?_
  show _ ∧ (_ ∧ (_ ∧ (_ ∧ (_ ∧ (P (128, [some (.ref 68), some (.int v1), none, none, none], [], (110, x), (mj_up (mj_up (mj_up m 91 s1.toNatClampNeg (.long s2)) 91 (5 : Int32).toNatClampNeg (.long (mj_I (m 98 v1.toNatClampNeg)).toInt64)) 91 (6 : Int32).toNatClampNeg (.long (mj_I (m 100 v1.toNatClampNeg)).toInt64))))))))
  refine And.intro k12 (And.intro k13 (And.intro (show ¬ ((5 : Int32) < 0 ∨ 7 ≤ (5 : Int32).toNatClampNeg) by decide) (And.intro k14 (And.intro (show ¬ ((6 : Int32) < 0 ∨ 7 ≤ (6 : Int32).toNatClampNeg) by decide) (?_)))))
  cases h
  exact mj_pret hC rfl hR
set_option maxRecDepth 20000 in
theorem md_layNames_j77_x {Ls tp ip x d : Nat} {Z : mj_X} {R : Option Value → mj_G → mj_M → Prop} {P : mj_K → Prop} (hC : mj_cls false (mj_sh Ls) (mj_rf tp ip) mj_dv mj_cd_206 (mj_Ex false (mj_sh Ls) (mj_rf tp ip) Z d) R P) (hd : 0 ≤ d) {v1 : Int32} {v4 : Int32} {s1 : Int32} {s2 : Int64} {m : mj_M} {r : mj_M} (h : md_layNames_j77 v1 v4 s1 s2 m = some r) (hR : R none (110, x) r) : P (77, [some (.ref 68), some (.int v1), none, none, some (.int v4)], [.long s2, .int s1, .ref 91], (110, x), m) := by
  unfold md_layNames_j77 at h
  obtain ⟨k9, h⟩ := mj_ifn h
  refine mj_gcp hC 6 ?_
  show _ ∧ (P (mj_pick 92 88 (0 ≤ v4), [some (.ref 68), some (.int v1), none, none, some (.int v4)], [.int 4, .ref 91], (110, x), (mj_up m 91 s1.toNatClampNeg (.long s2))))
  refine And.intro k9 (?_)
  refine mj_pbr (fun c10 => ?_) (fun c10 => ?_)
  · rw [if_pos c10] at h
    obtain ⟨k11, h⟩ := mj_ifn h
    refine mj_gcp hC 5 ?_
    show _ ∧ (P (100, [some (.ref 68), some (.int v1), none, none, some (.int v4)], [.long (mj_I (m 80 v4.toNatClampNeg)).toInt64, .int 4, .ref 91], (110, x), (mj_up m 91 s1.toNatClampNeg (.long s2))))
    refine And.intro k11 (?_)
    exact mj_less hC (L0 := [some (.ref 68), some (.int v1), none, none, none]) (And.intro rfl (And.intro rfl trivial)) (md_layNames_j100_x hC hd h hR)
  · rw [if_neg c10] at h
    refine mj_gcp hC 2 ?_
    show P (100, [some (.ref 68), some (.int v1), none, none, some (.int v4)], [.long 0, .int 4, .ref 91], (110, x), (mj_up m 91 s1.toNatClampNeg (.long s2)))
    exact mj_less hC (L0 := [some (.ref 68), some (.int v1), none, none, none]) (And.intro rfl (And.intro rfl trivial)) (md_layNames_j100_x hC hd h hR)
set_option maxRecDepth 20000 in
theorem md_layNames_j49_x {Ls tp ip x d : Nat} {Z : mj_X} {R : Option Value → mj_G → mj_M → Prop} {P : mj_K → Prop} (hC : mj_cls false (mj_sh Ls) (mj_rf tp ip) mj_dv mj_cd_206 (mj_Ex false (mj_sh Ls) (mj_rf tp ip) Z d) R P) (hd : 0 ≤ d) {v1 : Int32} {v4 : Int32} {s1 : Int32} {s2 : Int64} {m : mj_M} {r : mj_M} (h : md_layNames_j49 v1 v4 s1 s2 m = some r) (hR : R none (110, x) r) : P (49, [some (.ref 68), some (.int v1), none, none, some (.int v4)], [.long s2, .int s1, .ref 91], (110, x), m) := by
  unfold md_layNames_j49 at h
  obtain ⟨k6, h⟩ := mj_ifn h
  refine mj_gcp hC 6 ?_
  show _ ∧ (P (mj_pick 64 60 (0 ≤ v4), [some (.ref 68), some (.int v1), none, none, some (.int v4)], [.int 3, .ref 91], (110, x), (mj_up m 91 s1.toNatClampNeg (.long s2))))
  refine And.intro k6 (?_)
  refine mj_pbr (fun c7 => ?_) (fun c7 => ?_)
  · rw [if_pos c7] at h
    obtain ⟨k8, h⟩ := mj_ifn h
    refine mj_gcp hC 9 ?_
    show _ ∧ (P (77, [some (.ref 68), some (.int v1), none, none, some (.int v4)], [.long (mj_I (m 93 (((8 : Int32) * v1) + v4).toNatClampNeg)).toInt64, .int 3, .ref 91], (110, x), (mj_up m 91 s1.toNatClampNeg (.long s2))))
    refine And.intro k8 (?_)
    exact mj_less hC (L0 := [some (.ref 68), some (.int v1), none, none, some (.int v4)]) (And.intro rfl (And.intro rfl (And.intro rfl trivial))) (md_layNames_j77_x hC hd h hR)
  · rw [if_neg c7] at h
    refine mj_gcp hC 2 ?_
    show P (77, [some (.ref 68), some (.int v1), none, none, some (.int v4)], [.long 0, .int 3, .ref 91], (110, x), (mj_up m 91 s1.toNatClampNeg (.long s2)))
    exact mj_less hC (L0 := [some (.ref 68), some (.int v1), none, none, some (.int v4)]) (And.intro rfl (And.intro rfl (And.intro rfl trivial))) (md_layNames_j77_x hC hd h hR)
set_option maxRecDepth 20000 in
theorem md_layNames_j28_x {Ls tp ip x d : Nat} {Z : mj_X} {R : Option Value → mj_G → mj_M → Prop} {P : mj_K → Prop} (hC : mj_cls false (mj_sh Ls) (mj_rf tp ip) mj_dv mj_cd_206 (mj_Ex false (mj_sh Ls) (mj_rf tp ip) Z d) R P) (hd : 0 ≤ d) {v1 : Int32} {v3 : Int32} {v4 : Int32} {s1 : Int32} {s2 : Int64} {m : mj_M} {r : mj_M} (h : md_layNames_j28 v1 v3 v4 s1 s2 m = some r) (hR : R none (110, x) r) : P (28, [some (.ref 68), some (.int v1), none, some (.int v3), some (.int v4)], [.long s2, .int s1, .ref 91], (110, x), m) := by
  unfold md_layNames_j28 at h
  obtain ⟨k3, h⟩ := mj_ifn h
  refine mj_gcp hC 6 ?_
  show _ ∧ (P (mj_pick 42 38 (0 ≤ v3), [some (.ref 68), some (.int v1), none, some (.int v3), some (.int v4)], [.int 2, .ref 91], (110, x), (mj_up m 91 s1.toNatClampNeg (.long s2))))
  refine And.intro k3 (?_)
  refine mj_pbr (fun c4 => ?_) (fun c4 => ?_)
  · rw [if_pos c4] at h
    obtain ⟨k5, h⟩ := mj_ifn h
    refine mj_gcp hC 5 ?_
    show _ ∧ (P (49, [some (.ref 68), some (.int v1), none, some (.int v3), some (.int v4)], [.long (mj_I (m 75 v3.toNatClampNeg)).toInt64, .int 2, .ref 91], (110, x), (mj_up m 91 s1.toNatClampNeg (.long s2))))
    refine And.intro k5 (?_)
    exact mj_less hC (L0 := [some (.ref 68), some (.int v1), none, none, some (.int v4)]) (And.intro rfl (And.intro rfl (And.intro rfl trivial))) (md_layNames_j49_x hC hd h hR)
  · rw [if_neg c4] at h
    refine mj_gcp hC 2 ?_
    show P (49, [some (.ref 68), some (.int v1), none, some (.int v3), some (.int v4)], [.long 0, .int 2, .ref 91], (110, x), (mj_up m 91 s1.toNatClampNeg (.long s2)))
    exact mj_less hC (L0 := [some (.ref 68), some (.int v1), none, none, some (.int v4)]) (And.intro rfl (And.intro rfl (And.intro rfl trivial))) (md_layNames_j49_x hC hd h hR)
set_option maxRecDepth 20000 in
theorem md_layNames_p {Ls tp ip x d : Nat} {Z : mj_X} {R : Option Value → mj_G → mj_M → Prop} {P : mj_K → Prop} (hC : mj_cls false (mj_sh Ls) (mj_rf tp ip) mj_dv mj_cd_206 (mj_Ex false (mj_sh Ls) (mj_rf tp ip) Z d) R P) (hd : 0 ≤ d) {v1 : Int32} {v2 : Int32} {v3 : Int32} {v4 : Int32} {m : mj_M} {r : mj_M} (h : md_layNames v1 v2 v3 v4 m = some r) (hR : R none (110, x) r) : P (0, [some (.ref 68), some (.int v1), some (.int v2), some (.int v3), some (.int v4)], [], (110, x), m) := by
  unfold md_layNames at h
  refine mj_gcp hC 11 ?_
  show _ ∧ (P (mj_pick 21 17 (0 ≤ v3), [some (.ref 68), some (.int v1), some (.int v2), some (.int v3), some (.int v4)], [.int 1, .ref 91], (110, x), (mj_up m 91 (0 : Int32).toNatClampNeg (.long (v2.toInt64)))))
  refine And.intro (show ¬ ((0 : Int32) < 0 ∨ 7 ≤ (0 : Int32).toNatClampNeg) by decide) (?_)
  refine mj_pbr (fun c1 => ?_) (fun c1 => ?_)
  · rw [if_pos c1] at h
    obtain ⟨k2, h⟩ := mj_ifn h
    refine mj_gcp hC 5 ?_
    show _ ∧ (P (28, [some (.ref 68), some (.int v1), some (.int v2), some (.int v3), some (.int v4)], [.long (mj_I (m 74 v3.toNatClampNeg)).toInt64, .int 1, .ref 91], (110, x), (mj_up m 91 (0 : Int32).toNatClampNeg (.long (v2.toInt64)))))
    refine And.intro k2 (?_)
    exact mj_less hC (L0 := [some (.ref 68), some (.int v1), none, some (.int v3), some (.int v4)]) (And.intro rfl (And.intro rfl (And.intro rfl (And.intro rfl trivial)))) (md_layNames_j28_x hC hd h hR)
  · rw [if_neg c1] at h
    refine mj_gcp hC 2 ?_
    show P (28, [some (.ref 68), some (.int v1), some (.int v2), some (.int v3), some (.int v4)], [.long 0, .int 1, .ref 91], (110, x), (mj_up m 91 (0 : Int32).toNatClampNeg (.long (v2.toInt64))))
    exact mj_less hC (L0 := [some (.ref 68), some (.int v1), none, some (.int v3), some (.int v4)]) (And.intro rfl (And.intro rfl (And.intro rfl (And.intro rfl trivial)))) (md_layNames_j28_x hC hd h hR)
set_option maxRecDepth 20000 in
theorem md_layNames_x {Ls tp ip x d : Nat} {Z : mj_X} (hd : 1 ≤ d) {v1 : Int32} {v2 : Int32} {v3 : Int32} {v4 : Int32} {m : mj_M} {r : mj_M} (h : md_layNames v1 v2 v3 v4 m = some r) : mj_Ex false (mj_sh Ls) (mj_rf tp ip) Z d 206 [.ref 68, .int v1, .int v2, .int v3, .int v4] (110, x) m none (110, x) r := by
  exact mj_Ex_of (cd := mj_cd_206) (L := [some (.ref 68), some (.int v1), some (.int v2), some (.int v3), some (.int v4)]) (by omega) (by decide) rfl (Nat.le_of_ble_eq_true rfl) rfl (fun P hC => md_layNames_p hC (by omega) h ⟨rfl, rfl, rfl⟩)
def md_lawOf_l12  (v1 : Int32) (s12 : (Int32 × mj_M)) : Option (Nat × (Int32 × mj_M)) :=
  (if v1 < 0 ∨ 6 ≤ (v1 : Int32).toNatClampNeg then none else
  (if (mj_I (s12.2 85 v1.toNatClampNeg)) ≤ s12.1 then some (1, (s12.1, s12.2)) else
  (md_valueOf s12.1 s12.2).bind fun q4 =>
  (if s12.1 < 0 ∨ 64 ≤ (s12.1 : Int32).toNatClampNeg then none else
  some (0, ((s12.1 + 1), (mj_up q4.2 92 s12.1.toNatClampNeg (.long q4.1)))))))
def md_lawOf  (v1 : Int32) (m : mj_M) : Option (Int64 × mj_M) :=
  (if v1 < 0 ∨ 6 ≤ (v1 : Int32).toNatClampNeg then none else
  (mj_loop (md_lawOf_l12 v1) mj_F ((mj_I (m 84 v1.toNatClampNeg)), (mj_up m 68 50 (.int 0)))).bind fun q6 =>
  (if (mj_I (q6.2.2 68 50)) = 0 then (if v1 < 0 ∨ 6 ≤ (v1 : Int32).toNatClampNeg then none else
  (if ((mj_I (q6.2.2 85 v1.toNatClampNeg)) - 1) < 0 ∨ 64 ≤ (((mj_I (q6.2.2 85 v1.toNatClampNeg)) - 1) : Int32).toNatClampNeg then none else
  some ((mj_J (q6.2.2 92 ((mj_I (q6.2.2 85 v1.toNatClampNeg)) - 1).toNatClampNeg)), q6.2.2))) else
  some (0, q6.2.2)))
set_option maxRecDepth 20000 in
theorem md_lawOf_l12_x {Ls tp ip x d : Nat} {Z : mj_X} {R : Option Value → mj_G → mj_M → Prop} {P : mj_K → Prop} (hC : mj_cls false (mj_sh Ls) (mj_rf tp ip) mj_dv mj_cd_207 (mj_Ex false (mj_sh Ls) (mj_rf tp ip) Z d) R P) (hd : 2 ≤ d) {v1 : Int32} (s12 : (Int32 × mj_M)) {t : Nat} {w : (Int32 × mj_M)} (h : md_lawOf_l12 v1 s12 = some (t, w)) (h0 : t = 0 → P (12, [some (.ref 68), some (.int v1), some (.int w.1)], [], (110, x), w.2)) (h1 : t = 1 → P (39, [some (.ref 68), some (.int v1), none], [], (110, x), w.2)) : P (12, [some (.ref 68), some (.int v1), some (.int s12.1)], [], (110, x), s12.2) := by
  unfold md_lawOf_l12 at h
  obtain ⟨k2, h⟩ := mj_ifn h
  refine mj_gcp hC 6 ?_
  show _ ∧ (P (mj_pick 39 22 ((mj_I (s12.2 85 v1.toNatClampNeg)) ≤ s12.1), [some (.ref 68), some (.int v1), some (.int s12.1)], [], (110, x), s12.2))
  refine And.intro k2 (?_)
  refine mj_pbr (fun c3 => ?_) (fun c3 => ?_)
  · rw [if_pos c3] at h
    cases h
    exact mj_less hC (L0 := [some (.ref 68), some (.int v1), none]) (And.intro rfl (And.intro rfl trivial)) (h1 rfl)
  · rw [if_neg c3] at h
    refine mj_gcp hC 5 ?_
    show P (29, [some (.ref 68), some (.int v1), some (.int s12.1)], [.int s12.1, .ref 68, .int s12.1, .ref 92], (110, x), s12.2)
    obtain ⟨q4, eq4, h⟩ := mj_bnd h
    refine mj_pcall hC rfl (md_valueOf_x (Nat.le_trans (by decide) hd) eq4) ?_
    show P (32, [some (.ref 68), some (.int v1), some (.int s12.1)], [.long q4.1, .int s12.1, .ref 92], (110, x), q4.2)
    obtain ⟨k5, h⟩ := mj_ifn h
    refine mj_gcp hC 3 ?_
    show _ ∧ (P (12, [some (.ref 68), some (.int v1), some (.int (s12.1 + 1))], [], (110, x), (mj_up q4.2 92 s12.1.toNatClampNeg (.long q4.1))))
    refine And.intro k5 (?_)
    cases h
    exact mj_less hC (L0 := [some (.ref 68), some (.int v1), some (.int (s12.1 + 1))]) (And.intro rfl (And.intro rfl (And.intro rfl trivial))) (h0 rfl)
set_option maxRecDepth 20000 in
theorem md_lawOf_p {Ls tp ip x d : Nat} {Z : mj_X} {R : Option Value → mj_G → mj_M → Prop} {P : mj_K → Prop} (hC : mj_cls false (mj_sh Ls) (mj_rf tp ip) mj_dv mj_cd_207 (mj_Ex false (mj_sh Ls) (mj_rf tp ip) Z d) R P) (hd : 2 ≤ d) {v1 : Int32} {m : mj_M} {r : (Int64 × mj_M)} (h : md_lawOf v1 m = some r) (hR : R (some (.long r.1)) (110, x) r.2) : P (0, [some (.ref 68), some (.int v1), none], [], (110, x), m) := by
  unfold md_lawOf at h
  obtain ⟨k1, h⟩ := mj_ifn h
  refine mj_gcp hC 8 ?_
  show _ ∧ (P (12, [some (.ref 68), some (.int v1), some (.int (mj_I (m 84 v1.toNatClampNeg)))], [], (110, x), (mj_up m 68 50 (.int 0))))
  refine And.intro k1 (?_)
  obtain ⟨q6, eq6, h⟩ := mj_bnd h
  refine mj_less hC (L0 := [some (.ref 68), some (.int v1), some (.int (mj_I (m 84 v1.toNatClampNeg)))]) (And.intro rfl (And.intro rfl (And.intro rfl trivial))) ?_
  refine mj_loop_P (A := fun z12 => P (12, [some (.ref 68), some (.int v1), some (.int z12.1)], [], (110, x), z12.2)) (E := fun _ z12 => P (39, [some (.ref 68), some (.int v1), none], [], (110, x), z12.2)) (fun zz t w hb h0 h1 => md_lawOf_l12_x hC hd zz hb h0 (fun ht => h1 0 ht)) mj_F _ q6 eq6 ?_
  refine mj_gcp hC 3 ?_
  show P (mj_pick 50 46 ((mj_I (q6.2.2 68 50)) = 0), [some (.ref 68), some (.int v1), none], [], (110, x), q6.2.2)
  refine mj_pbr (fun c7 => ?_) (fun c7 => ?_)
  · rw [if_pos c7] at h
    obtain ⟨k8, h⟩ := mj_ifn h
    obtain ⟨k9, h⟩ := mj_ifn h
    refine mj_gcp hC 9 ?_
    show _ ∧ (_ ∧ (P (63, [some (.ref 68), some (.int v1), none], [.long (mj_J (q6.2.2 92 ((mj_I (q6.2.2 85 v1.toNatClampNeg)) - 1).toNatClampNeg))], (110, x), q6.2.2)))
    refine And.intro k8 (And.intro k9 (?_))
    cases h
    exact mj_pret hC rfl hR
  · rw [if_neg c7] at h
    refine mj_gcp hC 2 ?_
    show P (63, [some (.ref 68), some (.int v1), none], [.long 0], (110, x), q6.2.2)
    cases h
    exact mj_pret hC rfl hR
set_option maxRecDepth 20000 in
theorem md_lawOf_x {Ls tp ip x d : Nat} {Z : mj_X} (hd : 3 ≤ d) {v1 : Int32} {m : mj_M} {r : (Int64 × mj_M)} (h : md_lawOf v1 m = some r) : mj_Ex false (mj_sh Ls) (mj_rf tp ip) Z d 207 [.ref 68, .int v1] (110, x) m (some (.long r.1)) (110, x) r.2 := by
  exact mj_Ex_of (cd := mj_cd_207) (L := [some (.ref 68), some (.int v1), none]) (by omega) (by decide) rfl (Nat.le_of_ble_eq_true rfl) rfl (fun P hC => md_lawOf_p hC (by omega) h ⟨rfl, rfl, rfl⟩)
def md_boundLaw  (v1 : Int32) (v2 : Int32) (v3 : Int32) (v4 : Int32) (m : mj_M) : Option (Int32 × mj_M) :=
  (if v1 < 0 ∨ 6 ≤ (v1 : Int32).toNatClampNeg then none else
  (if (mj_I (m 83 v1.toNatClampNeg)) = 0 then some (v2, m) else
  (md_lawOf v1 m).bind fun q3 =>
  (if (mj_I (q3.2 68 50)) = 0 then (if 0 ≤ (lg_cmp q3.1 (v3.toInt64)) then (if (lg_cmp q3.1 (v4.toInt64)) ≤ 0 then some ((q3.1.toInt32), q3.2) else
  some (v4, q3.2)) else
  some (v3, q3.2)) else
  some (v2, q3.2))))
set_option maxRecDepth 20000 in
theorem md_boundLaw_p {Ls tp ip x d : Nat} {Z : mj_X} {R : Option Value → mj_G → mj_M → Prop} {P : mj_K → Prop} (hC : mj_cls false (mj_sh Ls) (mj_rf tp ip) mj_dv mj_cd_208 (mj_Ex false (mj_sh Ls) (mj_rf tp ip) Z d) R P) (hd : 3 ≤ d) {v1 : Int32} {v2 : Int32} {v3 : Int32} {v4 : Int32} {m : mj_M} {r : (Int32 × mj_M)} (h : md_boundLaw v1 v2 v3 v4 m = some r) (hR : R (some (.int r.1)) (110, x) r.2) : P (0, [some (.ref 68), some (.int v1), some (.int v2), some (.int v3), some (.int v4), none, none], [], (110, x), m) := by
  unfold md_boundLaw at h
  obtain ⟨k1, h⟩ := mj_ifn h
  refine mj_gcp hC 5 ?_
  show _ ∧ (P (mj_pick 9 11 ((mj_I (m 83 v1.toNatClampNeg)) = 0), [some (.ref 68), some (.int v1), some (.int v2), some (.int v3), some (.int v4), none, none], [], (110, x), m))
  refine And.intro k1 (?_)
  refine mj_pbr (fun c2 => ?_) (fun c2 => ?_)
  · rw [if_pos c2] at h
    refine mj_gcp hC 1 ?_
    show P (10, [some (.ref 68), some (.int v1), some (.int v2), some (.int v3), some (.int v4), none, none], [.int v2], (110, x), m)
    cases h
    exact mj_pret hC rfl hR
  · rw [if_neg c2] at h
    refine mj_gcp hC 2 ?_
    show P (13, [some (.ref 68), some (.int v1), some (.int v2), some (.int v3), some (.int v4), none, none], [.int v1, .ref 68], (110, x), m)
    obtain ⟨q3, eq3, h⟩ := mj_bnd h
    refine mj_pcall hC rfl (md_lawOf_x (Nat.le_trans (by decide) hd) eq3) ?_
    show P (16, [some (.ref 68), some (.int v1), some (.int v2), some (.int v3), some (.int v4), none, none], [.long q3.1], (110, x), q3.2)
    refine mj_gcp hC 4 ?_
    show P (mj_pick 27 25 ((mj_I (q3.2 68 50)) = 0), [some (.ref 68), some (.int v1), some (.int v2), some (.int v3), some (.int v4), some (.long q3.1), none], [], (110, x), q3.2)
    refine mj_pbr (fun c4 => ?_) (fun c4 => ?_)
    · rw [if_pos c4] at h
      refine mj_gcp hC 5 ?_
      show P (mj_pick 39 35 (0 ≤ (lg_cmp q3.1 (v3.toInt64))), [some (.ref 68), some (.int v1), some (.int v2), some (.int v3), some (.int v4), some (.long q3.1), none], [], (110, x), q3.2)
      refine mj_pbr (fun c5 => ?_) (fun c5 => ?_)
      · rw [if_pos c5] at h
        refine mj_gcp hC 5 ?_
        show P (mj_pick 53 48 ((lg_cmp q3.1 (v4.toInt64)) ≤ 0), [some (.ref 68), some (.int v1), some (.int v2), some (.int v3), some (.int v4), some (.long q3.1), none], [], (110, x), q3.2)
        refine mj_pbr (fun c6 => ?_) (fun c6 => ?_)
        · rw [if_pos c6] at h
          refine mj_gcp hC 2 ?_
          show P (56, [some (.ref 68), some (.int v1), some (.int v2), some (.int v3), some (.int v4), some (.long q3.1), none], [.int (q3.1.toInt32)], (110, x), q3.2)
          cases h
          exact mj_pret hC rfl hR
        · rw [if_neg c6] at h
          refine mj_gcp hC 2 ?_
          show P (56, [some (.ref 68), some (.int v1), some (.int v2), some (.int v3), some (.int v4), some (.long q3.1), none], [.int v4], (110, x), q3.2)
          cases h
          exact mj_pret hC rfl hR
      · rw [if_neg c5] at h
        refine mj_gcp hC 2 ?_
        show P (56, [some (.ref 68), some (.int v1), some (.int v2), some (.int v3), some (.int v4), some (.long q3.1), none], [.int v3], (110, x), q3.2)
        cases h
        exact mj_pret hC rfl hR
    · rw [if_neg c4] at h
      refine mj_gcp hC 1 ?_
      show P (26, [some (.ref 68), some (.int v1), some (.int v2), some (.int v3), some (.int v4), some (.long q3.1), none], [.int v2], (110, x), q3.2)
      cases h
      exact mj_pret hC rfl hR
set_option maxRecDepth 20000 in
theorem md_boundLaw_x {Ls tp ip x d : Nat} {Z : mj_X} (hd : 4 ≤ d) {v1 : Int32} {v2 : Int32} {v3 : Int32} {v4 : Int32} {m : mj_M} {r : (Int32 × mj_M)} (h : md_boundLaw v1 v2 v3 v4 m = some r) : mj_Ex false (mj_sh Ls) (mj_rf tp ip) Z d 208 [.ref 68, .int v1, .int v2, .int v3, .int v4] (110, x) m (some (.int r.1)) (110, x) r.2 := by
  exact mj_Ex_of (cd := mj_cd_208) (L := [some (.ref 68), some (.int v1), some (.int v2), some (.int v3), some (.int v4), none, none]) (by omega) (by decide) rfl (Nat.le_of_ble_eq_true rfl) rfl (fun P hC => md_boundLaw_p hC (by omega) h ⟨rfl, rfl, rfl⟩)
def md_slipsBy_j46   (s1 : Int32) (s2 : Int32) (m : mj_M) : Option (Int32 × mj_M) :=
  (md_boundLaw s1 s2 0 99 m).bind fun q5 =>
  some (q5.1, q5.2)
def md_slipsBy  (v1 : Int32) (v2 : Int32) (v3 : Int32) (m : mj_M) : Option (Int32 × mj_M) :=
  (if v3 < 0 ∨ 16 ≤ (v3 : Int32).toNatClampNeg then none else
  (md_layNames v1 v2 (mj_I (m 78 v3.toNatClampNeg)) v3 m).bind fun q2 =>
  (if (mj_I (m 78 v3.toNatClampNeg)) < 0 ∨ 12 ≤ ((mj_I (m 78 v3.toNatClampNeg)) : Int32).toNatClampNeg then none else
  (if v2 ≤ (mj_I (q2 74 (mj_I (m 78 v3.toNatClampNeg)).toNatClampNeg)) then md_slipsBy_j46 0 0 q2 else
  (if (mj_I (m 78 v3.toNatClampNeg)) < 0 ∨ 12 ≤ ((mj_I (m 78 v3.toNatClampNeg)) : Int32).toNatClampNeg then none else
  md_slipsBy_j46 0 ((v2 - (mj_I (q2 74 (mj_I (m 78 v3.toNatClampNeg)).toNatClampNeg))) / 10) q2))))
set_option maxRecDepth 20000 in
theorem md_slipsBy_j46_x {Ls tp ip x d : Nat} {Z : mj_X} {R : Option Value → mj_G → mj_M → Prop} {P : mj_K → Prop} (hC : mj_cls false (mj_sh Ls) (mj_rf tp ip) mj_dv mj_cd_209 (mj_Ex false (mj_sh Ls) (mj_rf tp ip) Z d) R P) (hd : 4 ≤ d)  {s1 : Int32} {s2 : Int32} {m : mj_M} {r : (Int32 × mj_M)} (h : md_slipsBy_j46 s1 s2 m = some r) (hR : R (some (.int r.1)) (110, x) r.2) : P (46, [none, none, none, none, none], [.int s2, .int s1, .ref 68], (110, x), m) := by
  unfold md_slipsBy_j46 at h
  refine mj_gcp hC 2 ?_
  show P (49, [none, none, none, none, none], [.int 99, .int 0, .int s2, .int s1, .ref 68], (110, x), m)
  obtain ⟨q5, eq5, h⟩ := mj_bnd h
  refine mj_pcall hC rfl (md_boundLaw_x (Nat.le_trans (by decide) hd) eq5) ?_
  show P (52, [none, none, none, none, none], [.int q5.1], (110, x), q5.2)
  cases h
  exact mj_pret hC rfl hR
set_option maxRecDepth 20000 in
theorem md_slipsBy_p {Ls tp ip x d : Nat} {Z : mj_X} {R : Option Value → mj_G → mj_M → Prop} {P : mj_K → Prop} (hC : mj_cls false (mj_sh Ls) (mj_rf tp ip) mj_dv mj_cd_209 (mj_Ex false (mj_sh Ls) (mj_rf tp ip) Z d) R P) (hd : 4 ≤ d) {v1 : Int32} {v2 : Int32} {v3 : Int32} {m : mj_M} {r : (Int32 × mj_M)} (h : md_slipsBy v1 v2 v3 m = some r) (hR : R (some (.int r.1)) (110, x) r.2) : P (0, [some (.ref 68), some (.int v1), some (.int v2), some (.int v3), none], [], (110, x), m) := by
  unfold md_slipsBy at h
  obtain ⟨k1, h⟩ := mj_ifn h
  refine mj_gcp hC 10 ?_
  show _ ∧ (P (14, [some (.ref 68), some (.int v1), some (.int v2), some (.int v3), some (.int (mj_I (m 78 v3.toNatClampNeg)))], [.int v3, .int (mj_I (m 78 v3.toNatClampNeg)), .int v2, .int v1, .ref 68], (110, x), m))
  refine And.intro k1 (?_)
  obtain ⟨q2, eq2, h⟩ := mj_bnd h
  refine mj_pcall hC rfl (md_layNames_x (Nat.le_trans (by decide) hd) eq2) ?_
  show P (17, [some (.ref 68), some (.int v1), some (.int v2), some (.int v3), some (.int (mj_I (m 78 v3.toNatClampNeg)))], [], (110, x), q2)
  obtain ⟨k3, h⟩ := mj_ifn h
  refine mj_gcp hC 8 ?_
  show _ ∧ (P (mj_pick 45 30 (v2 ≤ (mj_I (q2 74 (mj_I (m 78 v3.toNatClampNeg)).toNatClampNeg))), [some (.ref 68), some (.int v1), some (.int v2), some (.int v3), some (.int (mj_I (m 78 v3.toNatClampNeg)))], [.int 0, .ref 68], (110, x), q2))
  refine And.intro k3 (?_)
  refine mj_pbr (fun c4 => ?_) (fun c4 => ?_)
  · rw [if_pos c4] at h
    refine mj_gcp hC 1 ?_
    show P (46, [some (.ref 68), some (.int v1), some (.int v2), some (.int v3), some (.int (mj_I (m 78 v3.toNatClampNeg)))], [.int 0, .int 0, .ref 68], (110, x), q2)
    exact mj_less hC (L0 := [none, none, none, none, none]) trivial (md_slipsBy_j46_x hC hd h hR)
  · rw [if_neg c4] at h
    obtain ⟨k6, h⟩ := mj_ifn h
    refine mj_gcp hC 9 ?_
    show _ ∧ (_ ∧ (P (46, [some (.ref 68), some (.int v1), some (.int v2), some (.int v3), some (.int (mj_I (m 78 v3.toNatClampNeg)))], [.int ((v2 - (mj_I (q2 74 (mj_I (m 78 v3.toNatClampNeg)).toNatClampNeg))) / 10), .int 0, .ref 68], (110, x), q2)))
    refine And.intro k6 (And.intro (show ¬ ((10 : Int32) = 0) by decide) (?_))
    exact mj_less hC (L0 := [none, none, none, none, none]) trivial (md_slipsBy_j46_x hC hd h hR)
set_option maxRecDepth 20000 in
theorem md_slipsBy_x {Ls tp ip x d : Nat} {Z : mj_X} (hd : 5 ≤ d) {v1 : Int32} {v2 : Int32} {v3 : Int32} {m : mj_M} {r : (Int32 × mj_M)} (h : md_slipsBy v1 v2 v3 m = some r) : mj_Ex false (mj_sh Ls) (mj_rf tp ip) Z d 209 [.ref 68, .int v1, .int v2, .int v3] (110, x) m (some (.int r.1)) (110, x) r.2 := by
  exact mj_Ex_of (cd := mj_cd_209) (L := [some (.ref 68), some (.int v1), some (.int v2), some (.int v3), none]) (by omega) (by decide) rfl (Nat.le_of_ble_eq_true rfl) rfl (fun P hC => md_slipsBy_p hC (by omega) h ⟨rfl, rfl, rfl⟩)
def md_hushOf  (v1 : Int32) (v2 : Int32) (v3 : Int32) (m : mj_M) : Option (Int32 × mj_M) :=
  (md_layNames v1 v2 v3 (-1) m).bind fun q1 =>
  (if v3 < 0 ∨ 12 ≤ (v3 : Int32).toNatClampNeg then none else
  (md_boundLaw 2 ((1 : Int32) + ((mj_I (q1 75 v3.toNatClampNeg)) / 20)) 1 9 q1).bind fun q3 =>
  some (q3.1, q3.2))
set_option maxRecDepth 20000 in
theorem md_hushOf_p {Ls tp ip x d : Nat} {Z : mj_X} {R : Option Value → mj_G → mj_M → Prop} {P : mj_K → Prop} (hC : mj_cls false (mj_sh Ls) (mj_rf tp ip) mj_dv mj_cd_210 (mj_Ex false (mj_sh Ls) (mj_rf tp ip) Z d) R P) (hd : 4 ≤ d) {v1 : Int32} {v2 : Int32} {v3 : Int32} {m : mj_M} {r : (Int32 × mj_M)} (h : md_hushOf v1 v2 v3 m = some r) (hR : R (some (.int r.1)) (110, x) r.2) : P (0, [some (.ref 68), some (.int v1), some (.int v2), some (.int v3)], [], (110, x), m) := by
  unfold md_hushOf at h
  refine mj_gcp hC 5 ?_
  show P (5, [some (.ref 68), some (.int v1), some (.int v2), some (.int v3)], [.int (-1), .int v3, .int v2, .int v1, .ref 68], (110, x), m)
  obtain ⟨q1, eq1, h⟩ := mj_bnd h
  refine mj_pcall hC rfl (md_layNames_x (Nat.le_trans (by decide) hd) eq1) ?_
  show P (8, [some (.ref 68), some (.int v1), some (.int v2), some (.int v3)], [], (110, x), q1)
  obtain ⟨k2, h⟩ := mj_ifn h
  refine mj_gcp hC 12 ?_
  show _ ∧ (_ ∧ (P (24, [some (.ref 68), some (.int v1), some (.int v2), some (.int v3)], [.int 9, .int 1, .int ((1 : Int32) + ((mj_I (q1 75 v3.toNatClampNeg)) / 20)), .int 2, .ref 68], (110, x), q1)))
  refine And.intro k2 (And.intro (show ¬ ((20 : Int32) = 0) by decide) (?_))
  obtain ⟨q3, eq3, h⟩ := mj_bnd h
  refine mj_pcall hC rfl (md_boundLaw_x (Nat.le_trans (by decide) hd) eq3) ?_
  show P (27, [some (.ref 68), some (.int v1), some (.int v2), some (.int v3)], [.int q3.1], (110, x), q3.2)
  cases h
  exact mj_pret hC rfl hR
set_option maxRecDepth 20000 in
theorem md_hushOf_x {Ls tp ip x d : Nat} {Z : mj_X} (hd : 5 ≤ d) {v1 : Int32} {v2 : Int32} {v3 : Int32} {m : mj_M} {r : (Int32 × mj_M)} (h : md_hushOf v1 v2 v3 m = some r) : mj_Ex false (mj_sh Ls) (mj_rf tp ip) Z d 210 [.ref 68, .int v1, .int v2, .int v3] (110, x) m (some (.int r.1)) (110, x) r.2 := by
  exact mj_Ex_of (cd := mj_cd_210) (L := [some (.ref 68), some (.int v1), some (.int v2), some (.int v3)]) (by omega) (by decide) rfl (Nat.le_of_ble_eq_true rfl) rfl (fun P hC => md_hushOf_p hC (by omega) h ⟨rfl, rfl, rfl⟩)
def md_wearOf  (v1 : Int32) (v2 : Int32) (m : mj_M) : Option (Int32 × mj_M) :=
  (md_layNames v1 v2 (-1) (-1) m).bind fun q1 =>
  (md_boundLaw 1 1 0 99 q1).bind fun q2 =>
  some (q2.1, q2.2)
set_option maxRecDepth 20000 in
theorem md_wearOf_p {Ls tp ip x d : Nat} {Z : mj_X} {R : Option Value → mj_G → mj_M → Prop} {P : mj_K → Prop} (hC : mj_cls false (mj_sh Ls) (mj_rf tp ip) mj_dv mj_cd_211 (mj_Ex false (mj_sh Ls) (mj_rf tp ip) Z d) R P) (hd : 4 ≤ d) {v1 : Int32} {v2 : Int32} {m : mj_M} {r : (Int32 × mj_M)} (h : md_wearOf v1 v2 m = some r) (hR : R (some (.int r.1)) (110, x) r.2) : P (0, [some (.ref 68), some (.int v1), some (.int v2)], [], (110, x), m) := by
  unfold md_wearOf at h
  refine mj_gcp hC 5 ?_
  show P (5, [some (.ref 68), some (.int v1), some (.int v2)], [.int (-1), .int (-1), .int v2, .int v1, .ref 68], (110, x), m)
  obtain ⟨q1, eq1, h⟩ := mj_bnd h
  refine mj_pcall hC rfl (md_layNames_x (Nat.le_trans (by decide) hd) eq1) ?_
  show P (8, [some (.ref 68), some (.int v1), some (.int v2)], [], (110, x), q1)
  refine mj_gcp hC 5 ?_
  show P (14, [some (.ref 68), some (.int v1), some (.int v2)], [.int 99, .int 0, .int 1, .int 1, .ref 68], (110, x), q1)
  obtain ⟨q2, eq2, h⟩ := mj_bnd h
  refine mj_pcall hC rfl (md_boundLaw_x (Nat.le_trans (by decide) hd) eq2) ?_
  show P (17, [some (.ref 68), some (.int v1), some (.int v2)], [.int q2.1], (110, x), q2.2)
  cases h
  exact mj_pret hC rfl hR
set_option maxRecDepth 20000 in
theorem md_wearOf_x {Ls tp ip x d : Nat} {Z : mj_X} (hd : 5 ≤ d) {v1 : Int32} {v2 : Int32} {m : mj_M} {r : (Int32 × mj_M)} (h : md_wearOf v1 v2 m = some r) : mj_Ex false (mj_sh Ls) (mj_rf tp ip) Z d 211 [.ref 68, .int v1, .int v2] (110, x) m (some (.int r.1)) (110, x) r.2 := by
  exact mj_Ex_of (cd := mj_cd_211) (L := [some (.ref 68), some (.int v1), some (.int v2)]) (by omega) (by decide) rfl (Nat.le_of_ble_eq_true rfl) rfl (fun P hC => md_wearOf_p hC (by omega) h ⟨rfl, rfl, rfl⟩)
def md_number1  (v1 : Int32) (m : mj_M) : Option (Int32 × mj_M) :=
  (if ((v1.toInt64) : Int64) = 0 then none else
  some (((((((mj_J (m 68 60)) * 1103515245) + 12345) &&& 2147483647) / 65536) - (((((mj_J (m 68 60)) * 1103515245) + 12345) &&& 2147483647) / 65536) / (v1.toInt64) * (v1.toInt64)).toInt32, (mj_up m 68 60 (.long ((((mj_J (m 68 60)) * 1103515245) + 12345) &&& 2147483647)))))
set_option maxRecDepth 20000 in
theorem md_number1_p {Ls tp ip x d : Nat} {Z : mj_X} {R : Option Value → mj_G → mj_M → Prop} {P : mj_K → Prop} (hC : mj_cls false (mj_sh Ls) (mj_rf tp ip) mj_dv mj_cd_212 (mj_Ex false (mj_sh Ls) (mj_rf tp ip) Z d) R P) (hd : 0 ≤ d) {v1 : Int32} {m : mj_M} {r : (Int32 × mj_M)} (h : md_number1 v1 m = some r) (hR : R (some (.int r.1)) (110, x) r.2) : P (0, [some (.ref 68), some (.int v1)], [], (110, x), m) := by
  unfold md_number1 at h
  obtain ⟨k1, h⟩ := mj_ifn h
  refine mj_gcp hC 18 ?_
  show _ ∧ (_ ∧ (P (32, [some (.ref 68), some (.int v1)], [.int ((((((mj_J (m 68 60)) * 1103515245) + 12345) &&& 2147483647) / 65536) - (((((mj_J (m 68 60)) * 1103515245) + 12345) &&& 2147483647) / 65536) / (v1.toInt64) * (v1.toInt64)).toInt32], (110, x), (mj_up m 68 60 (.long ((((mj_J (m 68 60)) * 1103515245) + 12345) &&& 2147483647))))))
  refine And.intro (show ¬ ((65536 : Int64) = 0) by decide) (And.intro k1 (?_))
  cases h
  exact mj_pret hC rfl hR
set_option maxRecDepth 20000 in
theorem md_number1_x {Ls tp ip x d : Nat} {Z : mj_X} (hd : 1 ≤ d) {v1 : Int32} {m : mj_M} {r : (Int32 × mj_M)} (h : md_number1 v1 m = some r) : mj_Ex false (mj_sh Ls) (mj_rf tp ip) Z d 212 [.ref 68, .int v1] (110, x) m (some (.int r.1)) (110, x) r.2 := by
  exact mj_Ex_of (cd := mj_cd_212) (L := [some (.ref 68), some (.int v1)]) (by omega) (by decide) rfl (Nat.le_of_ble_eq_true rfl) rfl (fun P hC => md_number1_p hC (by omega) h ⟨rfl, rfl, rfl⟩)
def md_isWasp  (v1 : Int32) (m : mj_M) : Option (Int32 × mj_M) :=
  (if (mj_I (m 68 64)) = 0 then (if (mj_I (m 72 (1 : Int32).toNatClampNeg)) = 0 then some (0, m) else
  (md_beatOf v1 0 m).bind fun q3 =>
  (if q3 = 0 then some (0, m) else
  (if (mj_I (m 72 (1 : Int32).toNatClampNeg)) = 100 then some (1, m) else
  (if (mj_I (m 68 63)) = 0 then (if (mj_I (m 72 (1 : Int32).toNatClampNeg)) < 50 then some (0, m) else
  some (1, m)) else
  (md_number1 100 m).bind fun q8 =>
  (if (mj_I (q8.2 72 (1 : Int32).toNatClampNeg)) ≤ q8.1 then some (0, q8.2) else
  some (1, q8.2)))))) else
  some (0, m))
set_option maxRecDepth 20000 in
theorem md_isWasp_p {Ls tp ip x d : Nat} {Z : mj_X} {R : Option Value → mj_G → mj_M → Prop} {P : mj_K → Prop} (hC : mj_cls false (mj_sh Ls) (mj_rf tp ip) mj_dv mj_cd_213 (mj_Ex false (mj_sh Ls) (mj_rf tp ip) Z d) R P) (hd : 2 ≤ d) {v1 : Int32} {m : mj_M} {r : (Int32 × mj_M)} (h : md_isWasp v1 m = some r) (hR : R (some (.int r.1)) (110, x) r.2) : P (0, [some (.ref 68), some (.int v1)], [], (110, x), m) := by
  unfold md_isWasp at h
  refine mj_gcp hC 3 ?_
  show P (mj_pick 7 25 ((mj_I (m 68 64)) = 0), [some (.ref 68), some (.int v1)], [], (110, x), m)
  refine mj_pbr (fun c1 => ?_) (fun c1 => ?_)
  · rw [if_pos c1] at h
    refine mj_gcp hC 5 ?_
    show _ ∧ (P (mj_pick 25 16 ((mj_I (m 72 (1 : Int32).toNatClampNeg)) = 0), [some (.ref 68), some (.int v1)], [], (110, x), m))
    refine And.intro (show ¬ ((1 : Int32) < 0 ∨ 6 ≤ (1 : Int32).toNatClampNeg) by decide) (?_)
    refine mj_pbr (fun c2 => ?_) (fun c2 => ?_)
    · rw [if_pos c2] at h
      refine mj_gcp hC 1 ?_
      show P (26, [some (.ref 68), some (.int v1)], [.int 0], (110, x), m)
      cases h
      exact mj_pret hC rfl hR
    · rw [if_neg c2] at h
      refine mj_gcp hC 3 ?_
      show P (19, [some (.ref 68), some (.int v1)], [.int 0, .int v1, .ref 68], (110, x), m)
      obtain ⟨q3, eq3, h⟩ := mj_bnd h
      refine mj_pcall hC rfl (md_beatOf_x (Nat.le_trans (by decide) hd) eq3) ?_
      show P (22, [some (.ref 68), some (.int v1)], [.int q3], (110, x), m)
      refine mj_gcp hC 1 ?_
      show P (mj_pick 25 27 (q3 = 0), [some (.ref 68), some (.int v1)], [], (110, x), m)
      refine mj_pbr (fun c4 => ?_) (fun c4 => ?_)
      · rw [if_pos c4] at h
        refine mj_gcp hC 1 ?_
        show P (26, [some (.ref 68), some (.int v1)], [.int 0], (110, x), m)
        cases h
        exact mj_pret hC rfl hR
      · rw [if_neg c4] at h
        refine mj_gcp hC 6 ?_
        show _ ∧ (P (mj_pick 38 40 ((mj_I (m 72 (1 : Int32).toNatClampNeg)) = 100), [some (.ref 68), some (.int v1)], [], (110, x), m))
        refine And.intro (show ¬ ((1 : Int32) < 0 ∨ 6 ≤ (1 : Int32).toNatClampNeg) by decide) (?_)
        refine mj_pbr (fun c5 => ?_) (fun c5 => ?_)
        · rw [if_pos c5] at h
          refine mj_gcp hC 1 ?_
          show P (39, [some (.ref 68), some (.int v1)], [.int 1], (110, x), m)
          cases h
          exact mj_pret hC rfl hR
        · rw [if_neg c5] at h
          refine mj_gcp hC 3 ?_
          show P (mj_pick 70 47 ((mj_I (m 68 63)) = 0), [some (.ref 68), some (.int v1)], [], (110, x), m)
          refine mj_pbr (fun c6 => ?_) (fun c6 => ?_)
          · rw [if_pos c6] at h
            refine mj_gcp hC 6 ?_
            show _ ∧ (P (mj_pick 85 81 ((mj_I (m 72 (1 : Int32).toNatClampNeg)) < 50), [some (.ref 68), some (.int v1)], [], (110, x), m))
            refine And.intro (show ¬ ((1 : Int32) < 0 ∨ 6 ≤ (1 : Int32).toNatClampNeg) by decide) (?_)
            refine mj_pbr (fun c7 => ?_) (fun c7 => ?_)
            · rw [if_pos c7] at h
              refine mj_gcp hC 1 ?_
              show P (86, [some (.ref 68), some (.int v1)], [.int 0], (110, x), m)
              cases h
              exact mj_pret hC rfl hR
            · rw [if_neg c7] at h
              refine mj_gcp hC 2 ?_
              show P (86, [some (.ref 68), some (.int v1)], [.int 1], (110, x), m)
              cases h
              exact mj_pret hC rfl hR
          · rw [if_neg c6] at h
            refine mj_gcp hC 2 ?_
            show P (50, [some (.ref 68), some (.int v1)], [.int 100, .ref 68], (110, x), m)
            obtain ⟨q8, eq8, h⟩ := mj_bnd h
            refine mj_pcall hC rfl (md_number1_x (Nat.le_trans (by decide) hd) eq8) ?_
            show P (53, [some (.ref 68), some (.int v1)], [.int q8.1], (110, x), q8.2)
            refine mj_gcp hC 5 ?_
            show _ ∧ (P (mj_pick 66 62 ((mj_I (q8.2 72 (1 : Int32).toNatClampNeg)) ≤ q8.1), [some (.ref 68), some (.int v1)], [], (110, x), q8.2))
            refine And.intro (show ¬ ((1 : Int32) < 0 ∨ 6 ≤ (1 : Int32).toNatClampNeg) by decide) (?_)
            refine mj_pbr (fun c9 => ?_) (fun c9 => ?_)
            · rw [if_pos c9] at h
              refine mj_gcp hC 2 ?_
              show P (86, [some (.ref 68), some (.int v1)], [.int 0], (110, x), q8.2)
              cases h
              exact mj_pret hC rfl hR
            · rw [if_neg c9] at h
              refine mj_gcp hC 2 ?_
              show P (86, [some (.ref 68), some (.int v1)], [.int 1], (110, x), q8.2)
              cases h
              exact mj_pret hC rfl hR
  · rw [if_neg c1] at h
    refine mj_gcp hC 1 ?_
    show P (26, [some (.ref 68), some (.int v1)], [.int 0], (110, x), m)
    cases h
    exact mj_pret hC rfl hR
set_option maxRecDepth 20000 in
theorem md_isWasp_x {Ls tp ip x d : Nat} {Z : mj_X} (hd : 3 ≤ d) {v1 : Int32} {m : mj_M} {r : (Int32 × mj_M)} (h : md_isWasp v1 m = some r) : mj_Ex false (mj_sh Ls) (mj_rf tp ip) Z d 213 [.ref 68, .int v1] (110, x) m (some (.int r.1)) (110, x) r.2 := by
  exact mj_Ex_of (cd := mj_cd_213) (L := [some (.ref 68), some (.int v1)]) (by omega) (by decide) rfl (Nat.le_of_ble_eq_true rfl) rfl (fun P hC => md_isWasp_p hC (by omega) h ⟨rfl, rfl, rfl⟩)
def md_isOn_j33  (v1 : Int32) (v2 : Int32) (v3 : Int32) (s0 : Int32) (m : mj_M) : Option Int32 :=
  (if v1 < 0 ∨ 2 ≤ (v1 : Int32).toNatClampNeg then none else
  (if (mj_I (m 100 v1.toNatClampNeg)) < s0 then some 0 else
  (if (((8 : Int32) * v1) + v2) < 0 ∨ 16 ≤ ((((8 : Int32) * v1) + v2) : Int32).toNatClampNeg then none else
  (if (mj_I (m 93 (((8 : Int32) * v1) + v2).toNatClampNeg)) ≤ 0 then some 0 else
  (if v3 < 0 ∨ 12 ≤ (v3 : Int32).toNatClampNeg then none else
  (if (mj_I (m 97 v3.toNatClampNeg)) = 0 then some 0 else
  (if v3 < 0 ∨ 12 ≤ (v3 : Int32).toNatClampNeg then none else
  (if (mj_I (m 96 v3.toNatClampNeg)) = 0 then some 1 else
  some 0))))))))
def md_isOn  (v1 : Int32) (v2 : Int32) (m : mj_M) : Option Int32 :=
  (if v2 < 0 ∨ 16 ≤ (v2 : Int32).toNatClampNeg then none else
  (if v2 = (mj_I (m 68 67)) then md_isOn_j33 v1 v2 (((6 : Int32) * v1) + (mj_I (m 78 v2.toNatClampNeg))) (mj_I (m 68 68)) m else
  (if v2 < 0 ∨ 16 ≤ (v2 : Int32).toNatClampNeg then none else
  md_isOn_j33 v1 v2 (((6 : Int32) * v1) + (mj_I (m 78 v2.toNatClampNeg))) (mj_I (m 81 v2.toNatClampNeg)) m)))
set_option maxRecDepth 20000 in
theorem md_isOn_j33_x {Ls tp ip x d : Nat} {Z : mj_X} {R : Option Value → mj_G → mj_M → Prop} {P : mj_K → Prop} (hC : mj_cls false (mj_sh Ls) (mj_rf tp ip) mj_dv mj_cd_214 (mj_Ex false (mj_sh Ls) (mj_rf tp ip) Z d) R P) (hd : 0 ≤ d) {v1 : Int32} {v2 : Int32} {v3 : Int32} {s0 : Int32} {m : mj_M} {r : Int32} (h : md_isOn_j33 v1 v2 v3 s0 m = some r) (hR : R (some (.int r)) (110, x) m) : P (33, [some (.ref 68), some (.int v1), some (.int v2), some (.int v3), none], [.int s0], (110, x), m) := by
  unfold md_isOn_j33 at h
  obtain ⟨k3, h⟩ := mj_ifn h
  refine mj_gcp hC 7 ?_
  show _ ∧ (P (mj_pick 82 46 ((mj_I (m 100 v1.toNatClampNeg)) < s0), [some (.ref 68), some (.int v1), some (.int v2), some (.int v3), some (.int s0)], [], (110, x), m))
  refine And.intro k3 (?_)
  refine mj_pbr (fun c4 => ?_) (fun c4 => ?_)
  · rw [if_pos c4] at h
    refine mj_gcp hC 1 ?_
    show P (83, [some (.ref 68), some (.int v1), some (.int v2), some (.int v3), some (.int s0)], [.int 0], (110, x), m)
    cases h
    exact mj_pret hC rfl hR
  · rw [if_neg c4] at h
    obtain ⟨k5, h⟩ := mj_ifn h
    refine mj_gcp hC 9 ?_
    show _ ∧ (P (mj_pick 82 60 ((mj_I (m 93 (((8 : Int32) * v1) + v2).toNatClampNeg)) ≤ 0), [some (.ref 68), some (.int v1), some (.int v2), some (.int v3), some (.int s0)], [], (110, x), m))
    refine And.intro k5 (?_)
    refine mj_pbr (fun c6 => ?_) (fun c6 => ?_)
    · rw [if_pos c6] at h
      refine mj_gcp hC 1 ?_
      show P (83, [some (.ref 68), some (.int v1), some (.int v2), some (.int v3), some (.int s0)], [.int 0], (110, x), m)
      cases h
      exact mj_pret hC rfl hR
    · rw [if_neg c6] at h
      obtain ⟨k7, h⟩ := mj_ifn h
      refine mj_gcp hC 5 ?_
      show _ ∧ (P (mj_pick 82 69 ((mj_I (m 97 v3.toNatClampNeg)) = 0), [some (.ref 68), some (.int v1), some (.int v2), some (.int v3), some (.int s0)], [], (110, x), m))
      refine And.intro k7 (?_)
      refine mj_pbr (fun c8 => ?_) (fun c8 => ?_)
      · rw [if_pos c8] at h
        refine mj_gcp hC 1 ?_
        show P (83, [some (.ref 68), some (.int v1), some (.int v2), some (.int v3), some (.int s0)], [.int 0], (110, x), m)
        cases h
        exact mj_pret hC rfl hR
      · rw [if_neg c8] at h
        obtain ⟨k9, h⟩ := mj_ifn h
        refine mj_gcp hC 5 ?_
        show _ ∧ (P (mj_pick 78 82 ((mj_I (m 96 v3.toNatClampNeg)) = 0), [some (.ref 68), some (.int v1), some (.int v2), some (.int v3), some (.int s0)], [], (110, x), m))
        refine And.intro k9 (?_)
        refine mj_pbr (fun c10 => ?_) (fun c10 => ?_)
        · rw [if_pos c10] at h
          refine mj_gcp hC 2 ?_
          show P (83, [some (.ref 68), some (.int v1), some (.int v2), some (.int v3), some (.int s0)], [.int 1], (110, x), m)
          cases h
          exact mj_pret hC rfl hR
        · rw [if_neg c10] at h
          refine mj_gcp hC 1 ?_
          show P (83, [some (.ref 68), some (.int v1), some (.int v2), some (.int v3), some (.int s0)], [.int 0], (110, x), m)
          cases h
          exact mj_pret hC rfl hR
set_option maxRecDepth 20000 in
theorem md_isOn_p {Ls tp ip x d : Nat} {Z : mj_X} {R : Option Value → mj_G → mj_M → Prop} {P : mj_K → Prop} (hC : mj_cls false (mj_sh Ls) (mj_rf tp ip) mj_dv mj_cd_214 (mj_Ex false (mj_sh Ls) (mj_rf tp ip) Z d) R P) (hd : 0 ≤ d) {v1 : Int32} {v2 : Int32} {m : mj_M} {r : Int32} (h : md_isOn v1 v2 m = some r) (hR : R (some (.int r)) (110, x) m) : P (0, [some (.ref 68), some (.int v1), some (.int v2), none, none], [], (110, x), m) := by
  unfold md_isOn at h
  obtain ⟨k1, h⟩ := mj_ifn h
  refine mj_gcp hC 13 ?_
  show _ ∧ (P (mj_pick 20 27 (v2 = (mj_I (m 68 67))), [some (.ref 68), some (.int v1), some (.int v2), some (.int (((6 : Int32) * v1) + (mj_I (m 78 v2.toNatClampNeg)))), none], [], (110, x), m))
  refine And.intro k1 (?_)
  refine mj_pbr (fun c2 => ?_) (fun c2 => ?_)
  · rw [if_pos c2] at h
    refine mj_gcp hC 3 ?_
    show P (33, [some (.ref 68), some (.int v1), some (.int v2), some (.int (((6 : Int32) * v1) + (mj_I (m 78 v2.toNatClampNeg)))), none], [.int (mj_I (m 68 68))], (110, x), m)
    exact mj_less hC (L0 := [some (.ref 68), some (.int v1), some (.int v2), some (.int (((6 : Int32) * v1) + (mj_I (m 78 v2.toNatClampNeg)))), none]) (And.intro rfl (And.intro rfl (And.intro rfl (And.intro rfl trivial)))) (md_isOn_j33_x hC hd h hR)
  · rw [if_neg c2] at h
    obtain ⟨k11, h⟩ := mj_ifn h
    refine mj_gcp hC 4 ?_
    show _ ∧ (P (33, [some (.ref 68), some (.int v1), some (.int v2), some (.int (((6 : Int32) * v1) + (mj_I (m 78 v2.toNatClampNeg)))), none], [.int (mj_I (m 81 v2.toNatClampNeg))], (110, x), m))
    refine And.intro k11 (?_)
    exact mj_less hC (L0 := [some (.ref 68), some (.int v1), some (.int v2), some (.int (((6 : Int32) * v1) + (mj_I (m 78 v2.toNatClampNeg)))), none]) (And.intro rfl (And.intro rfl (And.intro rfl (And.intro rfl trivial)))) (md_isOn_j33_x hC hd h hR)
set_option maxRecDepth 20000 in
theorem md_isOn_x {Ls tp ip x d : Nat} {Z : mj_X} (hd : 1 ≤ d) {v1 : Int32} {v2 : Int32} {m : mj_M} {r : Int32} (h : md_isOn v1 v2 m = some r) : mj_Ex false (mj_sh Ls) (mj_rf tp ip) Z d 214 [.ref 68, .int v1, .int v2] (110, x) m (some (.int r)) (110, x) m := by
  exact mj_Ex_of (cd := mj_cd_214) (L := [some (.ref 68), some (.int v1), some (.int v2), none, none]) (by omega) (by decide) rfl (Nat.le_of_ble_eq_true rfl) rfl (fun P hC => md_isOn_p hC (by omega) h ⟨rfl, rfl, rfl⟩)
def md_works1_j79  (v1 : Int32) (v4 : Int32) (v5 : Int32)  (m : mj_M) : Option mj_M :=
  (if (((6 : Int32) * v1) + v4) < 0 ∨ 12 ≤ ((((6 : Int32) * v1) + v4) : Int32).toNatClampNeg then none else
  (if (((6 : Int32) * v1) + v4) < 0 ∨ 12 ≤ ((((6 : Int32) * v1) + v4) : Int32).toNatClampNeg then none else
  (if v5 ≤ 0 then some (mj_up (mj_up (mj_up m 95 (((6 : Int32) * v1) + v4).toNatClampNeg (.int ((mj_I (m 95 (((6 : Int32) * v1) + v4).toNatClampNeg)) + v5))) 68 61 (.int ((mj_I (m 68 61)) ||| ((1 : Int32) <<< (v4 &&& 31))))) 68 62 (.int ((mj_I (m 68 62)) ||| 0))) else
  some (mj_up (mj_up (mj_up m 95 (((6 : Int32) * v1) + v4).toNatClampNeg (.int ((mj_I (m 95 (((6 : Int32) * v1) + v4).toNatClampNeg)) + v5))) 68 61 (.int ((mj_I (m 68 61)) ||| ((1 : Int32) <<< (v4 &&& 31))))) 68 62 (.int ((mj_I (m 68 62)) ||| ((1 : Int32) <<< (v4 &&& 31))))))))
def md_works1_j55  (v1 : Int32) (v4 : Int32) (v5 : Int32) (v6 : Int32) (s1 : Int32) (s2 : Int32) (m : mj_M) : Option mj_M :=
  (if s1 < 0 ∨ 16 ≤ (s1 : Int32).toNatClampNeg then none else
  (if v6 < 0 ∨ 16 ≤ (v6 : Int32).toNatClampNeg then none else
  (if (mj_I ((mj_up m 93 s1.toNatClampNeg (.int s2)) 93 v6.toNatClampNeg)) = 0 then (if v1 < 0 ∨ 2 ≤ (v1 : Int32).toNatClampNeg then none else
  (if v6 < 0 ∨ 16 ≤ (v6 : Int32).toNatClampNeg then none else
  md_works1_j79 v1 v4 v5 (mj_up (mj_up m 93 s1.toNatClampNeg (.int s2)) 94 v6.toNatClampNeg (.int (mj_I (m 100 v1.toNatClampNeg)))))) else
  md_works1_j79 v1 v4 v5 (mj_up m 93 s1.toNatClampNeg (.int s2)))))
def md_works1  (v1 : Int32) (v2 : Int32) (v3 : Int32) (m : mj_M) : Option mj_M :=
  (if v3 < 0 ∨ 16 ≤ (v3 : Int32).toNatClampNeg then none else
  (md_slipsBy v1 v2 v3 m).bind fun q2 =>
  (if (((8 : Int32) * v1) + v3) < 0 ∨ 16 ≤ ((((8 : Int32) * v1) + v3) : Int32).toNatClampNeg then none else
  (if (mj_I (q2.2 93 (((8 : Int32) * v1) + v3).toNatClampNeg)) ≤ v2 then md_works1_j55 v1 (mj_I (m 78 v3.toNatClampNeg)) q2.1 (((8 : Int32) * v1) + v3) (((8 : Int32) * v1) + v3) 0 q2.2 else
  (if (((8 : Int32) * v1) + v3) < 0 ∨ 16 ≤ ((((8 : Int32) * v1) + v3) : Int32).toNatClampNeg then none else
  md_works1_j55 v1 (mj_I (m 78 v3.toNatClampNeg)) q2.1 (((8 : Int32) * v1) + v3) (((8 : Int32) * v1) + v3) ((mj_I (q2.2 93 (((8 : Int32) * v1) + v3).toNatClampNeg)) - v2) q2.2))))
set_option maxRecDepth 20000 in
theorem md_works1_j79_x {Ls tp ip x d : Nat} {Z : mj_X} {R : Option Value → mj_G → mj_M → Prop} {P : mj_K → Prop} (hC : mj_cls false (mj_sh Ls) (mj_rf tp ip) mj_dv mj_cd_215 (mj_Ex false (mj_sh Ls) (mj_rf tp ip) Z d) R P) (hd : 5 ≤ d) {v1 : Int32} {v4 : Int32} {v5 : Int32}  {m : mj_M} {r : mj_M} (h : md_works1_j79 v1 v4 v5 m = some r) (hR : R none (110, x) r) : P (79, [some (.ref 68), some (.int v1), none, none, some (.int v4), some (.int v5), none], [], (110, x), m) := by
  unfold md_works1_j79 at h
  obtain ⟨k10, h⟩ := mj_ifn h
  obtain ⟨k11, h⟩ := mj_ifn h
  refine mj_gcp hC 25 ?_
  show _ ∧ (_ ∧ (P (mj_pick 126 119 (v5 ≤ 0), [some (.ref 68), some (.int v1), none, none, some (.int v4), some (.int v5), none], [.int (mj_I (m 68 62)), .ref 68], (110, x), (mj_up (mj_up m 95 (((6 : Int32) * v1) + v4).toNatClampNeg (.int ((mj_I (m 95 (((6 : Int32) * v1) + v4).toNatClampNeg)) + v5))) 68 61 (.int ((mj_I (m 68 61)) ||| ((1 : Int32) <<< (v4 &&& 31))))))))
  refine And.intro k10 (And.intro k11 (?_))
  refine mj_pbr (fun c12 => ?_) (fun c12 => ?_)
  · rw [if_pos c12] at h
    refine mj_gcp hC 1 ?_
    show P (127, [some (.ref 68), some (.int v1), none, none, some (.int v4), some (.int v5), none], [.int 0, .int (mj_I (m 68 62)), .ref 68], (110, x), (mj_up (mj_up m 95 (((6 : Int32) * v1) + v4).toNatClampNeg (.int ((mj_I (m 95 (((6 : Int32) * v1) + v4).toNatClampNeg)) + v5))) 68 61 (.int ((mj_I (m 68 61)) ||| ((1 : Int32) <<< (v4 &&& 31))))))
    refine mj_gcp hC 2 ?_
    show P (131, [some (.ref 68), some (.int v1), none, none, some (.int v4), some (.int v5), none], [], (110, x), (mj_up (mj_up (mj_up m 95 (((6 : Int32) * v1) + v4).toNatClampNeg (.int ((mj_I (m 95 (((6 : Int32) * v1) + v4).toNatClampNeg)) + v5))) 68 61 (.int ((mj_I (m 68 61)) ||| ((1 : Int32) <<< (v4 &&& 31))))) 68 62 (.int ((mj_I (m 68 62)) ||| 0))))
    cases h
    exact mj_pret hC rfl hR
  · rw [if_neg c12] at h
    refine mj_gcp hC 4 ?_
    show P (127, [some (.ref 68), some (.int v1), none, none, some (.int v4), some (.int v5), none], [.int ((1 : Int32) <<< (v4 &&& 31)), .int (mj_I (m 68 62)), .ref 68], (110, x), (mj_up (mj_up m 95 (((6 : Int32) * v1) + v4).toNatClampNeg (.int ((mj_I (m 95 (((6 : Int32) * v1) + v4).toNatClampNeg)) + v5))) 68 61 (.int ((mj_I (m 68 61)) ||| ((1 : Int32) <<< (v4 &&& 31))))))
    refine mj_gcp hC 2 ?_
    show P (131, [some (.ref 68), some (.int v1), none, none, some (.int v4), some (.int v5), none], [], (110, x), (mj_up (mj_up (mj_up m 95 (((6 : Int32) * v1) + v4).toNatClampNeg (.int ((mj_I (m 95 (((6 : Int32) * v1) + v4).toNatClampNeg)) + v5))) 68 61 (.int ((mj_I (m 68 61)) ||| ((1 : Int32) <<< (v4 &&& 31))))) 68 62 (.int ((mj_I (m 68 62)) ||| ((1 : Int32) <<< (v4 &&& 31))))))
    cases h
    exact mj_pret hC rfl hR
set_option maxRecDepth 20000 in
theorem md_works1_j55_x {Ls tp ip x d : Nat} {Z : mj_X} {R : Option Value → mj_G → mj_M → Prop} {P : mj_K → Prop} (hC : mj_cls false (mj_sh Ls) (mj_rf tp ip) mj_dv mj_cd_215 (mj_Ex false (mj_sh Ls) (mj_rf tp ip) Z d) R P) (hd : 5 ≤ d) {v1 : Int32} {v4 : Int32} {v5 : Int32} {v6 : Int32} {s1 : Int32} {s2 : Int32} {m : mj_M} {r : mj_M} (h : md_works1_j55 v1 v4 v5 v6 s1 s2 m = some r) (hR : R none (110, x) r) : P (55, [some (.ref 68), some (.int v1), none, none, some (.int v4), some (.int v5), some (.int v6)], [.int s2, .int s1, .ref 93], (110, x), m) := by
  unfold md_works1_j55 at h
  obtain ⟨k5, h⟩ := mj_ifn h
  obtain ⟨k6, h⟩ := mj_ifn h
  refine mj_gcp hC 6 ?_
  show _ ∧ (_ ∧ (P (mj_pick 66 79 ((mj_I ((mj_up m 93 s1.toNatClampNeg (.int s2)) 93 v6.toNatClampNeg)) = 0), [some (.ref 68), some (.int v1), none, none, some (.int v4), some (.int v5), some (.int v6)], [], (110, x), (mj_up m 93 s1.toNatClampNeg (.int s2)))))
  refine And.intro k5 (And.intro k6 (?_))
  refine mj_pbr (fun c7 => ?_) (fun c7 => ?_)
  · rw [if_pos c7] at h
    obtain ⟨k8, h⟩ := mj_ifn h
    obtain ⟨k9, h⟩ := mj_ifn h
    refine mj_gcp hC 8 ?_
    show _ ∧ (_ ∧ (P (79, [some (.ref 68), some (.int v1), none, none, some (.int v4), some (.int v5), some (.int v6)], [], (110, x), (mj_up (mj_up m 93 s1.toNatClampNeg (.int s2)) 94 v6.toNatClampNeg (.int (mj_I (m 100 v1.toNatClampNeg)))))))
    refine And.intro k8 (And.intro k9 (?_))
    exact mj_less hC (L0 := [some (.ref 68), some (.int v1), none, none, some (.int v4), some (.int v5), none]) (And.intro rfl (And.intro rfl (And.intro rfl (And.intro rfl trivial)))) (md_works1_j79_x hC hd h hR)
  · rw [if_neg c7] at h
    exact mj_less hC (L0 := [some (.ref 68), some (.int v1), none, none, some (.int v4), some (.int v5), none]) (And.intro rfl (And.intro rfl (And.intro rfl (And.intro rfl trivial)))) (md_works1_j79_x hC hd h hR)
set_option maxRecDepth 20000 in
theorem md_works1_p {Ls tp ip x d : Nat} {Z : mj_X} {R : Option Value → mj_G → mj_M → Prop} {P : mj_K → Prop} (hC : mj_cls false (mj_sh Ls) (mj_rf tp ip) mj_dv mj_cd_215 (mj_Ex false (mj_sh Ls) (mj_rf tp ip) Z d) R P) (hd : 5 ≤ d) {v1 : Int32} {v2 : Int32} {v3 : Int32} {m : mj_M} {r : mj_M} (h : md_works1 v1 v2 v3 m = some r) (hR : R none (110, x) r) : P (0, [some (.ref 68), some (.int v1), some (.int v2), some (.int v3), none, none, none], [], (110, x), m) := by
  unfold md_works1 at h
  obtain ⟨k1, h⟩ := mj_ifn h
  refine mj_gcp hC 9 ?_
  show _ ∧ (P (12, [some (.ref 68), some (.int v1), some (.int v2), some (.int v3), some (.int (mj_I (m 78 v3.toNatClampNeg))), none, none], [.int v3, .int v2, .int v1, .ref 68], (110, x), m))
  refine And.intro k1 (?_)
  obtain ⟨q2, eq2, h⟩ := mj_bnd h
  refine mj_pcall hC rfl (md_slipsBy_x (Nat.le_trans (by decide) hd) eq2) ?_
  show P (15, [some (.ref 68), some (.int v1), some (.int v2), some (.int v3), some (.int (mj_I (m 78 v3.toNatClampNeg))), none, none], [.int q2.1], (110, x), q2.2)
  obtain ⟨k3, h⟩ := mj_ifn h
  refine mj_gcp hC 16 ?_
  show _ ∧ (P (mj_pick 54 42 ((mj_I (q2.2 93 (((8 : Int32) * v1) + v3).toNatClampNeg)) ≤ v2), [some (.ref 68), some (.int v1), some (.int v2), some (.int v3), some (.int (mj_I (m 78 v3.toNatClampNeg))), some (.int q2.1), some (.int (((8 : Int32) * v1) + v3))], [.int (((8 : Int32) * v1) + v3), .ref 93], (110, x), q2.2))
  refine And.intro k3 (?_)
  refine mj_pbr (fun c4 => ?_) (fun c4 => ?_)
  · rw [if_pos c4] at h
    refine mj_gcp hC 1 ?_
    show P (55, [some (.ref 68), some (.int v1), some (.int v2), some (.int v3), some (.int (mj_I (m 78 v3.toNatClampNeg))), some (.int q2.1), some (.int (((8 : Int32) * v1) + v3))], [.int 0, .int (((8 : Int32) * v1) + v3), .ref 93], (110, x), q2.2)
    exact mj_less hC (L0 := [some (.ref 68), some (.int v1), none, none, some (.int (mj_I (m 78 v3.toNatClampNeg))), some (.int q2.1), some (.int (((8 : Int32) * v1) + v3))]) (And.intro rfl (And.intro rfl (And.intro rfl (And.intro rfl (And.intro rfl trivial))))) (md_works1_j55_x hC hd h hR)
  · rw [if_neg c4] at h
    obtain ⟨k13, h⟩ := mj_ifn h
    refine mj_gcp hC 7 ?_
    show _ ∧ (P (55, [some (.ref 68), some (.int v1), some (.int v2), some (.int v3), some (.int (mj_I (m 78 v3.toNatClampNeg))), some (.int q2.1), some (.int (((8 : Int32) * v1) + v3))], [.int ((mj_I (q2.2 93 (((8 : Int32) * v1) + v3).toNatClampNeg)) - v2), .int (((8 : Int32) * v1) + v3), .ref 93], (110, x), q2.2))
    refine And.intro k13 (?_)
    exact mj_less hC (L0 := [some (.ref 68), some (.int v1), none, none, some (.int (mj_I (m 78 v3.toNatClampNeg))), some (.int q2.1), some (.int (((8 : Int32) * v1) + v3))]) (And.intro rfl (And.intro rfl (And.intro rfl (And.intro rfl (And.intro rfl trivial))))) (md_works1_j55_x hC hd h hR)
set_option maxRecDepth 20000 in
theorem md_works1_x {Ls tp ip x d : Nat} {Z : mj_X} (hd : 6 ≤ d) {v1 : Int32} {v2 : Int32} {v3 : Int32} {m : mj_M} {r : mj_M} (h : md_works1 v1 v2 v3 m = some r) : mj_Ex false (mj_sh Ls) (mj_rf tp ip) Z d 215 [.ref 68, .int v1, .int v2, .int v3] (110, x) m none (110, x) r := by
  exact mj_Ex_of (cd := mj_cd_215) (L := [some (.ref 68), some (.int v1), some (.int v2), some (.int v3), none, none, none]) (by omega) (by decide) rfl (Nat.le_of_ble_eq_true rfl) rfl (fun P hC => md_works1_p hC (by omega) h ⟨rfl, rfl, rfl⟩)
def md_spreads_l2  (v1 : Int32) (v2 : Int32) (s2 : (Int32 × mj_M)) : Option (Nat × (Int32 × mj_M)) :=
  (if (mj_I (s2.2 68 12)) ≤ s2.1 then some (1, (s2.1, s2.2)) else
  (if (((6 : Int32) * v1) + s2.1) < 0 ∨ 12 ≤ ((((6 : Int32) * v1) + s2.1) : Int32).toNatClampNeg then none else
  (if s2.1 < 0 ∨ 6 ≤ (s2.1 : Int32).toNatClampNeg then none else
  some (0, ((s2.1 + 1), (mj_up s2.2 101 s2.1.toNatClampNeg (.int (mj_I (s2.2 96 (((6 : Int32) * v1) + s2.1).toNatClampNeg)))))))))
def md_spreads_j151l35   (v1 : Int32) (v2 : Int32) (v3 : Int32)  (m : mj_M) : Option (Nat × (Int32 × mj_M)) :=
  some (0, ((v3 + 1), m))
def md_spreads_j126l58   (v1 : Int32) (v2 : Int32) (v3 : Int32) (v4 : Int32)  (m : mj_M) : Option (Nat × (Int32 × mj_M)) :=
  some (0, ((v4 + 1), m))
def md_spreads_l58  (v1 : Int32) (v2 : Int32) (v3 : Int32) (s58 : (Int32 × mj_M)) : Option (Nat × (Int32 × mj_M)) :=
  (if (mj_I (s58.2 68 12)) ≤ s58.1 then some (1, (s58.1, s58.2)) else
  (if v3 < 0 ∨ 12 ≤ (v3 : Int32).toNatClampNeg then none else
  (if (md_isOf (mj_I (s58.2 76 v3.toNatClampNeg)) s58.1 s58.2) = 0 then md_spreads_j126l58 v1 v2 v3 s58.1 s58.2 else
  (if (((6 : Int32) * v1) + s58.1) < 0 ∨ 12 ≤ ((((6 : Int32) * v1) + s58.1) : Int32).toNatClampNeg then none else
  (if (mj_I (s58.2 97 (((6 : Int32) * v1) + s58.1).toNatClampNeg)) = 0 then md_spreads_j126l58 v1 v2 v3 s58.1 s58.2 else
  (if s58.1 < 0 ∨ 6 ≤ (s58.1 : Int32).toNatClampNeg then none else
  (if (mj_I (s58.2 101 s58.1.toNatClampNeg)) = 0 then (md_hushOf v1 v2 s58.1 s58.2).bind fun q15 =>
  (if (((6 : Int32) * v1) + s58.1) < 0 ∨ 12 ≤ ((((6 : Int32) * v1) + s58.1) : Int32).toNatClampNeg then none else
  md_spreads_j126l58 v1 v2 v3 s58.1 (mj_up q15.2 96 (((6 : Int32) * v1) + s58.1).toNatClampNeg (.int q15.1))) else
  md_spreads_j126l58 v1 v2 v3 s58.1 s58.2)))))))
def md_spreads_l35  (v1 : Int32) (v2 : Int32) (s35 : (Int32 × mj_M)) : Option (Nat × (Int32 × mj_M)) :=
  (if (mj_I (s35.2 68 12)) ≤ s35.1 then some (1, (s35.1, s35.2)) else
  (if s35.1 < 0 ∨ 6 ≤ (s35.1 : Int32).toNatClampNeg then none else
  (if (mj_I (s35.2 101 s35.1.toNatClampNeg)) = 0 then md_spreads_j151l35 v1 v2 s35.1 s35.2 else
  (mj_loop (md_spreads_l58 v1 v2 s35.1) mj_F (0, s35.2)).bind fun q17 =>
  (if s35.1 < 0 ∨ 6 ≤ (s35.1 : Int32).toNatClampNeg then none else
  (if (((6 : Int32) * v1) + s35.1) < 0 ∨ 12 ≤ ((((6 : Int32) * v1) + s35.1) : Int32).toNatClampNeg then none else
  md_spreads_j151l35 v1 v2 s35.1 (mj_up q17.2.2 96 (((6 : Int32) * v1) + s35.1).toNatClampNeg (.int ((mj_I (q17.2.2 101 s35.1.toNatClampNeg)) - 1))))))))
def md_spreads  (v1 : Int32) (v2 : Int32) (m : mj_M) : Option mj_M :=
  (mj_loop (md_spreads_l2 v1 v2) mj_F (0, m)).bind fun q4 =>
  (mj_loop (md_spreads_l35 v1 v2) mj_F (0, q4.2.2)).bind fun q20 =>
  some q20.2.2
set_option maxRecDepth 20000 in
theorem md_spreads_l2_x {Ls tp ip x d : Nat} {Z : mj_X} {R : Option Value → mj_G → mj_M → Prop} {P : mj_K → Prop} (hC : mj_cls false (mj_sh Ls) (mj_rf tp ip) mj_dv mj_cd_216 (mj_Ex false (mj_sh Ls) (mj_rf tp ip) Z d) R P) (hd : 5 ≤ d) {v1 : Int32} {v2 : Int32} (s2 : (Int32 × mj_M)) {t : Nat} {w : (Int32 × mj_M)} (h : md_spreads_l2 v1 v2 s2 = some (t, w)) (h0 : t = 0 → P (2, [some (.ref 68), some (.int v1), some (.int v2), some (.int w.1), none], [], (110, x), w.2)) (h1 : t = 1 → P (33, [some (.ref 68), some (.int v1), some (.int v2), none, none], [], (110, x), w.2)) : P (2, [some (.ref 68), some (.int v1), some (.int v2), some (.int s2.1), none], [], (110, x), s2.2) := by
  unfold md_spreads_l2 at h
  refine mj_gcp hC 4 ?_
  show P (mj_pick 33 10 ((mj_I (s2.2 68 12)) ≤ s2.1), [some (.ref 68), some (.int v1), some (.int v2), some (.int s2.1), none], [], (110, x), s2.2)
  refine mj_pbr (fun c1 => ?_) (fun c1 => ?_)
  · rw [if_pos c1] at h
    cases h
    exact mj_less hC (L0 := [some (.ref 68), some (.int v1), some (.int v2), none, none]) (And.intro rfl (And.intro rfl (And.intro rfl trivial))) (h1 rfl)
  · rw [if_neg c1] at h
    obtain ⟨k2, h⟩ := mj_ifn h
    obtain ⟨k3, h⟩ := mj_ifn h
    refine mj_gcp hC 14 ?_
    show _ ∧ (_ ∧ (P (2, [some (.ref 68), some (.int v1), some (.int v2), some (.int (s2.1 + 1)), none], [], (110, x), (mj_up s2.2 101 s2.1.toNatClampNeg (.int (mj_I (s2.2 96 (((6 : Int32) * v1) + s2.1).toNatClampNeg)))))))
    refine And.intro k2 (And.intro k3 (?_))
    cases h
    exact mj_less hC (L0 := [some (.ref 68), some (.int v1), some (.int v2), some (.int (s2.1 + 1)), none]) (And.intro rfl (And.intro rfl (And.intro rfl (And.intro rfl trivial)))) (h0 rfl)
set_option maxRecDepth 20000 in
theorem md_spreads_j151l35_x {Ls tp ip x d : Nat} {Z : mj_X} {R : Option Value → mj_G → mj_M → Prop} {P : mj_K → Prop} (hC : mj_cls false (mj_sh Ls) (mj_rf tp ip) mj_dv mj_cd_216 (mj_Ex false (mj_sh Ls) (mj_rf tp ip) Z d) R P) (hd : 5 ≤ d)  {v1 : Int32} {v2 : Int32} {v3 : Int32}  {m : mj_M} {t : Nat} {w : (Int32 × mj_M)} (h : md_spreads_j151l35  v1 v2 v3 m = some (t, w)) (h0 : t = 0 → P (35, [some (.ref 68), some (.int v1), some (.int v2), some (.int w.1), none], [], (110, x), w.2)) (h1 : t = 1 → P (157, [none, none, none, none, none], [], (110, x), w.2)) : P (151, [some (.ref 68), some (.int v1), some (.int v2), some (.int v3), none], [], (110, x), m) := by
  unfold md_spreads_j151l35 at h
  refine mj_gcp hC 2 ?_
  show P (35, [some (.ref 68), some (.int v1), some (.int v2), some (.int (v3 + 1)), none], [], (110, x), m)
  cases h
  exact mj_less hC (L0 := [some (.ref 68), some (.int v1), some (.int v2), some (.int (v3 + 1)), none]) (And.intro rfl (And.intro rfl (And.intro rfl (And.intro rfl trivial)))) (h0 rfl)
set_option maxRecDepth 20000 in
theorem md_spreads_j126l58_x {Ls tp ip x d : Nat} {Z : mj_X} {R : Option Value → mj_G → mj_M → Prop} {P : mj_K → Prop} (hC : mj_cls false (mj_sh Ls) (mj_rf tp ip) mj_dv mj_cd_216 (mj_Ex false (mj_sh Ls) (mj_rf tp ip) Z d) R P) (hd : 5 ≤ d)  {v1 : Int32} {v2 : Int32} {v3 : Int32} {v4 : Int32}  {m : mj_M} {t : Nat} {w : (Int32 × mj_M)} (h : md_spreads_j126l58  v1 v2 v3 v4 m = some (t, w)) (h0 : t = 0 → P (58, [some (.ref 68), some (.int v1), some (.int v2), some (.int v3), some (.int w.1)], [], (110, x), w.2)) (h1 : t = 1 → P (132, [some (.ref 68), some (.int v1), some (.int v2), some (.int v3), none], [], (110, x), w.2)) : P (126, [some (.ref 68), some (.int v1), some (.int v2), some (.int v3), some (.int v4)], [], (110, x), m) := by
  unfold md_spreads_j126l58 at h
  refine mj_gcp hC 2 ?_
  show P (58, [some (.ref 68), some (.int v1), some (.int v2), some (.int v3), some (.int (v4 + 1))], [], (110, x), m)
  cases h
  exact mj_less hC (L0 := [some (.ref 68), some (.int v1), some (.int v2), some (.int v3), some (.int (v4 + 1))]) (And.intro rfl (And.intro rfl (And.intro rfl (And.intro rfl (And.intro rfl trivial))))) (h0 rfl)
set_option maxRecDepth 20000 in
theorem md_spreads_l58_x {Ls tp ip x d : Nat} {Z : mj_X} {R : Option Value → mj_G → mj_M → Prop} {P : mj_K → Prop} (hC : mj_cls false (mj_sh Ls) (mj_rf tp ip) mj_dv mj_cd_216 (mj_Ex false (mj_sh Ls) (mj_rf tp ip) Z d) R P) (hd : 5 ≤ d) {v1 : Int32} {v2 : Int32} {v3 : Int32} (s58 : (Int32 × mj_M)) {t : Nat} {w : (Int32 × mj_M)} (h : md_spreads_l58 v1 v2 v3 s58 = some (t, w)) (h0 : t = 0 → P (58, [some (.ref 68), some (.int v1), some (.int v2), some (.int v3), some (.int w.1)], [], (110, x), w.2)) (h1 : t = 1 → P (132, [some (.ref 68), some (.int v1), some (.int v2), some (.int v3), none], [], (110, x), w.2)) : P (58, [some (.ref 68), some (.int v1), some (.int v2), some (.int v3), some (.int s58.1)], [], (110, x), s58.2) := by
  unfold md_spreads_l58 at h
  refine mj_gcp hC 4 ?_
  show P (mj_pick 132 67 ((mj_I (s58.2 68 12)) ≤ s58.1), [some (.ref 68), some (.int v1), some (.int v2), some (.int v3), some (.int s58.1)], [], (110, x), s58.2)
  refine mj_pbr (fun c8 => ?_) (fun c8 => ?_)
  · rw [if_pos c8] at h
    cases h
    exact mj_less hC (L0 := [some (.ref 68), some (.int v1), some (.int v2), some (.int v3), none]) (And.intro rfl (And.intro rfl (And.intro rfl (And.intro rfl trivial)))) (h1 rfl)
  · rw [if_neg c8] at h
    obtain ⟨k9, h⟩ := mj_ifn h
    refine mj_gcp hC 5 ?_
    show _ ∧ (P (75, [some (.ref 68), some (.int v1), some (.int v2), some (.int v3), some (.int s58.1)], [.int s58.1, .int (mj_I (s58.2 76 v3.toNatClampNeg))], (110, x), s58.2))
    refine And.intro k9 (?_)
    refine mj_pcall hC rfl (md_isOf_x (Nat.le_trans (by decide) hd)) ?_
    show P (78, [some (.ref 68), some (.int v1), some (.int v2), some (.int v3), some (.int s58.1)], [.int (md_isOf (mj_I (s58.2 76 v3.toNatClampNeg)) s58.1 s58.2)], (110, x), s58.2)
    refine mj_gcp hC 1 ?_
    show P (mj_pick 126 81 ((md_isOf (mj_I (s58.2 76 v3.toNatClampNeg)) s58.1 s58.2) = 0), [some (.ref 68), some (.int v1), some (.int v2), some (.int v3), some (.int s58.1)], [], (110, x), s58.2)
    refine mj_pbr (fun c10 => ?_) (fun c10 => ?_)
    · rw [if_pos c10] at h
      exact mj_less hC (L0 := [some (.ref 68), some (.int v1), some (.int v2), some (.int v3), some (.int s58.1)]) (And.intro rfl (And.intro rfl (And.intro rfl (And.intro rfl (And.intro rfl trivial))))) (md_spreads_j126l58_x hC hd h h0 h1)
    · rw [if_neg c10] at h
      obtain ⟨k11, h⟩ := mj_ifn h
      refine mj_gcp hC 9 ?_
      show _ ∧ (P (mj_pick 126 96 ((mj_I (s58.2 97 (((6 : Int32) * v1) + s58.1).toNatClampNeg)) = 0), [some (.ref 68), some (.int v1), some (.int v2), some (.int v3), some (.int s58.1)], [], (110, x), s58.2))
      refine And.intro k11 (?_)
      refine mj_pbr (fun c12 => ?_) (fun c12 => ?_)
      · rw [if_pos c12] at h
        exact mj_less hC (L0 := [some (.ref 68), some (.int v1), some (.int v2), some (.int v3), some (.int s58.1)]) (And.intro rfl (And.intro rfl (And.intro rfl (And.intro rfl (And.intro rfl trivial))))) (md_spreads_j126l58_x hC hd h h0 h1)
      · rw [if_neg c12] at h
        obtain ⟨k13, h⟩ := mj_ifn h
        refine mj_gcp hC 5 ?_
        show _ ∧ (P (mj_pick 106 126 ((mj_I (s58.2 101 s58.1.toNatClampNeg)) = 0), [some (.ref 68), some (.int v1), some (.int v2), some (.int v3), some (.int s58.1)], [], (110, x), s58.2))
        refine And.intro k13 (?_)
        refine mj_pbr (fun c14 => ?_) (fun c14 => ?_)
        · rw [if_pos c14] at h
          refine mj_gcp hC 11 ?_
          show P (122, [some (.ref 68), some (.int v1), some (.int v2), some (.int v3), some (.int s58.1)], [.int s58.1, .int v2, .int v1, .ref 68, .int (((6 : Int32) * v1) + s58.1), .ref 96], (110, x), s58.2)
          obtain ⟨q15, eq15, h⟩ := mj_bnd h
          refine mj_pcall hC rfl (md_hushOf_x (Nat.le_trans (by decide) hd) eq15) ?_
          show P (125, [some (.ref 68), some (.int v1), some (.int v2), some (.int v3), some (.int s58.1)], [.int q15.1, .int (((6 : Int32) * v1) + s58.1), .ref 96], (110, x), q15.2)
          obtain ⟨k16, h⟩ := mj_ifn h
          refine mj_gcp hC 1 ?_
          show _ ∧ (P (126, [some (.ref 68), some (.int v1), some (.int v2), some (.int v3), some (.int s58.1)], [], (110, x), (mj_up q15.2 96 (((6 : Int32) * v1) + s58.1).toNatClampNeg (.int q15.1))))
          refine And.intro k16 (?_)
          exact mj_less hC (L0 := [some (.ref 68), some (.int v1), some (.int v2), some (.int v3), some (.int s58.1)]) (And.intro rfl (And.intro rfl (And.intro rfl (And.intro rfl (And.intro rfl trivial))))) (md_spreads_j126l58_x hC hd h h0 h1)
        · rw [if_neg c14] at h
          exact mj_less hC (L0 := [some (.ref 68), some (.int v1), some (.int v2), some (.int v3), some (.int s58.1)]) (And.intro rfl (And.intro rfl (And.intro rfl (And.intro rfl (And.intro rfl trivial))))) (md_spreads_j126l58_x hC hd h h0 h1)
set_option maxRecDepth 20000 in
theorem md_spreads_l35_x {Ls tp ip x d : Nat} {Z : mj_X} {R : Option Value → mj_G → mj_M → Prop} {P : mj_K → Prop} (hC : mj_cls false (mj_sh Ls) (mj_rf tp ip) mj_dv mj_cd_216 (mj_Ex false (mj_sh Ls) (mj_rf tp ip) Z d) R P) (hd : 5 ≤ d) {v1 : Int32} {v2 : Int32} (s35 : (Int32 × mj_M)) {t : Nat} {w : (Int32 × mj_M)} (h : md_spreads_l35 v1 v2 s35 = some (t, w)) (h0 : t = 0 → P (35, [some (.ref 68), some (.int v1), some (.int v2), some (.int w.1), none], [], (110, x), w.2)) (h1 : t = 1 → P (157, [none, none, none, none, none], [], (110, x), w.2)) : P (35, [some (.ref 68), some (.int v1), some (.int v2), some (.int s35.1), none], [], (110, x), s35.2) := by
  unfold md_spreads_l35 at h
  refine mj_gcp hC 4 ?_
  show P (mj_pick 157 43 ((mj_I (s35.2 68 12)) ≤ s35.1), [some (.ref 68), some (.int v1), some (.int v2), some (.int s35.1), none], [], (110, x), s35.2)
  refine mj_pbr (fun c5 => ?_) (fun c5 => ?_)
  · rw [if_pos c5] at h
    cases h
    exact mj_less hC (L0 := [none, none, none, none, none]) trivial (h1 rfl)
  · rw [if_neg c5] at h
    obtain ⟨k6, h⟩ := mj_ifn h
    refine mj_gcp hC 5 ?_
    show _ ∧ (P (mj_pick 52 55 ((mj_I (s35.2 101 s35.1.toNatClampNeg)) = 0), [some (.ref 68), some (.int v1), some (.int v2), some (.int s35.1), none], [], (110, x), s35.2))
    refine And.intro k6 (?_)
    refine mj_pbr (fun c7 => ?_) (fun c7 => ?_)
    · rw [if_pos c7] at h
      refine mj_gcp hC 1 ?_
      show P (151, [some (.ref 68), some (.int v1), some (.int v2), some (.int s35.1), none], [], (110, x), s35.2)
      exact mj_less hC (L0 := [some (.ref 68), some (.int v1), some (.int v2), some (.int s35.1), none]) (And.intro rfl (And.intro rfl (And.intro rfl (And.intro rfl trivial)))) (md_spreads_j151l35_x hC hd h h0 h1)
    · rw [if_neg c7] at h
      refine mj_gcp hC 2 ?_
      show P (58, [some (.ref 68), some (.int v1), some (.int v2), some (.int s35.1), some (.int 0)], [], (110, x), s35.2)
      obtain ⟨q17, eq17, h⟩ := mj_bnd h
      refine mj_less hC (L0 := [some (.ref 68), some (.int v1), some (.int v2), some (.int s35.1), some (.int 0)]) (And.intro rfl (And.intro rfl (And.intro rfl (And.intro rfl (And.intro rfl trivial))))) ?_
      refine mj_loop_P (A := fun z58 => P (58, [some (.ref 68), some (.int v1), some (.int v2), some (.int s35.1), some (.int z58.1)], [], (110, x), z58.2)) (E := fun _ z58 => P (132, [some (.ref 68), some (.int v1), some (.int v2), some (.int s35.1), none], [], (110, x), z58.2)) (fun zz t w hb h0 h1 => md_spreads_l58_x hC hd zz hb h0 (fun ht => h1 0 ht)) mj_F _ q17 eq17 ?_
      obtain ⟨k18, h⟩ := mj_ifn h
      obtain ⟨k19, h⟩ := mj_ifn h
      refine mj_gcp hC 14 ?_
      show _ ∧ (_ ∧ (P (151, [some (.ref 68), some (.int v1), some (.int v2), some (.int s35.1), none], [], (110, x), (mj_up q17.2.2 96 (((6 : Int32) * v1) + s35.1).toNatClampNeg (.int ((mj_I (q17.2.2 101 s35.1.toNatClampNeg)) - 1))))))
      refine And.intro k18 (And.intro k19 (?_))
      exact mj_less hC (L0 := [some (.ref 68), some (.int v1), some (.int v2), some (.int s35.1), none]) (And.intro rfl (And.intro rfl (And.intro rfl (And.intro rfl trivial)))) (md_spreads_j151l35_x hC hd h h0 h1)
set_option maxRecDepth 20000 in
theorem md_spreads_p {Ls tp ip x d : Nat} {Z : mj_X} {R : Option Value → mj_G → mj_M → Prop} {P : mj_K → Prop} (hC : mj_cls false (mj_sh Ls) (mj_rf tp ip) mj_dv mj_cd_216 (mj_Ex false (mj_sh Ls) (mj_rf tp ip) Z d) R P) (hd : 5 ≤ d) {v1 : Int32} {v2 : Int32} {m : mj_M} {r : mj_M} (h : md_spreads v1 v2 m = some r) (hR : R none (110, x) r) : P (0, [some (.ref 68), some (.int v1), some (.int v2), none, none], [], (110, x), m) := by
  unfold md_spreads at h
  refine mj_gcp hC 2 ?_
  show P (2, [some (.ref 68), some (.int v1), some (.int v2), some (.int 0), none], [], (110, x), m)
  obtain ⟨q4, eq4, h⟩ := mj_bnd h
  refine mj_less hC (L0 := [some (.ref 68), some (.int v1), some (.int v2), some (.int 0), none]) (And.intro rfl (And.intro rfl (And.intro rfl (And.intro rfl trivial)))) ?_
  refine mj_loop_P (A := fun z2 => P (2, [some (.ref 68), some (.int v1), some (.int v2), some (.int z2.1), none], [], (110, x), z2.2)) (E := fun _ z2 => P (33, [some (.ref 68), some (.int v1), some (.int v2), none, none], [], (110, x), z2.2)) (fun zz t w hb h0 h1 => md_spreads_l2_x hC hd zz hb h0 (fun ht => h1 0 ht)) mj_F _ q4 eq4 ?_
  refine mj_gcp hC 2 ?_
  show P (35, [some (.ref 68), some (.int v1), some (.int v2), some (.int 0), none], [], (110, x), q4.2.2)
  obtain ⟨q20, eq20, h⟩ := mj_bnd h
  refine mj_less hC (L0 := [some (.ref 68), some (.int v1), some (.int v2), some (.int 0), none]) (And.intro rfl (And.intro rfl (And.intro rfl (And.intro rfl trivial)))) ?_
  refine mj_loop_P (A := fun z35 => P (35, [some (.ref 68), some (.int v1), some (.int v2), some (.int z35.1), none], [], (110, x), z35.2)) (E := fun _ z35 => P (157, [none, none, none, none, none], [], (110, x), z35.2)) (fun zz t w hb h0 h1 => md_spreads_l35_x hC hd zz hb h0 (fun ht => h1 0 ht)) mj_F _ q20 eq20 ?_
  cases h
  exact mj_pret hC rfl hR
set_option maxRecDepth 20000 in
theorem md_spreads_x {Ls tp ip x d : Nat} {Z : mj_X} (hd : 6 ≤ d) {v1 : Int32} {v2 : Int32} {m : mj_M} {r : mj_M} (h : md_spreads v1 v2 m = some r) : mj_Ex false (mj_sh Ls) (mj_rf tp ip) Z d 216 [.ref 68, .int v1, .int v2] (110, x) m none (110, x) r := by
  exact mj_Ex_of (cd := mj_cd_216) (L := [some (.ref 68), some (.int v1), some (.int v2), none, none]) (by omega) (by decide) rfl (Nat.le_of_ble_eq_true rfl) rfl (fun P hC => md_spreads_p hC (by omega) h ⟨rfl, rfl, rfl⟩)
def md_hourGoes_l26  (v1 : Int32) (v3 : Int32) (s26 : (Int32 × mj_M)) : Option (Nat × (Int32 × mj_M)) :=
  (if (mj_I (s26.2 68 12)) ≤ s26.1 then some (1, (s26.1, s26.2)) else
  (if (mj_I (s26.2 68 65)) = 0 then some (1, (s26.1, s26.2)) else
  (if (((6 : Int32) * v1) + s26.1) < 0 ∨ 12 ≤ ((((6 : Int32) * v1) + s26.1) : Int32).toNatClampNeg then none else
  some (0, ((s26.1 + 1), (mj_up s26.2 96 (((6 : Int32) * v1) + s26.1).toNatClampNeg (.int 0)))))))
def md_hourGoes_j95l64   (v1 : Int32) (v3 : Int32) (v4 : Int32)  (m : mj_M) : Option (Nat × (Int32 × mj_M)) :=
  some (0, ((v4 + 1), m))
def md_hourGoes_l64  (v1 : Int32) (v3 : Int32) (s64 : (Int32 × mj_M)) : Option (Nat × (Int32 × mj_M)) :=
  (if (mj_I (s64.2 68 14)) ≤ s64.1 then some (1, (s64.1, s64.2)) else
  (if v3 ≤ 0 then some (1, (s64.1, s64.2)) else
  (md_isOn v1 s64.1 s64.2).bind fun q9 =>
  (if q9 = 0 then md_hourGoes_j95l64 v1 v3 s64.1 s64.2 else
  (md_works1 v1 v3 s64.1 s64.2).bind fun q11 =>
  md_hourGoes_j95l64 v1 v3 s64.1 q11)))
def md_hourGoes_j144  (v1 : Int32) (s1 : Int32) (s2 : Int32) (m : mj_M) : Option mj_M :=
  (if s1 < 0 ∨ 2 ≤ (s1 : Int32).toNatClampNeg then none else
  (if v1 < 0 ∨ 2 ≤ (v1 : Int32).toNatClampNeg then none else
  (if v1 < 0 ∨ 2 ≤ (v1 : Int32).toNatClampNeg then none else
  some (mj_up (mj_up m 98 s1.toNatClampNeg (.int s2)) 100 v1.toNatClampNeg (.int ((mj_I (m 100 v1.toNatClampNeg)) + 1))))))
def md_hourGoes_j101  (v1 : Int32) (v3 : Int32)  (m : mj_M) : Option mj_M :=
  (md_spreads v1 v3 m).bind fun q13 =>
  (md_wearOf v1 v3 q13).bind fun q14 =>
  (if v1 < 0 ∨ 2 ≤ (v1 : Int32).toNatClampNeg then none else
  (if (mj_I (q14.2 98 v1.toNatClampNeg)) ≤ q14.1 then md_hourGoes_j144 v1 v1 0 q14.2 else
  (if v1 < 0 ∨ 2 ≤ (v1 : Int32).toNatClampNeg then none else
  md_hourGoes_j144 v1 v1 ((mj_I (q14.2 98 v1.toNatClampNeg)) - q14.1) q14.2)))
def md_hourGoes_j61  (v1 : Int32) (v3 : Int32)  (m : mj_M) : Option mj_M :=
  (mj_loop (md_hourGoes_l64 v1 v3) mj_F (0, m)).bind fun q12 =>
  md_hourGoes_j101 v1 v3 q12.2.2
def md_hourGoes  (v1 : Int32) (m : mj_M) : Option mj_M :=
  (md_isWasp v1 (mj_up (mj_up m 68 61 (.int 0)) 68 62 (.int 0))).bind fun q1 =>
  (md_beatOf v1 q1.1 q1.2).bind fun q2 =>
  (mj_loop (md_hourGoes_l26 v1 q2) mj_F (0, q1.2)).bind fun q6 =>
  md_hourGoes_j61 v1 q2 q6.2.2
set_option maxRecDepth 20000 in
theorem md_hourGoes_l26_x {Ls tp ip x d : Nat} {Z : mj_X} {R : Option Value → mj_G → mj_M → Prop} {P : mj_K → Prop} (hC : mj_cls false (mj_sh Ls) (mj_rf tp ip) mj_dv mj_cd_217 (mj_Ex false (mj_sh Ls) (mj_rf tp ip) Z d) R P) (hd : 6 ≤ d) {v1 : Int32} {v3 : Int32} (s26 : (Int32 × mj_M)) {t : Nat} {w : (Int32 × mj_M)} (h : md_hourGoes_l26 v1 v3 s26 = some (t, w)) (h0 : t = 0 → P (26, [some (.ref 68), some (.int v1), none, some (.int v3), some (.int w.1)], [], (110, x), w.2)) (h1 : t = 1 → P (61, [some (.ref 68), some (.int v1), none, some (.int v3), none], [], (110, x), w.2)) : P (26, [some (.ref 68), some (.int v1), none, some (.int v3), some (.int s26.1)], [], (110, x), s26.2) := by
  unfold md_hourGoes_l26 at h
  refine mj_gcp hC 4 ?_
  show P (mj_pick 61 35 ((mj_I (s26.2 68 12)) ≤ s26.1), [some (.ref 68), some (.int v1), none, some (.int v3), some (.int s26.1)], [], (110, x), s26.2)
  refine mj_pbr (fun c3 => ?_) (fun c3 => ?_)
  · rw [if_pos c3] at h
    cases h
    exact mj_less hC (L0 := [some (.ref 68), some (.int v1), none, some (.int v3), none]) (And.intro rfl (And.intro rfl (And.intro rfl trivial))) (h1 rfl)
  · rw [if_neg c3] at h
    refine mj_gcp hC 3 ?_
    show P (mj_pick 61 42 ((mj_I (s26.2 68 65)) = 0), [some (.ref 68), some (.int v1), none, some (.int v3), some (.int s26.1)], [], (110, x), s26.2)
    refine mj_pbr (fun c4 => ?_) (fun c4 => ?_)
    · rw [if_pos c4] at h
      cases h
      exact mj_less hC (L0 := [some (.ref 68), some (.int v1), none, some (.int v3), none]) (And.intro rfl (And.intro rfl (And.intro rfl trivial))) (h1 rfl)
    · rw [if_neg c4] at h
      obtain ⟨k5, h⟩ := mj_ifn h
      refine mj_gcp hC 11 ?_
      show _ ∧ (P (26, [some (.ref 68), some (.int v1), none, some (.int v3), some (.int (s26.1 + 1))], [], (110, x), (mj_up s26.2 96 (((6 : Int32) * v1) + s26.1).toNatClampNeg (.int 0))))
      refine And.intro k5 (?_)
      cases h
      exact mj_less hC (L0 := [some (.ref 68), some (.int v1), none, some (.int v3), some (.int (s26.1 + 1))]) (And.intro rfl (And.intro rfl (And.intro rfl (And.intro rfl trivial)))) (h0 rfl)
set_option maxRecDepth 20000 in
theorem md_hourGoes_j95l64_x {Ls tp ip x d : Nat} {Z : mj_X} {R : Option Value → mj_G → mj_M → Prop} {P : mj_K → Prop} (hC : mj_cls false (mj_sh Ls) (mj_rf tp ip) mj_dv mj_cd_217 (mj_Ex false (mj_sh Ls) (mj_rf tp ip) Z d) R P) (hd : 6 ≤ d)  {v1 : Int32} {v3 : Int32} {v4 : Int32}  {m : mj_M} {t : Nat} {w : (Int32 × mj_M)} (h : md_hourGoes_j95l64  v1 v3 v4 m = some (t, w)) (h0 : t = 0 → P (64, [some (.ref 68), some (.int v1), none, some (.int v3), some (.int w.1)], [], (110, x), w.2)) (h1 : t = 1 → P (101, [some (.ref 68), some (.int v1), none, some (.int v3), none], [], (110, x), w.2)) : P (95, [some (.ref 68), some (.int v1), none, some (.int v3), some (.int v4)], [], (110, x), m) := by
  unfold md_hourGoes_j95l64 at h
  refine mj_gcp hC 2 ?_
  show P (64, [some (.ref 68), some (.int v1), none, some (.int v3), some (.int (v4 + 1))], [], (110, x), m)
  cases h
  exact mj_less hC (L0 := [some (.ref 68), some (.int v1), none, some (.int v3), some (.int (v4 + 1))]) (And.intro rfl (And.intro rfl (And.intro rfl (And.intro rfl trivial)))) (h0 rfl)
set_option maxRecDepth 20000 in
theorem md_hourGoes_l64_x {Ls tp ip x d : Nat} {Z : mj_X} {R : Option Value → mj_G → mj_M → Prop} {P : mj_K → Prop} (hC : mj_cls false (mj_sh Ls) (mj_rf tp ip) mj_dv mj_cd_217 (mj_Ex false (mj_sh Ls) (mj_rf tp ip) Z d) R P) (hd : 6 ≤ d) {v1 : Int32} {v3 : Int32} (s64 : (Int32 × mj_M)) {t : Nat} {w : (Int32 × mj_M)} (h : md_hourGoes_l64 v1 v3 s64 = some (t, w)) (h0 : t = 0 → P (64, [some (.ref 68), some (.int v1), none, some (.int v3), some (.int w.1)], [], (110, x), w.2)) (h1 : t = 1 → P (101, [some (.ref 68), some (.int v1), none, some (.int v3), none], [], (110, x), w.2)) : P (64, [some (.ref 68), some (.int v1), none, some (.int v3), some (.int s64.1)], [], (110, x), s64.2) := by
  unfold md_hourGoes_l64 at h
  refine mj_gcp hC 4 ?_
  show P (mj_pick 101 73 ((mj_I (s64.2 68 14)) ≤ s64.1), [some (.ref 68), some (.int v1), none, some (.int v3), some (.int s64.1)], [], (110, x), s64.2)
  refine mj_pbr (fun c7 => ?_) (fun c7 => ?_)
  · rw [if_pos c7] at h
    cases h
    exact mj_less hC (L0 := [some (.ref 68), some (.int v1), none, some (.int v3), none]) (And.intro rfl (And.intro rfl (And.intro rfl trivial))) (h1 rfl)
  · rw [if_neg c7] at h
    refine mj_gcp hC 2 ?_
    show P (mj_pick 101 77 (v3 ≤ 0), [some (.ref 68), some (.int v1), none, some (.int v3), some (.int s64.1)], [], (110, x), s64.2)
    refine mj_pbr (fun c8 => ?_) (fun c8 => ?_)
    · rw [if_pos c8] at h
      cases h
      exact mj_less hC (L0 := [some (.ref 68), some (.int v1), none, some (.int v3), none]) (And.intro rfl (And.intro rfl (And.intro rfl trivial))) (h1 rfl)
    · rw [if_neg c8] at h
      refine mj_gcp hC 3 ?_
      show P (81, [some (.ref 68), some (.int v1), none, some (.int v3), some (.int s64.1)], [.int s64.1, .int v1, .ref 68], (110, x), s64.2)
      obtain ⟨q9, eq9, h⟩ := mj_bnd h
      refine mj_pcall hC rfl (md_isOn_x (Nat.le_trans (by decide) hd) eq9) ?_
      show P (84, [some (.ref 68), some (.int v1), none, some (.int v3), some (.int s64.1)], [.int q9], (110, x), s64.2)
      refine mj_gcp hC 1 ?_
      show P (mj_pick 95 87 (q9 = 0), [some (.ref 68), some (.int v1), none, some (.int v3), some (.int s64.1)], [], (110, x), s64.2)
      refine mj_pbr (fun c10 => ?_) (fun c10 => ?_)
      · rw [if_pos c10] at h
        exact mj_less hC (L0 := [some (.ref 68), some (.int v1), none, some (.int v3), some (.int s64.1)]) (And.intro rfl (And.intro rfl (And.intro rfl (And.intro rfl trivial)))) (md_hourGoes_j95l64_x hC hd h h0 h1)
      · rw [if_neg c10] at h
        refine mj_gcp hC 4 ?_
        show P (92, [some (.ref 68), some (.int v1), none, some (.int v3), some (.int s64.1)], [.int s64.1, .int v3, .int v1, .ref 68], (110, x), s64.2)
        obtain ⟨q11, eq11, h⟩ := mj_bnd h
        refine mj_pcall hC rfl (md_works1_x (Nat.le_trans (by decide) hd) eq11) ?_
        show P (95, [some (.ref 68), some (.int v1), none, some (.int v3), some (.int s64.1)], [], (110, x), q11)
        exact mj_less hC (L0 := [some (.ref 68), some (.int v1), none, some (.int v3), some (.int s64.1)]) (And.intro rfl (And.intro rfl (And.intro rfl (And.intro rfl trivial)))) (md_hourGoes_j95l64_x hC hd h h0 h1)
set_option maxRecDepth 20000 in
theorem md_hourGoes_j144_x {Ls tp ip x d : Nat} {Z : mj_X} {R : Option Value → mj_G → mj_M → Prop} {P : mj_K → Prop} (hC : mj_cls false (mj_sh Ls) (mj_rf tp ip) mj_dv mj_cd_217 (mj_Ex false (mj_sh Ls) (mj_rf tp ip) Z d) R P) (hd : 6 ≤ d) {v1 : Int32} {s1 : Int32} {s2 : Int32} {m : mj_M} {r : mj_M} (h : md_hourGoes_j144 v1 s1 s2 m = some r) (hR : R none (110, x) r) : P (144, [some (.ref 68), some (.int v1), none, none, none], [.int s2, .int s1, .ref 98], (110, x), m) := by
  unfold md_hourGoes_j144 at h
  obtain ⟨k17, h⟩ := mj_ifn h
  obtain ⟨k18, h⟩ := mj_ifn h
  obtain ⟨k19, h⟩ := mj_ifn h
  refine mj_gcp hC 9 ?_
  show _ ∧ (_ ∧ (_ ∧ (P (155, [some (.ref 68), some (.int v1), none, none, none], [], (110, x), (mj_up (mj_up m 98 s1.toNatClampNeg (.int s2)) 100 v1.toNatClampNeg (.int ((mj_I (m 100 v1.toNatClampNeg)) + 1)))))))
  refine And.intro k17 (And.intro k18 (And.intro k19 (?_)))
  cases h
  exact mj_pret hC rfl hR
set_option maxRecDepth 20000 in
theorem md_hourGoes_j101_x {Ls tp ip x d : Nat} {Z : mj_X} {R : Option Value → mj_G → mj_M → Prop} {P : mj_K → Prop} (hC : mj_cls false (mj_sh Ls) (mj_rf tp ip) mj_dv mj_cd_217 (mj_Ex false (mj_sh Ls) (mj_rf tp ip) Z d) R P) (hd : 6 ≤ d) {v1 : Int32} {v3 : Int32}  {m : mj_M} {r : mj_M} (h : md_hourGoes_j101 v1 v3 m = some r) (hR : R none (110, x) r) : P (101, [some (.ref 68), some (.int v1), none, some (.int v3), none], [], (110, x), m) := by
  unfold md_hourGoes_j101 at h
  refine mj_gcp hC 3 ?_
  show P (104, [some (.ref 68), some (.int v1), none, some (.int v3), none], [.int v3, .int v1, .ref 68], (110, x), m)
  obtain ⟨q13, eq13, h⟩ := mj_bnd h
  refine mj_pcall hC rfl (md_spreads_x (Nat.le_trans (by decide) hd) eq13) ?_
  show P (107, [some (.ref 68), some (.int v1), none, some (.int v3), none], [], (110, x), q13)
  refine mj_gcp hC 3 ?_
  show P (110, [some (.ref 68), some (.int v1), none, some (.int v3), none], [.int v3, .int v1, .ref 68], (110, x), q13)
  obtain ⟨q14, eq14, h⟩ := mj_bnd h
  refine mj_pcall hC rfl (md_wearOf_x (Nat.le_trans (by decide) hd) eq14) ?_
  show P (113, [some (.ref 68), some (.int v1), none, some (.int v3), none], [.int q14.1], (110, x), q14.2)
  obtain ⟨k15, h⟩ := mj_ifn h
  refine mj_gcp hC 10 ?_
  show _ ∧ (P (mj_pick 143 131 ((mj_I (q14.2 98 v1.toNatClampNeg)) ≤ q14.1), [some (.ref 68), some (.int v1), none, some (.int v3), some (.int q14.1)], [.int v1, .ref 98], (110, x), q14.2))
  refine And.intro k15 (?_)
  refine mj_pbr (fun c16 => ?_) (fun c16 => ?_)
  · rw [if_pos c16] at h
    refine mj_gcp hC 1 ?_
    show P (144, [some (.ref 68), some (.int v1), none, some (.int v3), some (.int q14.1)], [.int 0, .int v1, .ref 98], (110, x), q14.2)
    exact mj_less hC (L0 := [some (.ref 68), some (.int v1), none, none, none]) (And.intro rfl (And.intro rfl trivial)) (md_hourGoes_j144_x hC hd h hR)
  · rw [if_neg c16] at h
    obtain ⟨k20, h⟩ := mj_ifn h
    refine mj_gcp hC 7 ?_
    show _ ∧ (P (144, [some (.ref 68), some (.int v1), none, some (.int v3), some (.int q14.1)], [.int ((mj_I (q14.2 98 v1.toNatClampNeg)) - q14.1), .int v1, .ref 98], (110, x), q14.2))
    refine And.intro k20 (?_)
    exact mj_less hC (L0 := [some (.ref 68), some (.int v1), none, none, none]) (And.intro rfl (And.intro rfl trivial)) (md_hourGoes_j144_x hC hd h hR)
set_option maxRecDepth 20000 in
theorem md_hourGoes_j61_x {Ls tp ip x d : Nat} {Z : mj_X} {R : Option Value → mj_G → mj_M → Prop} {P : mj_K → Prop} (hC : mj_cls false (mj_sh Ls) (mj_rf tp ip) mj_dv mj_cd_217 (mj_Ex false (mj_sh Ls) (mj_rf tp ip) Z d) R P) (hd : 6 ≤ d) {v1 : Int32} {v3 : Int32}  {m : mj_M} {r : mj_M} (h : md_hourGoes_j61 v1 v3 m = some r) (hR : R none (110, x) r) : P (61, [some (.ref 68), some (.int v1), none, some (.int v3), none], [], (110, x), m) := by
  unfold md_hourGoes_j61 at h
  refine mj_gcp hC 2 ?_
  show P (64, [some (.ref 68), some (.int v1), none, some (.int v3), some (.int 0)], [], (110, x), m)
  obtain ⟨q12, eq12, h⟩ := mj_bnd h
  refine mj_less hC (L0 := [some (.ref 68), some (.int v1), none, some (.int v3), some (.int 0)]) (And.intro rfl (And.intro rfl (And.intro rfl (And.intro rfl trivial)))) ?_
  refine mj_loop_P (A := fun z64 => P (64, [some (.ref 68), some (.int v1), none, some (.int v3), some (.int z64.1)], [], (110, x), z64.2)) (E := fun _ z64 => P (101, [some (.ref 68), some (.int v1), none, some (.int v3), none], [], (110, x), z64.2)) (fun zz t w hb h0 h1 => md_hourGoes_l64_x hC hd zz hb h0 (fun ht => h1 0 ht)) mj_F _ q12 eq12 ?_
  exact mj_less hC (L0 := [some (.ref 68), some (.int v1), none, some (.int v3), none]) (And.intro rfl (And.intro rfl (And.intro rfl trivial))) (md_hourGoes_j101_x hC hd h hR)
set_option maxRecDepth 20000 in
theorem md_hourGoes_p {Ls tp ip x d : Nat} {Z : mj_X} {R : Option Value → mj_G → mj_M → Prop} {P : mj_K → Prop} (hC : mj_cls false (mj_sh Ls) (mj_rf tp ip) mj_dv mj_cd_217 (mj_Ex false (mj_sh Ls) (mj_rf tp ip) Z d) R P) (hd : 6 ≤ d) {v1 : Int32} {m : mj_M} {r : mj_M} (h : md_hourGoes v1 m = some r) (hR : R none (110, x) r) : P (0, [some (.ref 68), some (.int v1), none, none, none], [], (110, x), m) := by
  unfold md_hourGoes at h
  refine mj_gcp hC 8 ?_
  show P (12, [some (.ref 68), some (.int v1), none, none, none], [.int v1, .ref 68], (110, x), (mj_up (mj_up m 68 61 (.int 0)) 68 62 (.int 0)))
  obtain ⟨q1, eq1, h⟩ := mj_bnd h
  refine mj_pcall hC rfl (md_isWasp_x (Nat.le_trans (by decide) hd) eq1) ?_
  show P (15, [some (.ref 68), some (.int v1), none, none, none], [.int q1.1], (110, x), q1.2)
  refine mj_gcp hC 4 ?_
  show P (19, [some (.ref 68), some (.int v1), some (.int q1.1), none, none], [.int q1.1, .int v1, .ref 68], (110, x), q1.2)
  obtain ⟨q2, eq2, h⟩ := mj_bnd h
  refine mj_pcall hC rfl (md_beatOf_x (Nat.le_trans (by decide) hd) eq2) ?_
  show P (22, [some (.ref 68), some (.int v1), some (.int q1.1), none, none], [.int q2], (110, x), q1.2)
  refine mj_gcp hC 3 ?_
  show P (26, [some (.ref 68), some (.int v1), some (.int q1.1), some (.int q2), some (.int 0)], [], (110, x), q1.2)
  obtain ⟨q6, eq6, h⟩ := mj_bnd h
  refine mj_less hC (L0 := [some (.ref 68), some (.int v1), none, some (.int q2), some (.int 0)]) (And.intro rfl (And.intro rfl (And.intro rfl (And.intro rfl trivial)))) ?_
  refine mj_loop_P (A := fun z26 => P (26, [some (.ref 68), some (.int v1), none, some (.int q2), some (.int z26.1)], [], (110, x), z26.2)) (E := fun _ z26 => P (61, [some (.ref 68), some (.int v1), none, some (.int q2), none], [], (110, x), z26.2)) (fun zz t w hb h0 h1 => md_hourGoes_l26_x hC hd zz hb h0 (fun ht => h1 0 ht)) mj_F _ q6 eq6 ?_
  exact mj_less hC (L0 := [some (.ref 68), some (.int v1), none, some (.int q2), none]) (And.intro rfl (And.intro rfl (And.intro rfl trivial))) (md_hourGoes_j61_x hC hd h hR)
set_option maxRecDepth 20000 in
theorem md_hourGoes_x {Ls tp ip x d : Nat} {Z : mj_X} (hd : 7 ≤ d) {v1 : Int32} {m : mj_M} {r : mj_M} (h : md_hourGoes v1 m = some r) : mj_Ex false (mj_sh Ls) (mj_rf tp ip) Z d 217 [.ref 68, .int v1] (110, x) m none (110, x) r := by
  exact mj_Ex_of (cd := mj_cd_217) (L := [some (.ref 68), some (.int v1), none, none, none]) (by omega) (by decide) rfl (Nat.le_of_ble_eq_true rfl) rfl (fun P hC => md_hourGoes_p hC (by omega) h ⟨rfl, rfl, rfl⟩)
def md_goMany_l2  (v1 : Int32) (s2 : (Int32 × mj_M)) : Option (Nat × (Int32 × mj_M)) :=
  (if v1 ≤ s2.1 then some (1, (s2.1, s2.2)) else
  (md_hourGoes 1 s2.2).bind fun q2 =>
  some (0, ((s2.1 + 1), q2)))
def md_goMany  (v1 : Int32) (m : mj_M) : Option mj_M :=
  (mj_loop (md_goMany_l2 v1) mj_F (0, m)).bind fun q3 =>
  some q3.2.2
set_option maxRecDepth 20000 in
theorem md_goMany_l2_x {Ls tp ip x d : Nat} {Z : mj_X} {R : Option Value → mj_G → mj_M → Prop} {P : mj_K → Prop} (hC : mj_cls false (mj_sh Ls) (mj_rf tp ip) mj_dv mj_cd_218 (mj_Ex false (mj_sh Ls) (mj_rf tp ip) Z d) R P) (hd : 7 ≤ d) {v1 : Int32} (s2 : (Int32 × mj_M)) {t : Nat} {w : (Int32 × mj_M)} (h : md_goMany_l2 v1 s2 = some (t, w)) (h0 : t = 0 → P (2, [some (.ref 68), some (.int v1), some (.int w.1)], [], (110, x), w.2)) (h1 : t = 1 → P (18, [none, none, none], [], (110, x), w.2)) : P (2, [some (.ref 68), some (.int v1), some (.int s2.1)], [], (110, x), s2.2) := by
  unfold md_goMany_l2 at h
  refine mj_gcp hC 3 ?_
  show P (mj_pick 18 7 (v1 ≤ s2.1), [some (.ref 68), some (.int v1), some (.int s2.1)], [], (110, x), s2.2)
  refine mj_pbr (fun c1 => ?_) (fun c1 => ?_)
  · rw [if_pos c1] at h
    cases h
    exact mj_less hC (L0 := [none, none, none]) trivial (h1 rfl)
  · rw [if_neg c1] at h
    refine mj_gcp hC 2 ?_
    show P (9, [some (.ref 68), some (.int v1), some (.int s2.1)], [.int 1, .ref 68], (110, x), s2.2)
    obtain ⟨q2, eq2, h⟩ := mj_bnd h
    refine mj_pcall hC rfl (md_hourGoes_x (Nat.le_trans (by decide) hd) eq2) ?_
    show P (12, [some (.ref 68), some (.int v1), some (.int s2.1)], [], (110, x), q2)
    refine mj_gcp hC 2 ?_
    show P (2, [some (.ref 68), some (.int v1), some (.int (s2.1 + 1))], [], (110, x), q2)
    cases h
    exact mj_less hC (L0 := [some (.ref 68), some (.int v1), some (.int (s2.1 + 1))]) (And.intro rfl (And.intro rfl (And.intro rfl trivial))) (h0 rfl)
set_option maxRecDepth 20000 in
theorem md_goMany_p {Ls tp ip x d : Nat} {Z : mj_X} {R : Option Value → mj_G → mj_M → Prop} {P : mj_K → Prop} (hC : mj_cls false (mj_sh Ls) (mj_rf tp ip) mj_dv mj_cd_218 (mj_Ex false (mj_sh Ls) (mj_rf tp ip) Z d) R P) (hd : 7 ≤ d) {v1 : Int32} {m : mj_M} {r : mj_M} (h : md_goMany v1 m = some r) (hR : R none (110, x) r) : P (0, [some (.ref 68), some (.int v1), none], [], (110, x), m) := by
  unfold md_goMany at h
  refine mj_gcp hC 2 ?_
  show P (2, [some (.ref 68), some (.int v1), some (.int 0)], [], (110, x), m)
  obtain ⟨q3, eq3, h⟩ := mj_bnd h
  refine mj_less hC (L0 := [some (.ref 68), some (.int v1), some (.int 0)]) (And.intro rfl (And.intro rfl (And.intro rfl trivial))) ?_
  refine mj_loop_P (A := fun z2 => P (2, [some (.ref 68), some (.int v1), some (.int z2.1)], [], (110, x), z2.2)) (E := fun _ z2 => P (18, [none, none, none], [], (110, x), z2.2)) (fun zz t w hb h0 h1 => md_goMany_l2_x hC hd zz hb h0 (fun ht => h1 0 ht)) mj_F _ q3 eq3 ?_
  cases h
  exact mj_pret hC rfl hR
set_option maxRecDepth 20000 in
theorem md_goMany_x {Ls tp ip x d : Nat} {Z : mj_X} (hd : 8 ≤ d) {v1 : Int32} {m : mj_M} {r : mj_M} (h : md_goMany v1 m = some r) : mj_Ex false (mj_sh Ls) (mj_rf tp ip) Z d 218 [.ref 68, .int v1] (110, x) m none (110, x) r := by
  exact mj_Ex_of (cd := mj_cd_218) (L := [some (.ref 68), some (.int v1), none]) (by omega) (by decide) rfl (Nat.le_of_ble_eq_true rfl) rfl (fun P hC => md_goMany_p hC (by omega) h ⟨rfl, rfl, rfl⟩)
def md_doneAll_j32l4   (v1 : Int32) (v3 : Int32) (s0 : Int32) (s1 : Int32) (m : mj_M) : Option (Nat × (Int32 × Int32)) :=
  some (0, ((s0 + s1), (v3 + 1)))
def md_doneAll_l4  (v1 : Int32) (m : mj_M) (s4 : (Int32 × Int32)) : Option (Nat × (Int32 × Int32)) :=
  (if (mj_I (m 68 14)) ≤ s4.2 then some (1, (s4.1, s4.2)) else
  (if (((8 : Int32) * v1) + s4.2) < 0 ∨ 16 ≤ ((((8 : Int32) * v1) + s4.2) : Int32).toNatClampNeg then none else
  (if (mj_I (m 93 (((8 : Int32) * v1) + s4.2).toNatClampNeg)) = 0 then md_doneAll_j32l4 v1 s4.2 s4.1 1 m else
  md_doneAll_j32l4 v1 s4.2 s4.1 0 m)))
def md_doneAll  (v1 : Int32) (m : mj_M) : Option Int32 :=
  (mj_loop (md_doneAll_l4 v1 m) mj_F (0, 0)).bind fun q4 =>
  some q4.2.1
set_option maxRecDepth 20000 in
theorem md_doneAll_j32l4_x {Ls tp ip x d : Nat} {Z : mj_X} {R : Option Value → mj_G → mj_M → Prop} {P : mj_K → Prop} (hC : mj_cls false (mj_sh Ls) (mj_rf tp ip) mj_dv mj_cd_219 (mj_Ex false (mj_sh Ls) (mj_rf tp ip) Z d) R P) (hd : 0 ≤ d)  {v1 : Int32} {v3 : Int32} {s0 : Int32} {s1 : Int32} {m : mj_M} {t : Nat} {w : (Int32 × Int32)} (h : md_doneAll_j32l4  v1 v3 s0 s1 m = some (t, w)) (h0 : t = 0 → P (4, [some (.ref 68), some (.int v1), some (.int w.1), some (.int w.2)], [], (110, x), m)) (h1 : t = 1 → P (40, [none, none, some (.int w.1), none], [], (110, x), m)) : P (32, [some (.ref 68), some (.int v1), none, some (.int v3)], [.int s1, .int s0], (110, x), m) := by
  unfold md_doneAll_j32l4 at h
  refine mj_gcp hC 4 ?_
  show P (4, [some (.ref 68), some (.int v1), some (.int (s0 + s1)), some (.int (v3 + 1))], [], (110, x), m)
  cases h
  exact mj_less hC (L0 := [some (.ref 68), some (.int v1), some (.int (s0 + s1)), some (.int (v3 + 1))]) (And.intro rfl (And.intro rfl (And.intro rfl (And.intro rfl trivial)))) (h0 rfl)
set_option maxRecDepth 20000 in
theorem md_doneAll_l4_x {Ls tp ip x d : Nat} {Z : mj_X} {R : Option Value → mj_G → mj_M → Prop} {P : mj_K → Prop} (hC : mj_cls false (mj_sh Ls) (mj_rf tp ip) mj_dv mj_cd_219 (mj_Ex false (mj_sh Ls) (mj_rf tp ip) Z d) R P) (hd : 0 ≤ d) {v1 : Int32} {m : mj_M} (s4 : (Int32 × Int32)) {t : Nat} {w : (Int32 × Int32)} (h : md_doneAll_l4 v1 m s4 = some (t, w)) (h0 : t = 0 → P (4, [some (.ref 68), some (.int v1), some (.int w.1), some (.int w.2)], [], (110, x), m)) (h1 : t = 1 → P (40, [none, none, some (.int w.1), none], [], (110, x), m)) : P (4, [some (.ref 68), some (.int v1), some (.int s4.1), some (.int s4.2)], [], (110, x), m) := by
  unfold md_doneAll_l4 at h
  refine mj_gcp hC 4 ?_
  show P (mj_pick 40 12 ((mj_I (m 68 14)) ≤ s4.2), [some (.ref 68), some (.int v1), some (.int s4.1), some (.int s4.2)], [], (110, x), m)
  refine mj_pbr (fun c1 => ?_) (fun c1 => ?_)
  · rw [if_pos c1] at h
    cases h
    exact mj_less hC (L0 := [none, none, some (.int s4.1), none]) (And.intro rfl trivial) (h1 rfl)
  · rw [if_neg c1] at h
    obtain ⟨k2, h⟩ := mj_ifn h
    refine mj_gcp hC 10 ?_
    show _ ∧ (P (mj_pick 27 31 ((mj_I (m 93 (((8 : Int32) * v1) + s4.2).toNatClampNeg)) = 0), [some (.ref 68), some (.int v1), some (.int s4.1), some (.int s4.2)], [.int s4.1], (110, x), m))
    refine And.intro k2 (?_)
    refine mj_pbr (fun c3 => ?_) (fun c3 => ?_)
    · rw [if_pos c3] at h
      refine mj_gcp hC 2 ?_
      show P (32, [some (.ref 68), some (.int v1), some (.int s4.1), some (.int s4.2)], [.int 1, .int s4.1], (110, x), m)
      exact mj_less hC (L0 := [some (.ref 68), some (.int v1), none, some (.int s4.2)]) (And.intro rfl (And.intro rfl (And.intro rfl trivial))) (md_doneAll_j32l4_x hC hd h h0 h1)
    · rw [if_neg c3] at h
      refine mj_gcp hC 1 ?_
      show P (32, [some (.ref 68), some (.int v1), some (.int s4.1), some (.int s4.2)], [.int 0, .int s4.1], (110, x), m)
      exact mj_less hC (L0 := [some (.ref 68), some (.int v1), none, some (.int s4.2)]) (And.intro rfl (And.intro rfl (And.intro rfl trivial))) (md_doneAll_j32l4_x hC hd h h0 h1)
set_option maxRecDepth 20000 in
theorem md_doneAll_p {Ls tp ip x d : Nat} {Z : mj_X} {R : Option Value → mj_G → mj_M → Prop} {P : mj_K → Prop} (hC : mj_cls false (mj_sh Ls) (mj_rf tp ip) mj_dv mj_cd_219 (mj_Ex false (mj_sh Ls) (mj_rf tp ip) Z d) R P) (hd : 0 ≤ d) {v1 : Int32} {m : mj_M} {r : Int32} (h : md_doneAll v1 m = some r) (hR : R (some (.int r)) (110, x) m) : P (0, [some (.ref 68), some (.int v1), none, none], [], (110, x), m) := by
  unfold md_doneAll at h
  refine mj_gcp hC 4 ?_
  show P (4, [some (.ref 68), some (.int v1), some (.int 0), some (.int 0)], [], (110, x), m)
  obtain ⟨q4, eq4, h⟩ := mj_bnd h
  refine mj_less hC (L0 := [some (.ref 68), some (.int v1), some (.int 0), some (.int 0)]) (And.intro rfl (And.intro rfl (And.intro rfl (And.intro rfl trivial)))) ?_
  refine mj_loop_P (A := fun z4 => P (4, [some (.ref 68), some (.int v1), some (.int z4.1), some (.int z4.2)], [], (110, x), m)) (E := fun _ z4 => P (40, [none, none, some (.int z4.1), none], [], (110, x), m)) (fun zz t w hb h0 h1 => md_doneAll_l4_x hC hd zz hb h0 (fun ht => h1 0 ht)) mj_F _ q4 eq4 ?_
  refine mj_gcp hC 1 ?_
  show P (41, [none, none, some (.int q4.2.1), none], [.int q4.2.1], (110, x), m)
  cases h
  exact mj_pret hC rfl hR
set_option maxRecDepth 20000 in
theorem md_doneAll_x {Ls tp ip x d : Nat} {Z : mj_X} (hd : 1 ≤ d) {v1 : Int32} {m : mj_M} {r : Int32} (h : md_doneAll v1 m = some r) : mj_Ex false (mj_sh Ls) (mj_rf tp ip) Z d 219 [.ref 68, .int v1] (110, x) m (some (.int r)) (110, x) m := by
  exact mj_Ex_of (cd := mj_cd_219) (L := [some (.ref 68), some (.int v1), none, none]) (by omega) (by decide) rfl (Nat.le_of_ble_eq_true rfl) rfl (fun P hC => md_doneAll_p hC (by omega) h ⟨rfl, rfl, rfl⟩)
def md_slipsAll_l4  (v1 : Int32) (m : mj_M) (s4 : (Int32 × Int32)) : Option (Nat × (Int32 × Int32)) :=
  (if (mj_I (m 68 12)) ≤ s4.2 then some (1, (s4.1, s4.2)) else
  (if (((6 : Int32) * v1) + s4.2) < 0 ∨ 12 ≤ ((((6 : Int32) * v1) + s4.2) : Int32).toNatClampNeg then none else
  some (0, ((s4.1 + (mj_I (m 95 (((6 : Int32) * v1) + s4.2).toNatClampNeg))), (s4.2 + 1)))))
def md_slipsAll  (v1 : Int32) (m : mj_M) : Option Int32 :=
  (mj_loop (md_slipsAll_l4 v1 m) mj_F (0, 0)).bind fun q3 =>
  some q3.2.1
set_option maxRecDepth 20000 in
theorem md_slipsAll_l4_x {Ls tp ip x d : Nat} {Z : mj_X} {R : Option Value → mj_G → mj_M → Prop} {P : mj_K → Prop} (hC : mj_cls false (mj_sh Ls) (mj_rf tp ip) mj_dv mj_cd_220 (mj_Ex false (mj_sh Ls) (mj_rf tp ip) Z d) R P) (hd : 0 ≤ d) {v1 : Int32} {m : mj_M} (s4 : (Int32 × Int32)) {t : Nat} {w : (Int32 × Int32)} (h : md_slipsAll_l4 v1 m s4 = some (t, w)) (h0 : t = 0 → P (4, [some (.ref 68), some (.int v1), some (.int w.1), some (.int w.2)], [], (110, x), m)) (h1 : t = 1 → P (32, [none, none, some (.int w.1), none], [], (110, x), m)) : P (4, [some (.ref 68), some (.int v1), some (.int s4.1), some (.int s4.2)], [], (110, x), m) := by
  unfold md_slipsAll_l4 at h
  refine mj_gcp hC 4 ?_
  show P (mj_pick 32 12 ((mj_I (m 68 12)) ≤ s4.2), [some (.ref 68), some (.int v1), some (.int s4.1), some (.int s4.2)], [], (110, x), m)
  refine mj_pbr (fun c1 => ?_) (fun c1 => ?_)
  · rw [if_pos c1] at h
    cases h
    exact mj_less hC (L0 := [none, none, some (.int s4.1), none]) (And.intro rfl trivial) (h1 rfl)
  · rw [if_neg c1] at h
    obtain ⟨k2, h⟩ := mj_ifn h
    refine mj_gcp hC 13 ?_
    show _ ∧ (P (4, [some (.ref 68), some (.int v1), some (.int (s4.1 + (mj_I (m 95 (((6 : Int32) * v1) + s4.2).toNatClampNeg)))), some (.int (s4.2 + 1))], [], (110, x), m))
    refine And.intro k2 (?_)
    cases h
    exact mj_less hC (L0 := [some (.ref 68), some (.int v1), some (.int (s4.1 + (mj_I (m 95 (((6 : Int32) * v1) + s4.2).toNatClampNeg)))), some (.int (s4.2 + 1))]) (And.intro rfl (And.intro rfl (And.intro rfl (And.intro rfl trivial)))) (h0 rfl)
set_option maxRecDepth 20000 in
theorem md_slipsAll_p {Ls tp ip x d : Nat} {Z : mj_X} {R : Option Value → mj_G → mj_M → Prop} {P : mj_K → Prop} (hC : mj_cls false (mj_sh Ls) (mj_rf tp ip) mj_dv mj_cd_220 (mj_Ex false (mj_sh Ls) (mj_rf tp ip) Z d) R P) (hd : 0 ≤ d) {v1 : Int32} {m : mj_M} {r : Int32} (h : md_slipsAll v1 m = some r) (hR : R (some (.int r)) (110, x) m) : P (0, [some (.ref 68), some (.int v1), none, none], [], (110, x), m) := by
  unfold md_slipsAll at h
  refine mj_gcp hC 4 ?_
  show P (4, [some (.ref 68), some (.int v1), some (.int 0), some (.int 0)], [], (110, x), m)
  obtain ⟨q3, eq3, h⟩ := mj_bnd h
  refine mj_less hC (L0 := [some (.ref 68), some (.int v1), some (.int 0), some (.int 0)]) (And.intro rfl (And.intro rfl (And.intro rfl (And.intro rfl trivial)))) ?_
  refine mj_loop_P (A := fun z4 => P (4, [some (.ref 68), some (.int v1), some (.int z4.1), some (.int z4.2)], [], (110, x), m)) (E := fun _ z4 => P (32, [none, none, some (.int z4.1), none], [], (110, x), m)) (fun zz t w hb h0 h1 => md_slipsAll_l4_x hC hd zz hb h0 (fun ht => h1 0 ht)) mj_F _ q3 eq3 ?_
  refine mj_gcp hC 1 ?_
  show P (33, [none, none, some (.int q3.2.1), none], [.int q3.2.1], (110, x), m)
  cases h
  exact mj_pret hC rfl hR
set_option maxRecDepth 20000 in
theorem md_slipsAll_x {Ls tp ip x d : Nat} {Z : mj_X} (hd : 1 ≤ d) {v1 : Int32} {m : mj_M} {r : Int32} (h : md_slipsAll v1 m = some r) : mj_Ex false (mj_sh Ls) (mj_rf tp ip) Z d 220 [.ref 68, .int v1] (110, x) m (some (.int r)) (110, x) m := by
  exact mj_Ex_of (cd := mj_cd_220) (L := [some (.ref 68), some (.int v1), none, none]) (by omega) (by decide) rfl (Nat.le_of_ble_eq_true rfl) rfl (fun P hC => md_slipsAll_p hC (by omega) h ⟨rfl, rfl, rfl⟩)
