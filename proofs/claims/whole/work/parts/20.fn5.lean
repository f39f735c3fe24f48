/-! FUNCTIONS OUT OF THE INSTRUCTIONS, AND THAT A RUN GIVES THEM (made by wip/whole/emit.py) -/
def md_begin   (m : mj_M) : Option mj_M :=
  (md_atFirst 0 m).bind fun q1 =>
  (md_plainTried (mj_up q1 68 60 (.long (mj_I (q1 72 (2 : Int32).toNatClampNeg)).toInt64))).bind fun q2 =>
  some (mj_up (mj_up (mj_up (mj_up q2 68 71 (.int 0)) 68 72 (.int (-1))) 68 75 (.int 0)) 68 77 (.int 0))
set_option maxRecDepth 20000 in
theorem md_begin_p {Ls tp ip x d : Nat} {Z : mj_X} {R : Option Value → mj_G → mj_M → Prop} {P : mj_K → Prop} (hC : mj_cls false (mj_sh Ls) (mj_rf tp ip) mj_dv mj_cd_197 (mj_Ex false (mj_sh Ls) (mj_rf tp ip) Z d) R P) (hd : 1 ≤ d)  {m : mj_M} {r : mj_M} (h : md_begin m = some r) (hR : R none (110, x) r) : P (0, [some (.ref 68)], [], (110, x), m) := by
  unfold md_begin at h
  refine mj_gcp hC 2 ?_
  show P (2, [some (.ref 68)], [.int 0, .ref 68], (110, x), m)
  obtain ⟨q1, eq1, h⟩ := mj_bnd h
  refine mj_pcall hC rfl (md_atFirst_x (Nat.le_trans (by decide) hd) eq1) ?_
  show P (5, [some (.ref 68)], [], (110, x), q1)
  refine mj_gcp hC 8 ?_
  show _ ∧ (P (17, [some (.ref 68)], [.ref 68], (110, x), (mj_up q1 68 60 (.long (mj_I (q1 72 (2 : Int32).toNatClampNeg)).toInt64))))
  refine And.intro (show ¬ ((2 : Int32) < 0 ∨ 6 ≤ (2 : Int32).toNatClampNeg) by decide) (?_)
  obtain ⟨q2, eq2, h⟩ := mj_bnd h
  refine mj_pcall hC rfl (md_plainTried_x (Nat.le_trans (by decide) hd) eq2) ?_
  show P (20, [some (.ref 68)], [], (110, x), q2)
  refine mj_gcp hC 12 ?_
  show P (40, [some (.ref 68)], [], (110, x), (mj_up (mj_up (mj_up (mj_up q2 68 71 (.int 0)) 68 72 (.int (-1))) 68 75 (.int 0)) 68 77 (.int 0)))
  cases h
  exact mj_pret hC rfl hR
set_option maxRecDepth 20000 in
theorem md_begin_x {Ls tp ip x d : Nat} {Z : mj_X} (hd : 2 ≤ d)  {m : mj_M} {r : mj_M} (h : md_begin m = some r) : mj_Ex false (mj_sh Ls) (mj_rf tp ip) Z d 197 [.ref 68] (110, x) m none (110, x) r := by
  exact mj_Ex_of (cd := mj_cd_197) (L := [some (.ref 68)]) (by omega) (by decide) rfl (Nat.le_of_ble_eq_true rfl) rfl (fun P hC => md_begin_p hC (by omega) h ⟨rfl, rfl, rfl⟩)
def md_shift  (v1 : Int32) (m : mj_M) : Option (Int32 × mj_M) :=
  (if (md_isIn v1 (-99) 99 (mj_up m 68 2 (.int 0))) = 0 then some (0, (mj_up m 68 2 (.int 0))) else
  (if (mj_I (m 99 (0 : Int32).toNatClampNeg)) = v1 then some (0, (mj_up m 68 2 (.int 0))) else
  (md_remember (mj_up m 68 2 (.int 0))).bind fun q3 =>
  some (1, (mj_up q3 99 (0 : Int32).toNatClampNeg (.int v1)))))
set_option maxRecDepth 20000 in
theorem md_shift_p {Ls tp ip x d : Nat} {Z : mj_X} {R : Option Value → mj_G → mj_M → Prop} {P : mj_K → Prop} (hC : mj_cls false (mj_sh Ls) (mj_rf tp ip) mj_dv mj_cd_228 (mj_Ex false (mj_sh Ls) (mj_rf tp ip) Z d) R P) (hd : 2 ≤ d) {v1 : Int32} {m : mj_M} {r : (Int32 × mj_M)} (h : md_shift v1 m = some r) (hR : R (some (.int r.1)) (110, x) r.2) : P (0, [some (.ref 68), some (.int v1)], [], (110, x), m) := by
  unfold md_shift at h
  refine mj_gcp hC 6 ?_
  show P (10, [some (.ref 68), some (.int v1)], [.int 99, .int (-99), .int v1], (110, x), (mj_up m 68 2 (.int 0)))
  refine mj_pcall hC rfl (md_isIn_x (Nat.le_trans (by decide) hd)) ?_
  show P (13, [some (.ref 68), some (.int v1)], [.int (md_isIn v1 (-99) 99 (mj_up m 68 2 (.int 0)))], (110, x), (mj_up m 68 2 (.int 0)))
  refine mj_gcp hC 1 ?_
  show P (mj_pick 26 16 ((md_isIn v1 (-99) 99 (mj_up m 68 2 (.int 0))) = 0), [some (.ref 68), some (.int v1)], [], (110, x), (mj_up m 68 2 (.int 0)))
  refine mj_pbr (fun c1 => ?_) (fun c1 => ?_)
  · rw [if_pos c1] at h
    refine mj_gcp hC 1 ?_
    show P (27, [some (.ref 68), some (.int v1)], [.int 0], (110, x), (mj_up m 68 2 (.int 0)))
    cases h
    exact mj_pret hC rfl hR
  · rw [if_neg c1] at h
    refine mj_gcp hC 6 ?_
    show _ ∧ (P (mj_pick 26 28 ((mj_I (m 99 (0 : Int32).toNatClampNeg)) = v1), [some (.ref 68), some (.int v1)], [], (110, x), (mj_up m 68 2 (.int 0))))
    refine And.intro (show ¬ ((0 : Int32) < 0 ∨ 2 ≤ (0 : Int32).toNatClampNeg) by decide) (?_)
    refine mj_pbr (fun c2 => ?_) (fun c2 => ?_)
    · rw [if_pos c2] at h
      refine mj_gcp hC 1 ?_
      show P (27, [some (.ref 68), some (.int v1)], [.int 0], (110, x), (mj_up m 68 2 (.int 0)))
      cases h
      exact mj_pret hC rfl hR
    · rw [if_neg c2] at h
      refine mj_gcp hC 1 ?_
      show P (29, [some (.ref 68), some (.int v1)], [.ref 68], (110, x), (mj_up m 68 2 (.int 0)))
      obtain ⟨q3, eq3, h⟩ := mj_bnd h
      refine mj_pcall hC rfl (md_remember_x (Nat.le_trans (by decide) hd) eq3) ?_
      show P (32, [some (.ref 68), some (.int v1)], [], (110, x), q3)
      refine mj_gcp hC 6 ?_
      show _ ∧ (P (40, [some (.ref 68), some (.int v1)], [.int 1], (110, x), (mj_up q3 99 (0 : Int32).toNatClampNeg (.int v1))))
      refine And.intro (show ¬ ((0 : Int32) < 0 ∨ 2 ≤ (0 : Int32).toNatClampNeg) by decide) (?_)
      cases h
      exact mj_pret hC rfl hR
set_option maxRecDepth 20000 in
theorem md_shift_x {Ls tp ip x d : Nat} {Z : mj_X} (hd : 3 ≤ d) {v1 : Int32} {m : mj_M} {r : (Int32 × mj_M)} (h : md_shift v1 m = some r) : mj_Ex false (mj_sh Ls) (mj_rf tp ip) Z d 228 [.ref 68, .int v1] (110, x) m (some (.int r.1)) (110, x) r.2 := by
  exact mj_Ex_of (cd := mj_cd_228) (L := [some (.ref 68), some (.int v1)]) (by omega) (by decide) rfl (Nat.le_of_ble_eq_true rfl) rfl (fun P hC => md_shift_p hC (by omega) h ⟨rfl, rfl, rfl⟩)
def md_wind  (v1 : Int32) (m : mj_M) : Option (Int32 × mj_M) :=
  (if (md_isIn v1 1 999 (mj_up m 68 2 (.int 0))) = 0 then some ((-1), (mj_up m 68 2 (.int 0))) else
  (if ((mj_I (m 98 (0 : Int32).toNatClampNeg)) + v1) ≤ 999 then (md_remember (mj_up m 68 2 (.int 0))).bind fun q3 =>
  some (((mj_I (q3 98 (0 : Int32).toNatClampNeg)) + v1), (mj_up q3 98 (0 : Int32).toNatClampNeg (.int ((mj_I (q3 98 (0 : Int32).toNatClampNeg)) + v1)))) else
  some ((-1), (mj_up m 68 2 (.int 0)))))
set_option maxRecDepth 20000 in
theorem md_wind_p {Ls tp ip x d : Nat} {Z : mj_X} {R : Option Value → mj_G → mj_M → Prop} {P : mj_K → Prop} (hC : mj_cls false (mj_sh Ls) (mj_rf tp ip) mj_dv mj_cd_229 (mj_Ex false (mj_sh Ls) (mj_rf tp ip) Z d) R P) (hd : 2 ≤ d) {v1 : Int32} {m : mj_M} {r : (Int32 × mj_M)} (h : md_wind v1 m = some r) (hR : R (some (.int r.1)) (110, x) r.2) : P (0, [some (.ref 68), some (.int v1)], [], (110, x), m) := by
  unfold md_wind at h
  refine mj_gcp hC 6 ?_
  show P (10, [some (.ref 68), some (.int v1)], [.int 999, .int 1, .int v1], (110, x), (mj_up m 68 2 (.int 0)))
  refine mj_pcall hC rfl (md_isIn_x (Nat.le_trans (by decide) hd)) ?_
  show P (13, [some (.ref 68), some (.int v1)], [.int (md_isIn v1 1 999 (mj_up m 68 2 (.int 0)))], (110, x), (mj_up m 68 2 (.int 0)))
  refine mj_gcp hC 1 ?_
  show P (mj_pick 30 16 ((md_isIn v1 1 999 (mj_up m 68 2 (.int 0))) = 0), [some (.ref 68), some (.int v1)], [], (110, x), (mj_up m 68 2 (.int 0)))
  refine mj_pbr (fun c1 => ?_) (fun c1 => ?_)
  · rw [if_pos c1] at h
    refine mj_gcp hC 1 ?_
    show P (31, [some (.ref 68), some (.int v1)], [.int (-1)], (110, x), (mj_up m 68 2 (.int 0)))
    cases h
    exact mj_pret hC rfl hR
  · rw [if_neg c1] at h
    refine mj_gcp hC 8 ?_
    show _ ∧ (P (mj_pick 32 30 (((mj_I (m 98 (0 : Int32).toNatClampNeg)) + v1) ≤ 999), [some (.ref 68), some (.int v1)], [], (110, x), (mj_up m 68 2 (.int 0))))
    refine And.intro (show ¬ ((0 : Int32) < 0 ∨ 2 ≤ (0 : Int32).toNatClampNeg) by decide) (?_)
    refine mj_pbr (fun c2 => ?_) (fun c2 => ?_)
    · rw [if_pos c2] at h
      refine mj_gcp hC 1 ?_
      show P (33, [some (.ref 68), some (.int v1)], [.ref 68], (110, x), (mj_up m 68 2 (.int 0)))
      obtain ⟨q3, eq3, h⟩ := mj_bnd h
      refine mj_pcall hC rfl (md_remember_x (Nat.le_trans (by decide) hd) eq3) ?_
      show P (36, [some (.ref 68), some (.int v1)], [], (110, x), q3)
      refine mj_gcp hC 12 ?_
      show _ ∧ (_ ∧ (_ ∧ (P (52, [some (.ref 68), some (.int v1)], [.int ((mj_I (q3 98 (0 : Int32).toNatClampNeg)) + v1)], (110, x), (mj_up q3 98 (0 : Int32).toNatClampNeg (.int ((mj_I (q3 98 (0 : Int32).toNatClampNeg)) + v1)))))))
      refine And.intro (show ¬ ((0 : Int32) < 0 ∨ 2 ≤ (0 : Int32).toNatClampNeg) by decide) (And.intro (show ¬ ((0 : Int32) < 0 ∨ 2 ≤ (0 : Int32).toNatClampNeg) by decide) (And.intro (show ¬ ((0 : Int32) < 0 ∨ 2 ≤ (0 : Int32).toNatClampNeg) by decide) (?_)))
      cases h
      exact mj_pret hC rfl hR
    · rw [if_neg c2] at h
      refine mj_gcp hC 1 ?_
      show P (31, [some (.ref 68), some (.int v1)], [.int (-1)], (110, x), (mj_up m 68 2 (.int 0)))
      cases h
      exact mj_pret hC rfl hR
set_option maxRecDepth 20000 in
theorem md_wind_x {Ls tp ip x d : Nat} {Z : mj_X} (hd : 3 ≤ d) {v1 : Int32} {m : mj_M} {r : (Int32 × mj_M)} (h : md_wind v1 m = some r) : mj_Ex false (mj_sh Ls) (mj_rf tp ip) Z d 229 [.ref 68, .int v1] (110, x) m (some (.int r.1)) (110, x) r.2 := by
  exact mj_Ex_of (cd := mj_cd_229) (L := [some (.ref 68), some (.int v1)]) (by omega) (by decide) rfl (Nat.le_of_ble_eq_true rfl) rfl (fun P hC => md_wind_p hC (by omega) h ⟨rfl, rfl, rfl⟩)
def md_hiccup  (v1 : Int32) (v2 : Int32) (m : mj_M) : Option (Int32 × mj_M) :=
  (if (md_isMan v1 (mj_up m 68 2 (.int 0))) = 0 then some (0, (mj_up m 68 2 (.int 0))) else
  (if v1 < 0 ∨ 12 ≤ (v1 : Int32).toNatClampNeg then none else
  (if (mj_I (m 97 v1.toNatClampNeg)) = 0 then some (0, (mj_up m 68 2 (.int 0))) else
  (if (md_isIn v2 0 9 (mj_up m 68 2 (.int 0))) = 0 then some (0, (mj_up m 68 2 (.int 0))) else
  (if v1 < 0 ∨ 12 ≤ (v1 : Int32).toNatClampNeg then none else
  (if (mj_I (m 96 v1.toNatClampNeg)) = v2 then some (0, (mj_up m 68 2 (.int 0))) else
  (md_remember (mj_up m 68 2 (.int 0))).bind fun q7 =>
  (if v1 < 0 ∨ 12 ≤ (v1 : Int32).toNatClampNeg then none else
  some (1, (mj_up q7 96 v1.toNatClampNeg (.int v2))))))))))
set_option maxRecDepth 20000 in
theorem md_hiccup_p {Ls tp ip x d : Nat} {Z : mj_X} {R : Option Value → mj_G → mj_M → Prop} {P : mj_K → Prop} (hC : mj_cls false (mj_sh Ls) (mj_rf tp ip) mj_dv mj_cd_230 (mj_Ex false (mj_sh Ls) (mj_rf tp ip) Z d) R P) (hd : 2 ≤ d) {v1 : Int32} {v2 : Int32} {m : mj_M} {r : (Int32 × mj_M)} (h : md_hiccup v1 v2 m = some r) (hR : R (some (.int r.1)) (110, x) r.2) : P (0, [some (.ref 68), some (.int v1), some (.int v2)], [], (110, x), m) := by
  unfold md_hiccup at h
  refine mj_gcp hC 5 ?_
  show P (7, [some (.ref 68), some (.int v1), some (.int v2)], [.int v1, .ref 68], (110, x), (mj_up m 68 2 (.int 0)))
  refine mj_pcall hC rfl (md_isMan_x (Nat.le_trans (by decide) hd)) ?_
  show P (10, [some (.ref 68), some (.int v1), some (.int v2)], [.int (md_isMan v1 (mj_up m 68 2 (.int 0)))], (110, x), (mj_up m 68 2 (.int 0)))
  refine mj_gcp hC 1 ?_
  show P (mj_pick 42 13 ((md_isMan v1 (mj_up m 68 2 (.int 0))) = 0), [some (.ref 68), some (.int v1), some (.int v2)], [], (110, x), (mj_up m 68 2 (.int 0)))
  refine mj_pbr (fun c1 => ?_) (fun c1 => ?_)
  · rw [if_pos c1] at h
    refine mj_gcp hC 1 ?_
    show P (43, [some (.ref 68), some (.int v1), some (.int v2)], [.int 0], (110, x), (mj_up m 68 2 (.int 0)))
    cases h
    exact mj_pret hC rfl hR
  · rw [if_neg c1] at h
    obtain ⟨k2, h⟩ := mj_ifn h
    refine mj_gcp hC 5 ?_
    show _ ∧ (P (mj_pick 42 22 ((mj_I (m 97 v1.toNatClampNeg)) = 0), [some (.ref 68), some (.int v1), some (.int v2)], [], (110, x), (mj_up m 68 2 (.int 0))))
    refine And.intro k2 (?_)
    refine mj_pbr (fun c3 => ?_) (fun c3 => ?_)
    · rw [if_pos c3] at h
      refine mj_gcp hC 1 ?_
      show P (43, [some (.ref 68), some (.int v1), some (.int v2)], [.int 0], (110, x), (mj_up m 68 2 (.int 0)))
      cases h
      exact mj_pret hC rfl hR
    · rw [if_neg c3] at h
      refine mj_gcp hC 3 ?_
      show P (26, [some (.ref 68), some (.int v1), some (.int v2)], [.int 9, .int 0, .int v2], (110, x), (mj_up m 68 2 (.int 0)))
      refine mj_pcall hC rfl (md_isIn_x (Nat.le_trans (by decide) hd)) ?_
      show P (29, [some (.ref 68), some (.int v1), some (.int v2)], [.int (md_isIn v2 0 9 (mj_up m 68 2 (.int 0)))], (110, x), (mj_up m 68 2 (.int 0)))
      refine mj_gcp hC 1 ?_
      show P (mj_pick 42 32 ((md_isIn v2 0 9 (mj_up m 68 2 (.int 0))) = 0), [some (.ref 68), some (.int v1), some (.int v2)], [], (110, x), (mj_up m 68 2 (.int 0)))
      refine mj_pbr (fun c4 => ?_) (fun c4 => ?_)
      · rw [if_pos c4] at h
        refine mj_gcp hC 1 ?_
        show P (43, [some (.ref 68), some (.int v1), some (.int v2)], [.int 0], (110, x), (mj_up m 68 2 (.int 0)))
        cases h
        exact mj_pret hC rfl hR
      · rw [if_neg c4] at h
        obtain ⟨k5, h⟩ := mj_ifn h
        refine mj_gcp hC 6 ?_
        show _ ∧ (P (mj_pick 42 44 ((mj_I (m 96 v1.toNatClampNeg)) = v2), [some (.ref 68), some (.int v1), some (.int v2)], [], (110, x), (mj_up m 68 2 (.int 0))))
        refine And.intro k5 (?_)
        refine mj_pbr (fun c6 => ?_) (fun c6 => ?_)
        · rw [if_pos c6] at h
          refine mj_gcp hC 1 ?_
          show P (43, [some (.ref 68), some (.int v1), some (.int v2)], [.int 0], (110, x), (mj_up m 68 2 (.int 0)))
          cases h
          exact mj_pret hC rfl hR
        · rw [if_neg c6] at h
          refine mj_gcp hC 1 ?_
          show P (45, [some (.ref 68), some (.int v1), some (.int v2)], [.ref 68], (110, x), (mj_up m 68 2 (.int 0)))
          obtain ⟨q7, eq7, h⟩ := mj_bnd h
          refine mj_pcall hC rfl (md_remember_x (Nat.le_trans (by decide) hd) eq7) ?_
          show P (48, [some (.ref 68), some (.int v1), some (.int v2)], [], (110, x), q7)
          obtain ⟨k8, h⟩ := mj_ifn h
          refine mj_gcp hC 6 ?_
          show _ ∧ (P (56, [some (.ref 68), some (.int v1), some (.int v2)], [.int 1], (110, x), (mj_up q7 96 v1.toNatClampNeg (.int v2))))
          refine And.intro k8 (?_)
          cases h
          exact mj_pret hC rfl hR
set_option maxRecDepth 20000 in
theorem md_hiccup_x {Ls tp ip x d : Nat} {Z : mj_X} (hd : 3 ≤ d) {v1 : Int32} {v2 : Int32} {m : mj_M} {r : (Int32 × mj_M)} (h : md_hiccup v1 v2 m = some r) : mj_Ex false (mj_sh Ls) (mj_rf tp ip) Z d 230 [.ref 68, .int v1, .int v2] (110, x) m (some (.int r.1)) (110, x) r.2 := by
  exact mj_Ex_of (cd := mj_cd_230) (L := [some (.ref 68), some (.int v1), some (.int v2)]) (by omega) (by decide) rfl (Nat.le_of_ble_eq_true rfl) rfl (fun P hC => md_hiccup_p hC (by omega) h ⟨rfl, rfl, rfl⟩)
def md_aunt_j43  (v1 : Int32) (s1 : Int32) (s2 : Int32) (m : mj_M) : Option (Int32 × mj_M) :=
  (if s1 < 0 ∨ 12 ≤ (s1 : Int32).toNatClampNeg then none else
  (if v1 < 0 ∨ 12 ≤ (v1 : Int32).toNatClampNeg then none else
  some (1, (mj_up (mj_up m 97 s1.toNatClampNeg (.int (s2 &&& 1))) 96 v1.toNatClampNeg (.int 0)))))
def md_aunt  (v1 : Int32) (v2 : Int32) (m : mj_M) : Option (Int32 × mj_M) :=
  (if (md_isMan v1 (mj_up m 68 2 (.int 0))) = 0 then some (0, (mj_up m 68 2 (.int 0))) else
  (if v1 < 0 ∨ 12 ≤ (v1 : Int32).toNatClampNeg then none else
  (if (mj_I (m 97 v1.toNatClampNeg)) = v2 then (md_remember (mj_up m 68 2 (.int 0))).bind fun q4 =>
  (if v2 = 0 then md_aunt_j43 v1 v1 1 q4 else
  md_aunt_j43 v1 v1 0 q4) else
  some (0, (mj_up m 68 2 (.int 0))))))
set_option maxRecDepth 20000 in
theorem md_aunt_j43_x {Ls tp ip x d : Nat} {Z : mj_X} {R : Option Value → mj_G → mj_M → Prop} {P : mj_K → Prop} (hC : mj_cls false (mj_sh Ls) (mj_rf tp ip) mj_dv mj_cd_231 (mj_Ex false (mj_sh Ls) (mj_rf tp ip) Z d) R P) (hd : 2 ≤ d) {v1 : Int32} {s1 : Int32} {s2 : Int32} {m : mj_M} {r : (Int32 × mj_M)} (h : md_aunt_j43 v1 s1 s2 m = some r) (hR : R (some (.int r.1)) (110, x) r.2) : P (43, [some (.ref 68), some (.int v1), none], [.int s2, .int s1, .ref 97], (110, x), m) := by
  unfold md_aunt_j43 at h
  obtain ⟨k6, h⟩ := mj_ifn h
  obtain ⟨k7, h⟩ := mj_ifn h
  refine mj_gcp hC 7 ?_
  show _ ∧ (_ ∧ (P (52, [some (.ref 68), some (.int v1), none], [.int 1], (110, x), (mj_up (mj_up m 97 s1.toNatClampNeg (.int (s2 &&& 1))) 96 v1.toNatClampNeg (.int 0)))))
  refine And.intro k6 (And.intro k7 (?_))
  cases h
  exact mj_pret hC rfl hR
set_option maxRecDepth 20000 in
theorem md_aunt_p {Ls tp ip x d : Nat} {Z : mj_X} {R : Option Value → mj_G → mj_M → Prop} {P : mj_K → Prop} (hC : mj_cls false (mj_sh Ls) (mj_rf tp ip) mj_dv mj_cd_231 (mj_Ex false (mj_sh Ls) (mj_rf tp ip) Z d) R P) (hd : 2 ≤ d) {v1 : Int32} {v2 : Int32} {m : mj_M} {r : (Int32 × mj_M)} (h : md_aunt v1 v2 m = some r) (hR : R (some (.int r.1)) (110, x) r.2) : P (0, [some (.ref 68), some (.int v1), some (.int v2)], [], (110, x), m) := by
  unfold md_aunt at h
  refine mj_gcp hC 5 ?_
  show P (7, [some (.ref 68), some (.int v1), some (.int v2)], [.int v1, .ref 68], (110, x), (mj_up m 68 2 (.int 0)))
  refine mj_pcall hC rfl (md_isMan_x (Nat.le_trans (by decide) hd)) ?_
  show P (10, [some (.ref 68), some (.int v1), some (.int v2)], [.int (md_isMan v1 (mj_up m 68 2 (.int 0)))], (110, x), (mj_up m 68 2 (.int 0)))
  refine mj_gcp hC 1 ?_
  show P (mj_pick 23 13 ((md_isMan v1 (mj_up m 68 2 (.int 0))) = 0), [some (.ref 68), some (.int v1), some (.int v2)], [], (110, x), (mj_up m 68 2 (.int 0)))
  refine mj_pbr (fun c1 => ?_) (fun c1 => ?_)
  · rw [if_pos c1] at h
    refine mj_gcp hC 1 ?_
    show P (24, [some (.ref 68), some (.int v1), some (.int v2)], [.int 0], (110, x), (mj_up m 68 2 (.int 0)))
    cases h
    exact mj_pret hC rfl hR
  · rw [if_neg c1] at h
    obtain ⟨k2, h⟩ := mj_ifn h
    refine mj_gcp hC 6 ?_
    show _ ∧ (P (mj_pick 25 23 ((mj_I (m 97 v1.toNatClampNeg)) = v2), [some (.ref 68), some (.int v1), some (.int v2)], [], (110, x), (mj_up m 68 2 (.int 0))))
    refine And.intro k2 (?_)
    refine mj_pbr (fun c3 => ?_) (fun c3 => ?_)
    · rw [if_pos c3] at h
      refine mj_gcp hC 1 ?_
      show P (26, [some (.ref 68), some (.int v1), some (.int v2)], [.ref 68], (110, x), (mj_up m 68 2 (.int 0)))
      obtain ⟨q4, eq4, h⟩ := mj_bnd h
      refine mj_pcall hC rfl (md_remember_x (Nat.le_trans (by decide) hd) eq4) ?_
      show P (29, [some (.ref 68), some (.int v1), some (.int v2)], [], (110, x), q4)
      refine mj_gcp hC 5 ?_
      show P (mj_pick 38 42 (v2 = 0), [some (.ref 68), some (.int v1), some (.int v2)], [.int v1, .ref 97], (110, x), q4)
      refine mj_pbr (fun c5 => ?_) (fun c5 => ?_)
      · rw [if_pos c5] at h
        refine mj_gcp hC 2 ?_
        show P (43, [some (.ref 68), some (.int v1), some (.int v2)], [.int 1, .int v1, .ref 97], (110, x), q4)
        exact mj_less hC (L0 := [some (.ref 68), some (.int v1), none]) (And.intro rfl (And.intro rfl trivial)) (md_aunt_j43_x hC hd h hR)
      · rw [if_neg c5] at h
        refine mj_gcp hC 1 ?_
        show P (43, [some (.ref 68), some (.int v1), some (.int v2)], [.int 0, .int v1, .ref 97], (110, x), q4)
        exact mj_less hC (L0 := [some (.ref 68), some (.int v1), none]) (And.intro rfl (And.intro rfl trivial)) (md_aunt_j43_x hC hd h hR)
    · rw [if_neg c3] at h
      refine mj_gcp hC 1 ?_
      show P (24, [some (.ref 68), some (.int v1), some (.int v2)], [.int 0], (110, x), (mj_up m 68 2 (.int 0)))
      cases h
      exact mj_pret hC rfl hR
set_option maxRecDepth 20000 in
theorem md_aunt_x {Ls tp ip x d : Nat} {Z : mj_X} (hd : 3 ≤ d) {v1 : Int32} {v2 : Int32} {m : mj_M} {r : (Int32 × mj_M)} (h : md_aunt v1 v2 m = some r) : mj_Ex false (mj_sh Ls) (mj_rf tp ip) Z d 231 [.ref 68, .int v1, .int v2] (110, x) m (some (.int r.1)) (110, x) r.2 := by
  exact mj_Ex_of (cd := mj_cd_231) (L := [some (.ref 68), some (.int v1), some (.int v2)]) (by omega) (by decide) rfl (Nat.le_of_ble_eq_true rfl) rfl (fun P hC => md_aunt_p hC (by omega) h ⟨rfl, rfl, rfl⟩)
def bp_beat (tp : Nat)  (m : mj_M) : Option Int32 :=
  (ck_plainBeat tp 42 m).bind fun q1 =>
  some q1
set_option maxRecDepth 20000 in
theorem bp_beat_p {Ls tp ip x d : Nat} {Z : mj_X} {R : Option Value → mj_G → mj_M → Prop} {P : mj_K → Prop} (hC : mj_cls false (mj_sh Ls) (mj_rf tp ip) mj_dv mj_cd_10 (mj_Ex false (mj_sh Ls) (mj_rf tp ip) Z d) R P) (hd : 3 ≤ d) (htp : tp = 3 ∨ tp = 17)  {m : mj_M} {r : Int32} (h : bp_beat tp m = some r) (hR : R (some (.int r)) (110, x) m) : P (0, [some (.ref 1)], [], (110, x), m) := by
  unfold bp_beat at h
  rcases htp with rfl | rfl
  all_goals
    refine mj_gcp hC 4 ?_
    show P (8, [some (.ref 1)], [.ref 42, .ref 37], (110, x), m)
    obtain ⟨q1, eq1, h⟩ := mj_bnd h
    refine mj_pcall hC rfl (ck_plainBeat_x (Nat.le_trans (by decide) hd) (by decide) (by decide) eq1) ?_
    show P (11, [some (.ref 1)], [.int q1], (110, x), m)
    cases h
    exact mj_pret hC rfl hR
set_option maxRecDepth 20000 in
theorem bp_beat_x {Ls tp ip x d : Nat} {Z : mj_X} (hd : 4 ≤ d) (htp : tp = 3 ∨ tp = 17)  {m : mj_M} {r : Int32} (h : bp_beat tp m = some r) : mj_Ex false (mj_sh Ls) (mj_rf tp ip) Z d 10 [.ref 1] (110, x) m (some (.int r)) (110, x) m := by
  exact mj_Ex_of (cd := mj_cd_10) (L := [some (.ref 1)]) (by omega) (by decide) rfl (Nat.le_of_ble_eq_true rfl) rfl (fun P hC => bp_beat_p hC (by omega) htp h ⟨rfl, rfl, rfl⟩)
def bp_shift  (v1 : Int32) (m : mj_M) : Option (Int32 × mj_M) :=
  (if v1 < (-99) then some (0, m) else
  (if 99 < v1 then some (0, m) else
  (if v1 = (mj_I (m 42 2)) then some (0, m) else
  (de_add 0 (-1) (mj_I (m 42 2)) m).bind fun q4 =>
  some (1, (mj_up q4 42 2 (.int v1))))))
set_option maxRecDepth 20000 in
theorem bp_shift_p {Ls tp ip x d : Nat} {Z : mj_X} {R : Option Value → mj_G → mj_M → Prop} {P : mj_K → Prop} (hC : mj_cls false (mj_sh Ls) (mj_rf tp ip) mj_dv mj_cd_12 (mj_Ex false (mj_sh Ls) (mj_rf tp ip) Z d) R P) (hd : 3 ≤ d) {v1 : Int32} {m : mj_M} {r : (Int32 × mj_M)} (h : bp_shift v1 m = some r) (hR : R (some (.int r.1)) (110, x) r.2) : P (0, [some (.ref 1), some (.int v1)], [], (110, x), m) := by
  unfold bp_shift at h
  refine mj_gcp hC 3 ?_
  show P (mj_pick 23 6 (v1 < (-99)), [some (.ref 1), some (.int v1)], [], (110, x), m)
  refine mj_pbr (fun c1 => ?_) (fun c1 => ?_)
  · rw [if_pos c1] at h
    refine mj_gcp hC 1 ?_
    show P (24, [some (.ref 1), some (.int v1)], [.int 0], (110, x), m)
    cases h
    exact mj_pret hC rfl hR
  · rw [if_neg c1] at h
    refine mj_gcp hC 3 ?_
    show P (mj_pick 23 12 (99 < v1), [some (.ref 1), some (.int v1)], [], (110, x), m)
    refine mj_pbr (fun c2 => ?_) (fun c2 => ?_)
    · rw [if_pos c2] at h
      refine mj_gcp hC 1 ?_
      show P (24, [some (.ref 1), some (.int v1)], [.int 0], (110, x), m)
      cases h
      exact mj_pret hC rfl hR
    · rw [if_neg c2] at h
      refine mj_gcp hC 5 ?_
      show P (mj_pick 23 25 (v1 = (mj_I (m 42 2))), [some (.ref 1), some (.int v1)], [], (110, x), m)
      refine mj_pbr (fun c3 => ?_) (fun c3 => ?_)
      · rw [if_pos c3] at h
        refine mj_gcp hC 1 ?_
        show P (24, [some (.ref 1), some (.int v1)], [.int 0], (110, x), m)
        cases h
        exact mj_pret hC rfl hR
      · rw [if_neg c3] at h
        refine mj_gcp hC 7 ?_
        show P (38, [some (.ref 1), some (.int v1)], [.int (mj_I (m 42 2)), .int (-1), .int 0, .ref 57], (110, x), m)
        obtain ⟨q4, eq4, h⟩ := mj_bnd h
        refine mj_pcall hC rfl (de_add_x (Nat.le_trans (by decide) hd) eq4) ?_
        show P (41, [some (.ref 1), some (.int v1)], [], (110, x), q4)
        refine mj_gcp hC 5 ?_
        show P (50, [some (.ref 1), some (.int v1)], [.int 1], (110, x), (mj_up q4 42 2 (.int v1)))
        cases h
        exact mj_pret hC rfl hR
set_option maxRecDepth 20000 in
theorem bp_shift_x {Ls tp ip x d : Nat} {Z : mj_X} (hd : 4 ≤ d) {v1 : Int32} {m : mj_M} {r : (Int32 × mj_M)} (h : bp_shift v1 m = some r) : mj_Ex false (mj_sh Ls) (mj_rf tp ip) Z d 12 [.ref 1, .int v1] (110, x) m (some (.int r.1)) (110, x) r.2 := by
  exact mj_Ex_of (cd := mj_cd_12) (L := [some (.ref 1), some (.int v1)]) (by omega) (by decide) rfl (Nat.le_of_ble_eq_true rfl) rfl (fun P hC => bp_shift_p hC (by omega) h ⟨rfl, rfl, rfl⟩)
def bp_wind  (v1 : Int32) (m : mj_M) : Option (Int32 × mj_M) :=
  (if v1 < 1 then some ((-1), m) else
  (if 999 < v1 then some ((-1), m) else
  (if ((mj_I (m 42 1)) + v1) ≤ 999 then (de_add 1 (-1) (mj_I (m 42 1)) m).bind fun q4 =>
  some (((mj_I (q4 42 1)) + v1), (mj_up q4 42 1 (.int ((mj_I (q4 42 1)) + v1)))) else
  some ((-1), m))))
set_option maxRecDepth 20000 in
theorem bp_wind_p {Ls tp ip x d : Nat} {Z : mj_X} {R : Option Value → mj_G → mj_M → Prop} {P : mj_K → Prop} (hC : mj_cls false (mj_sh Ls) (mj_rf tp ip) mj_dv mj_cd_13 (mj_Ex false (mj_sh Ls) (mj_rf tp ip) Z d) R P) (hd : 3 ≤ d) {v1 : Int32} {m : mj_M} {r : (Int32 × mj_M)} (h : bp_wind v1 m = some r) (hR : R (some (.int r.1)) (110, x) r.2) : P (0, [some (.ref 1), some (.int v1)], [], (110, x), m) := by
  unfold bp_wind at h
  refine mj_gcp hC 3 ?_
  show P (mj_pick 27 5 (v1 < 1), [some (.ref 1), some (.int v1)], [], (110, x), m)
  refine mj_pbr (fun c1 => ?_) (fun c1 => ?_)
  · rw [if_pos c1] at h
    refine mj_gcp hC 1 ?_
    show P (28, [some (.ref 1), some (.int v1)], [.int (-1)], (110, x), m)
    cases h
    exact mj_pret hC rfl hR
  · rw [if_neg c1] at h
    refine mj_gcp hC 3 ?_
    show P (mj_pick 27 12 (999 < v1), [some (.ref 1), some (.int v1)], [], (110, x), m)
    refine mj_pbr (fun c2 => ?_) (fun c2 => ?_)
    · rw [if_pos c2] at h
      refine mj_gcp hC 1 ?_
      show P (28, [some (.ref 1), some (.int v1)], [.int (-1)], (110, x), m)
      cases h
      exact mj_pret hC rfl hR
    · rw [if_neg c2] at h
      refine mj_gcp hC 7 ?_
      show P (mj_pick 29 27 (((mj_I (m 42 1)) + v1) ≤ 999), [some (.ref 1), some (.int v1)], [], (110, x), m)
      refine mj_pbr (fun c3 => ?_) (fun c3 => ?_)
      · rw [if_pos c3] at h
        refine mj_gcp hC 7 ?_
        show P (42, [some (.ref 1), some (.int v1)], [.int (mj_I (m 42 1)), .int (-1), .int 1, .ref 57], (110, x), m)
        obtain ⟨q4, eq4, h⟩ := mj_bnd h
        refine mj_pcall hC rfl (de_add_x (Nat.le_trans (by decide) hd) eq4) ?_
        show P (45, [some (.ref 1), some (.int v1)], [], (110, x), q4)
        refine mj_gcp hC 10 ?_
        show P (65, [some (.ref 1), some (.int v1)], [.int ((mj_I (q4 42 1)) + v1)], (110, x), (mj_up q4 42 1 (.int ((mj_I (q4 42 1)) + v1))))
        cases h
        exact mj_pret hC rfl hR
      · rw [if_neg c3] at h
        refine mj_gcp hC 1 ?_
        show P (28, [some (.ref 1), some (.int v1)], [.int (-1)], (110, x), m)
        cases h
        exact mj_pret hC rfl hR
set_option maxRecDepth 20000 in
theorem bp_wind_x {Ls tp ip x d : Nat} {Z : mj_X} (hd : 4 ≤ d) {v1 : Int32} {m : mj_M} {r : (Int32 × mj_M)} (h : bp_wind v1 m = some r) : mj_Ex false (mj_sh Ls) (mj_rf tp ip) Z d 13 [.ref 1, .int v1] (110, x) m (some (.int r.1)) (110, x) r.2 := by
  exact mj_Ex_of (cd := mj_cd_13) (L := [some (.ref 1), some (.int v1)]) (by omega) (by decide) rfl (Nat.le_of_ble_eq_true rfl) rfl (fun P hC => bp_wind_p hC (by omega) h ⟨rfl, rfl, rfl⟩)
def bp_hiccup (tp : Nat) (v1 : Int32) (v2 : Int32) (m : mj_M) : Option (Int32 × mj_M) :=
  (if (bp_isHere tp v1 m) = 0 then some (0, m) else
  (if v2 < 0 then some (0, m) else
  (if 9 < v2 then some (0, m) else
  (if (fx_at m 44 v1) = v2 then some (0, m) else
  (de_add 2 v1 (fx_at m 44 v1) m).bind fun q5 =>
  some (1, (fx_put q5 44 v1 v2))))))
set_option maxRecDepth 20000 in
theorem bp_hiccup_p {Ls tp ip x d : Nat} {Z : mj_X} {R : Option Value → mj_G → mj_M → Prop} {P : mj_K → Prop} (hC : mj_cls false (mj_sh Ls) (mj_rf tp ip) mj_dv mj_cd_14 (mj_Ex false (mj_sh Ls) (mj_rf tp ip) Z d) R P) (hd : 3 ≤ d) (htp : tp = 3 ∨ tp = 17) {v1 : Int32} {v2 : Int32} {m : mj_M} {r : (Int32 × mj_M)} (h : bp_hiccup tp v1 v2 m = some r) (hR : R (some (.int r.1)) (110, x) r.2) : P (0, [some (.ref 1), some (.int v1), some (.int v2)], [], (110, x), m) := by
  unfold bp_hiccup at h
  rcases htp with rfl | rfl
  all_goals
    refine mj_gcp hC 2 ?_
    show P (2, [some (.ref 1), some (.int v1), some (.int v2)], [.int v1, .ref 1], (110, x), m)
    refine mj_pcall hC rfl (bp_isHere_x (Nat.le_trans (by decide) hd) (by decide)) ?_
    show P (5, [some (.ref 1), some (.int v1), some (.int v2)], [.int (bp_isHere _ v1 m)], (110, x), m)
    refine mj_gcp hC 1 ?_
    show P (mj_pick 33 8 ((bp_isHere _ v1 m) = 0), [some (.ref 1), some (.int v1), some (.int v2)], [], (110, x), m)
    refine mj_pbr (fun c1 => ?_) (fun c1 => ?_)
    · rw [if_pos c1] at h
      refine mj_gcp hC 1 ?_
      show P (34, [some (.ref 1), some (.int v1), some (.int v2)], [.int 0], (110, x), m)
      cases h
      exact mj_pret hC rfl hR
    · rw [if_neg c1] at h
      refine mj_gcp hC 2 ?_
      show P (mj_pick 33 12 (v2 < 0), [some (.ref 1), some (.int v1), some (.int v2)], [], (110, x), m)
      refine mj_pbr (fun c2 => ?_) (fun c2 => ?_)
      · rw [if_pos c2] at h
        refine mj_gcp hC 1 ?_
        show P (34, [some (.ref 1), some (.int v1), some (.int v2)], [.int 0], (110, x), m)
        cases h
        exact mj_pret hC rfl hR
      · rw [if_neg c2] at h
        refine mj_gcp hC 3 ?_
        show P (mj_pick 33 18 (9 < v2), [some (.ref 1), some (.int v1), some (.int v2)], [], (110, x), m)
        refine mj_pbr (fun c3 => ?_) (fun c3 => ?_)
        · rw [if_pos c3] at h
          refine mj_gcp hC 1 ?_
          show P (34, [some (.ref 1), some (.int v1), some (.int v2)], [.int 0], (110, x), m)
          cases h
          exact mj_pret hC rfl hR
        · rw [if_neg c3] at h
          refine mj_gcp hC 4 ?_
          show P (26, [some (.ref 1), some (.int v1), some (.int v2)], [.int v1, .ref 44], (110, x), m)
          refine mj_pcall hC rfl (bp_at_x (Nat.le_trans (by decide) hd) (by decide)) ?_
          show P (29, [some (.ref 1), some (.int v1), some (.int v2)], [.int (fx_at m 44 v1)], (110, x), m)
          refine mj_gcp hC 2 ?_
          show P (mj_pick 33 35 ((fx_at m 44 v1) = v2), [some (.ref 1), some (.int v1), some (.int v2)], [], (110, x), m)
          refine mj_pbr (fun c4 => ?_) (fun c4 => ?_)
          · rw [if_pos c4] at h
            refine mj_gcp hC 1 ?_
            show P (34, [some (.ref 1), some (.int v1), some (.int v2)], [.int 0], (110, x), m)
            cases h
            exact mj_pret hC rfl hR
          · rw [if_neg c4] at h
            refine mj_gcp hC 8 ?_
            show P (49, [some (.ref 1), some (.int v1), some (.int v2)], [.int v1, .ref 44, .int v1, .int 2, .ref 57], (110, x), m)
            refine mj_pcall hC rfl (bp_at_x (Nat.le_trans (by decide) hd) (by decide)) ?_
            show P (52, [some (.ref 1), some (.int v1), some (.int v2)], [.int (fx_at m 44 v1), .int v1, .int 2, .ref 57], (110, x), m)
            obtain ⟨q5, eq5, h⟩ := mj_bnd h
            refine mj_pcall hC rfl (de_add_x (Nat.le_trans (by decide) hd) eq5) ?_
            show P (55, [some (.ref 1), some (.int v1), some (.int v2)], [], (110, x), q5)
            refine mj_gcp hC 5 ?_
            show P (64, [some (.ref 1), some (.int v1), some (.int v2)], [.int v2, .int v1, .ref 44], (110, x), q5)
            refine mj_pcall hC rfl (bp_put_x (Nat.le_trans (by decide) hd) (by decide)) ?_
            show P (67, [some (.ref 1), some (.int v1), some (.int v2)], [], (110, x), (fx_put q5 44 v1 v2))
            refine mj_gcp hC 1 ?_
            show P (68, [some (.ref 1), some (.int v1), some (.int v2)], [.int 1], (110, x), (fx_put q5 44 v1 v2))
            cases h
            exact mj_pret hC rfl hR
set_option maxRecDepth 20000 in
theorem bp_hiccup_x {Ls tp ip x d : Nat} {Z : mj_X} (hd : 4 ≤ d) (htp : tp = 3 ∨ tp = 17) {v1 : Int32} {v2 : Int32} {m : mj_M} {r : (Int32 × mj_M)} (h : bp_hiccup tp v1 v2 m = some r) : mj_Ex false (mj_sh Ls) (mj_rf tp ip) Z d 14 [.ref 1, .int v1, .int v2] (110, x) m (some (.int r.1)) (110, x) r.2 := by
  exact mj_Ex_of (cd := mj_cd_14) (L := [some (.ref 1), some (.int v1), some (.int v2)]) (by omega) (by decide) rfl (Nat.le_of_ble_eq_true rfl) rfl (fun P hC => bp_hiccup_p hC (by omega) htp h ⟨rfl, rfl, rfl⟩)
def bp_aunt (tp : Nat) (v1 : Int32) (v2 : Int32) (m : mj_M) : Option (Int32 × mj_M) :=
  (if (to_isMan tp v1 m) = 0 then some (0, m) else
  (if (bp_has (mj_I (m 42 4)) v1 m) = v2 then (if v2 = 0 then (de_add 4 v1 0 m).bind fun q4 =>
  some (1, (mj_up q4 42 4 (.int ((mj_I (q4 42 4)) ||| ((1 : Int32) <<< (v1 &&& 31)))))) else
  (de_add 3 v1 (fx_at m 44 v1) m).bind fun q5 =>
  (sa_sendAway 42 v1 q5).bind fun q6 =>
  some (1, q6)) else
  some (0, m)))
set_option maxRecDepth 20000 in
theorem bp_aunt_p {Ls tp ip x d : Nat} {Z : mj_X} {R : Option Value → mj_G → mj_M → Prop} {P : mj_K → Prop} (hC : mj_cls false (mj_sh Ls) (mj_rf tp ip) mj_dv mj_cd_15 (mj_Ex false (mj_sh Ls) (mj_rf tp ip) Z d) R P) (hd : 3 ≤ d) (htp : tp = 3 ∨ tp = 17) {v1 : Int32} {v2 : Int32} {m : mj_M} {r : (Int32 × mj_M)} (h : bp_aunt tp v1 v2 m = some r) (hR : R (some (.int r.1)) (110, x) r.2) : P (0, [some (.ref 1), some (.int v1), some (.int v2)], [], (110, x), m) := by
  unfold bp_aunt at h
  rcases htp with rfl | rfl
  all_goals
    refine mj_gcp hC 3 ?_
    show P (5, [some (.ref 1), some (.int v1), some (.int v2)], [.int v1, .ref _], (110, x), m)
    refine mj_pcall hC rfl (to_isMan_x (Nat.le_trans (by decide) hd) (by decide)) ?_
    show P (8, [some (.ref 1), some (.int v1), some (.int v2)], [.int (to_isMan _ v1 m)], (110, x), m)
    refine mj_gcp hC 1 ?_
    show P (mj_pick 26 11 ((to_isMan _ v1 m) = 0), [some (.ref 1), some (.int v1), some (.int v2)], [], (110, x), m)
    refine mj_pbr (fun c1 => ?_) (fun c1 => ?_)
    · rw [if_pos c1] at h
      refine mj_gcp hC 1 ?_
      show P (27, [some (.ref 1), some (.int v1), some (.int v2)], [.int 0], (110, x), m)
      cases h
      exact mj_pret hC rfl hR
    · rw [if_neg c1] at h
      refine mj_gcp hC 4 ?_
      show P (19, [some (.ref 1), some (.int v1), some (.int v2)], [.int v1, .int (mj_I (m 42 4))], (110, x), m)
      refine mj_pcall hC rfl (bp_has_x (Nat.le_trans (by decide) hd)) ?_
      show P (22, [some (.ref 1), some (.int v1), some (.int v2)], [.int (bp_has (mj_I (m 42 4)) v1 m)], (110, x), m)
      refine mj_gcp hC 2 ?_
      show P (mj_pick 28 26 ((bp_has (mj_I (m 42 4)) v1 m) = v2), [some (.ref 1), some (.int v1), some (.int v2)], [], (110, x), m)
      refine mj_pbr (fun c2 => ?_) (fun c2 => ?_)
      · rw [if_pos c2] at h
        refine mj_gcp hC 2 ?_
        show P (mj_pick 63 32 (v2 = 0), [some (.ref 1), some (.int v1), some (.int v2)], [], (110, x), m)
        refine mj_pbr (fun c3 => ?_) (fun c3 => ?_)
        · rw [if_pos c3] at h
          refine mj_gcp hC 5 ?_
          show P (70, [some (.ref 1), some (.int v1), some (.int v2)], [.int 0, .int v1, .int 4, .ref 57], (110, x), m)
          obtain ⟨q4, eq4, h⟩ := mj_bnd h
          refine mj_pcall hC rfl (de_add_x (Nat.le_trans (by decide) hd) eq4) ?_
          show P (73, [some (.ref 1), some (.int v1), some (.int v2)], [], (110, x), q4)
          refine mj_gcp hC 9 ?_
          show P (88, [some (.ref 1), some (.int v1), some (.int v2)], [], (110, x), (mj_up q4 42 4 (.int ((mj_I (q4 42 4)) ||| ((1 : Int32) <<< (v1 &&& 31))))))
          refine mj_gcp hC 1 ?_
          show P (89, [some (.ref 1), some (.int v1), some (.int v2)], [.int 1], (110, x), (mj_up q4 42 4 (.int ((mj_I (q4 42 4)) ||| ((1 : Int32) <<< (v1 &&& 31))))))
          cases h
          exact mj_pret hC rfl hR
        · rw [if_neg c3] at h
          refine mj_gcp hC 8 ?_
          show P (46, [some (.ref 1), some (.int v1), some (.int v2)], [.int v1, .ref 44, .int v1, .int 3, .ref 57], (110, x), m)
          refine mj_pcall hC rfl (bp_at_x (Nat.le_trans (by decide) hd) (by decide)) ?_
          show P (49, [some (.ref 1), some (.int v1), some (.int v2)], [.int (fx_at m 44 v1), .int v1, .int 3, .ref 57], (110, x), m)
          obtain ⟨q5, eq5, h⟩ := mj_bnd h
          refine mj_pcall hC rfl (de_add_x (Nat.le_trans (by decide) hd) eq5) ?_
          show P (52, [some (.ref 1), some (.int v1), some (.int v2)], [], (110, x), q5)
          refine mj_gcp hC 3 ?_
          show P (57, [some (.ref 1), some (.int v1), some (.int v2)], [.int v1, .ref 42], (110, x), q5)
          obtain ⟨q6, eq6, h⟩ := mj_bnd h
          refine mj_pcall hC rfl (sa_sendAway_x (Nat.le_trans (by decide) hd) (by decide) eq6) ?_
          show P (60, [some (.ref 1), some (.int v1), some (.int v2)], [], (110, x), q6)
          refine mj_gcp hC 1 ?_
          show P (88, [some (.ref 1), some (.int v1), some (.int v2)], [], (110, x), q6)
          refine mj_gcp hC 1 ?_
          show P (89, [some (.ref 1), some (.int v1), some (.int v2)], [.int 1], (110, x), q6)
          cases h
          exact mj_pret hC rfl hR
      · rw [if_neg c2] at h
        refine mj_gcp hC 1 ?_
        show P (27, [some (.ref 1), some (.int v1), some (.int v2)], [.int 0], (110, x), m)
        cases h
        exact mj_pret hC rfl hR
set_option maxRecDepth 20000 in
theorem bp_aunt_x {Ls tp ip x d : Nat} {Z : mj_X} (hd : 4 ≤ d) (htp : tp = 3 ∨ tp = 17) {v1 : Int32} {v2 : Int32} {m : mj_M} {r : (Int32 × mj_M)} (h : bp_aunt tp v1 v2 m = some r) : mj_Ex false (mj_sh Ls) (mj_rf tp ip) Z d 15 [.ref 1, .int v1, .int v2] (110, x) m (some (.int r.1)) (110, x) r.2 := by
  exact mj_Ex_of (cd := mj_cd_15) (L := [some (.ref 1), some (.int v1), some (.int v2)]) (by omega) (by decide) rfl (Nat.le_of_ble_eq_true rfl) rfl (fun P hC => bp_aunt_p hC (by omega) htp h ⟨rfl, rfl, rfl⟩)
def bp_cut_j135l64 (tp : Nat)  (v1 : Int32) (v2 : Int32) (v3 : Int32) (v4 : Int32) (v5 : Int32)  (m : mj_M) : Option (Nat × (Int32 × Int32)) :=
  some (0, (v4, (v5 + 1)))
def bp_cut_j88l64 (tp : Nat)  (v1 : Int32) (v2 : Int32) (v3 : Int32) (v4 : Int32) (v5 : Int32) (s0 : Int32) (m : mj_M) : Option (Nat × (Int32 × Int32)) :=
  (if (v5 &&& (v3 ^^^ (-1))) = 0 then (if s0 = 0 then bp_cut_j135l64 tp v1 v2 v3 v4 v5 m else
  (to_reach tp v1 ((mj_I (m 42 4)) &&& (v5 ^^^ (-1))) m).bind fun q10 =>
  (if (bp_has q10 v2 m) = 0 then bp_cut_j135l64 tp v1 v2 v3 v5 v5 m else
  bp_cut_j135l64 tp v1 v2 v3 v4 v5 m)) else
  bp_cut_j135l64 tp v1 v2 v3 v4 v5 m)
def bp_cut_l64 (tp : Nat) (v1 : Int32) (v2 : Int32) (v3 : Int32) (m : mj_M) (s64 : (Int32 × Int32)) : Option (Nat × (Int32 × Int32)) :=
  (if v3 ≤ s64.2 then some (1, (s64.1, s64.2)) else
  (if (ig_bitCount s64.1 m) ≤ (ig_bitCount s64.2 m) then bp_cut_j88l64 tp v1 v2 v3 s64.1 s64.2 0 m else
  bp_cut_j88l64 tp v1 v2 v3 s64.1 s64.2 1 m))
def bp_cut (tp : Nat) (v1 : Int32) (v2 : Int32) (m : mj_M) : Option Int32 :=
  (if (bp_isHere tp v1 m) = 0 then some (-1) else
  (if (bp_isHere tp v2 m) = 0 then some (-1) else
  (if v1 = v2 then some (-1) else
  (to_areTied tp v1 v2 m).bind fun q4 =>
  (if q4 = 0 then (mj_loop (bp_cut_l64 tp v1 v2 (((mj_I (m 42 4)) &&& (((1 : Int32) <<< (v1 &&& 31)) ^^^ (-1))) &&& (((1 : Int32) <<< (v2 &&& 31)) ^^^ (-1))) m) mj_F ((((mj_I (m 42 4)) &&& (((1 : Int32) <<< (v1 &&& 31)) ^^^ (-1))) &&& (((1 : Int32) <<< (v2 &&& 31)) ^^^ (-1))), 0)).bind fun q12 =>
  some q12.2.1 else
  some (-2)))))
set_option maxRecDepth 20000 in
theorem bp_cut_j135l64_x {Ls tp ip x d : Nat} {Z : mj_X} {R : Option Value → mj_G → mj_M → Prop} {P : mj_K → Prop} (hC : mj_cls false (mj_sh Ls) (mj_rf tp ip) mj_dv mj_cd_25 (mj_Ex false (mj_sh Ls) (mj_rf tp ip) Z d) R P) (hd : 2 ≤ d) (htp : tp = 3 ∨ tp = 17)  {v1 : Int32} {v2 : Int32} {v3 : Int32} {v4 : Int32} {v5 : Int32}  {m : mj_M} {t : Nat} {w : (Int32 × Int32)} (h : bp_cut_j135l64 tp  v1 v2 v3 v4 v5 m = some (t, w)) (h0 : t = 0 → P (64, [some (.ref 1), some (.int v1), some (.int v2), some (.int v3), some (.int w.1), some (.int w.2), none], [], (110, x), m)) (h1 : t = 1 → P (141, [none, none, none, none, some (.int w.1), none, none], [], (110, x), m)) : P (135, [some (.ref 1), some (.int v1), some (.int v2), some (.int v3), some (.int v4), some (.int v5), none], [], (110, x), m) := by
  unfold bp_cut_j135l64 at h
  rcases htp with rfl | rfl
  all_goals
    refine mj_gcp hC 2 ?_
    show P (64, [some (.ref 1), some (.int v1), some (.int v2), some (.int v3), some (.int v4), some (.int (v5 + 1)), none], [], (110, x), m)
    cases h
    exact mj_less hC (L0 := [some (.ref 1), some (.int v1), some (.int v2), some (.int v3), some (.int v4), some (.int (v5 + 1)), none]) (And.intro rfl (And.intro rfl (And.intro rfl (And.intro rfl (And.intro rfl (And.intro rfl trivial)))))) (h0 rfl)
set_option maxRecDepth 20000 in
theorem bp_cut_j88l64_x {Ls tp ip x d : Nat} {Z : mj_X} {R : Option Value → mj_G → mj_M → Prop} {P : mj_K → Prop} (hC : mj_cls false (mj_sh Ls) (mj_rf tp ip) mj_dv mj_cd_25 (mj_Ex false (mj_sh Ls) (mj_rf tp ip) Z d) R P) (hd : 2 ≤ d) (htp : tp = 3 ∨ tp = 17)  {v1 : Int32} {v2 : Int32} {v3 : Int32} {v4 : Int32} {v5 : Int32} {s0 : Int32} {m : mj_M} {t : Nat} {w : (Int32 × Int32)} (h : bp_cut_j88l64 tp  v1 v2 v3 v4 v5 s0 m = some (t, w)) (h0 : t = 0 → P (64, [some (.ref 1), some (.int v1), some (.int v2), some (.int v3), some (.int w.1), some (.int w.2), none], [], (110, x), m)) (h1 : t = 1 → P (141, [none, none, none, none, some (.int w.1), none, none], [], (110, x), m)) : P (88, [some (.ref 1), some (.int v1), some (.int v2), some (.int v3), some (.int v4), some (.int v5), none], [.int s0], (110, x), m) := by
  unfold bp_cut_j88l64 at h
  rcases htp with rfl | rfl
  all_goals
    refine mj_gcp hC 7 ?_
    show P (mj_pick 99 135 ((v5 &&& (v3 ^^^ (-1))) = 0), [some (.ref 1), some (.int v1), some (.int v2), some (.int v3), some (.int v4), some (.int v5), some (.int s0)], [], (110, x), m)
    refine mj_pbr (fun c8 => ?_) (fun c8 => ?_)
    · rw [if_pos c8] at h
      refine mj_gcp hC 2 ?_
      show P (mj_pick 135 104 (s0 = 0), [some (.ref 1), some (.int v1), some (.int v2), some (.int v3), some (.int v4), some (.int v5), some (.int s0)], [], (110, x), m)
      refine mj_pbr (fun c9 => ?_) (fun c9 => ?_)
      · rw [if_pos c9] at h
        exact mj_less hC (L0 := [some (.ref 1), some (.int v1), some (.int v2), some (.int v3), some (.int v4), some (.int v5), none]) (And.intro rfl (And.intro rfl (And.intro rfl (And.intro rfl (And.intro rfl (And.intro rfl trivial)))))) (bp_cut_j135l64_x hC hd (by decide) h h0 h1)
      · rw [if_neg c9] at h
        refine mj_gcp hC 10 ?_
        show P (121, [some (.ref 1), some (.int v1), some (.int v2), some (.int v3), some (.int v4), some (.int v5), some (.int s0)], [.int ((mj_I (m 42 4)) &&& (v5 ^^^ (-1))), .int v1, .ref _], (110, x), m)
        obtain ⟨q10, eq10, h⟩ := mj_bnd h
        refine mj_pcall hC rfl (to_reach_x (Nat.le_trans (by decide) hd) (by decide) eq10) ?_
        show P (124, [some (.ref 1), some (.int v1), some (.int v2), some (.int v3), some (.int v4), some (.int v5), some (.int s0)], [.int q10], (110, x), m)
        refine mj_gcp hC 1 ?_
        show P (125, [some (.ref 1), some (.int v1), some (.int v2), some (.int v3), some (.int v4), some (.int v5), some (.int s0)], [.int v2, .int q10], (110, x), m)
        refine mj_pcall hC rfl (bp_has_x (Nat.le_trans (by decide) hd)) ?_
        show P (128, [some (.ref 1), some (.int v1), some (.int v2), some (.int v3), some (.int v4), some (.int v5), some (.int s0)], [.int (bp_has q10 v2 m)], (110, x), m)
        refine mj_gcp hC 1 ?_
        show P (mj_pick 131 135 ((bp_has q10 v2 m) = 0), [some (.ref 1), some (.int v1), some (.int v2), some (.int v3), some (.int v4), some (.int v5), some (.int s0)], [], (110, x), m)
        refine mj_pbr (fun c11 => ?_) (fun c11 => ?_)
        · rw [if_pos c11] at h
          refine mj_gcp hC 2 ?_
          show P (135, [some (.ref 1), some (.int v1), some (.int v2), some (.int v3), some (.int v5), some (.int v5), some (.int s0)], [], (110, x), m)
          exact mj_less hC (L0 := [some (.ref 1), some (.int v1), some (.int v2), some (.int v3), some (.int v5), some (.int v5), none]) (And.intro rfl (And.intro rfl (And.intro rfl (And.intro rfl (And.intro rfl (And.intro rfl trivial)))))) (bp_cut_j135l64_x hC hd (by decide) h h0 h1)
        · rw [if_neg c11] at h
          exact mj_less hC (L0 := [some (.ref 1), some (.int v1), some (.int v2), some (.int v3), some (.int v4), some (.int v5), none]) (And.intro rfl (And.intro rfl (And.intro rfl (And.intro rfl (And.intro rfl (And.intro rfl trivial)))))) (bp_cut_j135l64_x hC hd (by decide) h h0 h1)
    · rw [if_neg c8] at h
      exact mj_less hC (L0 := [some (.ref 1), some (.int v1), some (.int v2), some (.int v3), some (.int v4), some (.int v5), none]) (And.intro rfl (And.intro rfl (And.intro rfl (And.intro rfl (And.intro rfl (And.intro rfl trivial)))))) (bp_cut_j135l64_x hC hd (by decide) h h0 h1)
set_option maxRecDepth 20000 in
theorem bp_cut_l64_x {Ls tp ip x d : Nat} {Z : mj_X} {R : Option Value → mj_G → mj_M → Prop} {P : mj_K → Prop} (hC : mj_cls false (mj_sh Ls) (mj_rf tp ip) mj_dv mj_cd_25 (mj_Ex false (mj_sh Ls) (mj_rf tp ip) Z d) R P) (hd : 2 ≤ d) (htp : tp = 3 ∨ tp = 17) {v1 : Int32} {v2 : Int32} {v3 : Int32} {m : mj_M} (s64 : (Int32 × Int32)) {t : Nat} {w : (Int32 × Int32)} (h : bp_cut_l64 tp v1 v2 v3 m s64 = some (t, w)) (h0 : t = 0 → P (64, [some (.ref 1), some (.int v1), some (.int v2), some (.int v3), some (.int w.1), some (.int w.2), none], [], (110, x), m)) (h1 : t = 1 → P (141, [none, none, none, none, some (.int w.1), none, none], [], (110, x), m)) : P (64, [some (.ref 1), some (.int v1), some (.int v2), some (.int v3), some (.int s64.1), some (.int s64.2), none], [], (110, x), m) := by
  unfold bp_cut_l64 at h
  rcases htp with rfl | rfl
  all_goals
    refine mj_gcp hC 3 ?_
    show P (mj_pick 141 70 (v3 ≤ s64.2), [some (.ref 1), some (.int v1), some (.int v2), some (.int v3), some (.int s64.1), some (.int s64.2), none], [], (110, x), m)
    refine mj_pbr (fun c6 => ?_) (fun c6 => ?_)
    · rw [if_pos c6] at h
      cases h
      exact mj_less hC (L0 := [none, none, none, none, some (.int s64.1), none, none]) (And.intro rfl trivial) (h1 rfl)
    · rw [if_neg c6] at h
      refine mj_gcp hC 1 ?_
      show P (72, [some (.ref 1), some (.int v1), some (.int v2), some (.int v3), some (.int s64.1), some (.int s64.2), none], [.int s64.2], (110, x), m)
      refine mj_pcall hC rfl (ig_bitCount_x (Nat.le_trans (by decide) hd)) ?_
      show P (75, [some (.ref 1), some (.int v1), some (.int v2), some (.int v3), some (.int s64.1), some (.int s64.2), none], [.int (ig_bitCount s64.2 m)], (110, x), m)
      refine mj_gcp hC 1 ?_
      show P (77, [some (.ref 1), some (.int v1), some (.int v2), some (.int v3), some (.int s64.1), some (.int s64.2), none], [.int s64.1, .int (ig_bitCount s64.2 m)], (110, x), m)
      refine mj_pcall hC rfl (ig_bitCount_x (Nat.le_trans (by decide) hd)) ?_
      show P (80, [some (.ref 1), some (.int v1), some (.int v2), some (.int v3), some (.int s64.1), some (.int s64.2), none], [.int (ig_bitCount s64.1 m), .int (ig_bitCount s64.2 m)], (110, x), m)
      refine mj_gcp hC 1 ?_
      show P (mj_pick 87 83 ((ig_bitCount s64.1 m) ≤ (ig_bitCount s64.2 m)), [some (.ref 1), some (.int v1), some (.int v2), some (.int v3), some (.int s64.1), some (.int s64.2), none], [], (110, x), m)
      refine mj_pbr (fun c7 => ?_) (fun c7 => ?_)
      · rw [if_pos c7] at h
        refine mj_gcp hC 1 ?_
        show P (88, [some (.ref 1), some (.int v1), some (.int v2), some (.int v3), some (.int s64.1), some (.int s64.2), none], [.int 0], (110, x), m)
        exact mj_less hC (L0 := [some (.ref 1), some (.int v1), some (.int v2), some (.int v3), some (.int s64.1), some (.int s64.2), none]) (And.intro rfl (And.intro rfl (And.intro rfl (And.intro rfl (And.intro rfl (And.intro rfl trivial)))))) (bp_cut_j88l64_x hC hd (by decide) h h0 h1)
      · rw [if_neg c7] at h
        refine mj_gcp hC 2 ?_
        show P (88, [some (.ref 1), some (.int v1), some (.int v2), some (.int v3), some (.int s64.1), some (.int s64.2), none], [.int 1], (110, x), m)
        exact mj_less hC (L0 := [some (.ref 1), some (.int v1), some (.int v2), some (.int v3), some (.int s64.1), some (.int s64.2), none]) (And.intro rfl (And.intro rfl (And.intro rfl (And.intro rfl (And.intro rfl (And.intro rfl trivial)))))) (bp_cut_j88l64_x hC hd (by decide) h h0 h1)
set_option maxRecDepth 20000 in
theorem bp_cut_p {Ls tp ip x d : Nat} {Z : mj_X} {R : Option Value → mj_G → mj_M → Prop} {P : mj_K → Prop} (hC : mj_cls false (mj_sh Ls) (mj_rf tp ip) mj_dv mj_cd_25 (mj_Ex false (mj_sh Ls) (mj_rf tp ip) Z d) R P) (hd : 2 ≤ d) (htp : tp = 3 ∨ tp = 17) {v1 : Int32} {v2 : Int32} {m : mj_M} {r : Int32} (h : bp_cut tp v1 v2 m = some r) (hR : R (some (.int r)) (110, x) m) : P (0, [some (.ref 1), some (.int v1), some (.int v2), none, none, none, none], [], (110, x), m) := by
  unfold bp_cut at h
  rcases htp with rfl | rfl
  all_goals
    refine mj_gcp hC 2 ?_
    show P (2, [some (.ref 1), some (.int v1), some (.int v2), none, none, none, none], [.int v1, .ref 1], (110, x), m)
    refine mj_pcall hC rfl (bp_isHere_x (Nat.le_trans (by decide) hd) (by decide)) ?_
    show P (5, [some (.ref 1), some (.int v1), some (.int v2), none, none, none, none], [.int (bp_isHere _ v1 m)], (110, x), m)
    refine mj_gcp hC 1 ?_
    show P (mj_pick 21 8 ((bp_isHere _ v1 m) = 0), [some (.ref 1), some (.int v1), some (.int v2), none, none, none, none], [], (110, x), m)
    refine mj_pbr (fun c1 => ?_) (fun c1 => ?_)
    · rw [if_pos c1] at h
      refine mj_gcp hC 1 ?_
      show P (22, [some (.ref 1), some (.int v1), some (.int v2), none, none, none, none], [.int (-1)], (110, x), m)
      cases h
      exact mj_pret hC rfl hR
    · rw [if_neg c1] at h
      refine mj_gcp hC 2 ?_
      show P (10, [some (.ref 1), some (.int v1), some (.int v2), none, none, none, none], [.int v2, .ref 1], (110, x), m)
      refine mj_pcall hC rfl (bp_isHere_x (Nat.le_trans (by decide) hd) (by decide)) ?_
      show P (13, [some (.ref 1), some (.int v1), some (.int v2), none, none, none, none], [.int (bp_isHere _ v2 m)], (110, x), m)
      refine mj_gcp hC 1 ?_
      show P (mj_pick 21 16 ((bp_isHere _ v2 m) = 0), [some (.ref 1), some (.int v1), some (.int v2), none, none, none, none], [], (110, x), m)
      refine mj_pbr (fun c2 => ?_) (fun c2 => ?_)
      · rw [if_pos c2] at h
        refine mj_gcp hC 1 ?_
        show P (22, [some (.ref 1), some (.int v1), some (.int v2), none, none, none, none], [.int (-1)], (110, x), m)
        cases h
        exact mj_pret hC rfl hR
      · rw [if_neg c2] at h
        refine mj_gcp hC 3 ?_
        show P (mj_pick 21 23 (v1 = v2), [some (.ref 1), some (.int v1), some (.int v2), none, none, none, none], [], (110, x), m)
        refine mj_pbr (fun c3 => ?_) (fun c3 => ?_)
        · rw [if_pos c3] at h
          refine mj_gcp hC 1 ?_
          show P (22, [some (.ref 1), some (.int v1), some (.int v2), none, none, none, none], [.int (-1)], (110, x), m)
          cases h
          exact mj_pret hC rfl hR
        · rw [if_neg c3] at h
          refine mj_gcp hC 4 ?_
          show P (29, [some (.ref 1), some (.int v1), some (.int v2), none, none, none, none], [.int v2, .int v1, .ref _], (110, x), m)
          obtain ⟨q4, eq4, h⟩ := mj_bnd h
          refine mj_pcall hC rfl (to_areTied_x (Nat.le_trans (by decide) hd) (by decide) eq4) ?_
          show P (32, [some (.ref 1), some (.int v1), some (.int v2), none, none, none, none], [.int q4], (110, x), m)
          refine mj_gcp hC 1 ?_
          show P (mj_pick 38 35 (q4 = 0), [some (.ref 1), some (.int v1), some (.int v2), none, none, none, none], [], (110, x), m)
          refine mj_pbr (fun c5 => ?_) (fun c5 => ?_)
          · rw [if_pos c5] at h
            refine mj_gcp hC 20 ?_
            show P (64, [some (.ref 1), some (.int v1), some (.int v2), some (.int (((mj_I (m 42 4)) &&& (((1 : Int32) <<< (v1 &&& 31)) ^^^ (-1))) &&& (((1 : Int32) <<< (v2 &&& 31)) ^^^ (-1)))), some (.int (((mj_I (m 42 4)) &&& (((1 : Int32) <<< (v1 &&& 31)) ^^^ (-1))) &&& (((1 : Int32) <<< (v2 &&& 31)) ^^^ (-1)))), some (.int 0), none], [], (110, x), m)
            obtain ⟨q12, eq12, h⟩ := mj_bnd h
            refine mj_less hC (L0 := [some (.ref 1), some (.int v1), some (.int v2), some (.int (((mj_I (m 42 4)) &&& (((1 : Int32) <<< (v1 &&& 31)) ^^^ (-1))) &&& (((1 : Int32) <<< (v2 &&& 31)) ^^^ (-1)))), some (.int (((mj_I (m 42 4)) &&& (((1 : Int32) <<< (v1 &&& 31)) ^^^ (-1))) &&& (((1 : Int32) <<< (v2 &&& 31)) ^^^ (-1)))), some (.int 0), none]) (And.intro rfl (And.intro rfl (And.intro rfl (And.intro rfl (And.intro rfl (And.intro rfl trivial)))))) ?_
            refine mj_loop_P (A := fun z64 => P (64, [some (.ref 1), some (.int v1), some (.int v2), some (.int (((mj_I (m 42 4)) &&& (((1 : Int32) <<< (v1 &&& 31)) ^^^ (-1))) &&& (((1 : Int32) <<< (v2 &&& 31)) ^^^ (-1)))), some (.int z64.1), some (.int z64.2), none], [], (110, x), m)) (E := fun _ z64 => P (141, [none, none, none, none, some (.int z64.1), none, none], [], (110, x), m)) (fun zz t w hb h0 h1 => bp_cut_l64_x hC hd (by decide) zz hb h0 (fun ht => h1 0 ht)) mj_F _ q12 eq12 ?_
            refine mj_gcp hC 1 ?_
            show P (143, [none, none, none, none, some (.int q12.2.1), none, none], [.int q12.2.1], (110, x), m)
            cases h
            exact mj_pret hC rfl hR
          · rw [if_neg c5] at h
            refine mj_gcp hC 1 ?_
            show P (37, [some (.ref 1), some (.int v1), some (.int v2), none, none, none, none], [.int (-2)], (110, x), m)
            cases h
            exact mj_pret hC rfl hR
set_option maxRecDepth 20000 in
theorem bp_cut_x {Ls tp ip x d : Nat} {Z : mj_X} (hd : 3 ≤ d) (htp : tp = 3 ∨ tp = 17) {v1 : Int32} {v2 : Int32} {m : mj_M} {r : Int32} (h : bp_cut tp v1 v2 m = some r) : mj_Ex false (mj_sh Ls) (mj_rf tp ip) Z d 25 [.ref 1, .int v1, .int v2] (110, x) m (some (.int r)) (110, x) m := by
  exact mj_Ex_of (cd := mj_cd_25) (L := [some (.ref 1), some (.int v1), some (.int v2), none, none, none, none]) (by omega) (by decide) rfl (Nat.le_of_ble_eq_true rfl) rfl (fun P hC => bp_cut_p hC (by omega) htp h ⟨rfl, rfl, rfl⟩)
def bp_isRest  (v0 : Int32) (v1 : Int32) (v2 : Int32) (v3 : Int32) (m : mj_M) : Int32 :=
  (if (bp_loss v0 ((1 : Int32) - v2) v3 m) < (bp_loss v0 v2 v3 m) then 0 else
  (if (bp_loss v1 ((1 : Int32) - v3) v2 m) < (bp_loss v1 v3 v2 m) then 0 else
  1))
set_option maxRecDepth 20000 in
theorem bp_isRest_p {Ls tp ip x d : Nat} {Z : mj_X} {R : Option Value → mj_G → mj_M → Prop} {P : mj_K → Prop} (hC : mj_cls false (mj_sh Ls) (mj_rf tp ip) mj_dv mj_cd_30 (mj_Ex false (mj_sh Ls) (mj_rf tp ip) Z d) R P) (hd : 2 ≤ d) {v0 : Int32} {v1 : Int32} {v2 : Int32} {v3 : Int32} {m : mj_M} (hR : R (some (.int (bp_isRest v0 v1 v2 v3 m))) (110, x) m) : P (0, [some (.int v0), some (.int v1), some (.int v2), some (.int v3)], [], (110, x), m) := by
  unfold bp_isRest at hR
  refine mj_gcp hC 3 ?_
  show P (3, [some (.int v0), some (.int v1), some (.int v2), some (.int v3)], [.int v3, .int v2, .int v0], (110, x), m)
  refine mj_pcall hC rfl (bp_loss_x (Nat.le_trans (by decide) hd)) ?_
  show P (6, [some (.int v0), some (.int v1), some (.int v2), some (.int v3)], [.int (bp_loss v0 v2 v3 m)], (110, x), m)
  refine mj_gcp hC 5 ?_
  show P (11, [some (.int v0), some (.int v1), some (.int v2), some (.int v3)], [.int v3, .int ((1 : Int32) - v2), .int v0, .int (bp_loss v0 v2 v3 m)], (110, x), m)
  refine mj_pcall hC rfl (bp_loss_x (Nat.le_trans (by decide) hd)) ?_
  show P (14, [some (.int v0), some (.int v1), some (.int v2), some (.int v3)], [.int (bp_loss v0 ((1 : Int32) - v2) v3 m), .int (bp_loss v0 v2 v3 m)], (110, x), m)
  refine mj_gcp hC 1 ?_
  show P (mj_pick 38 17 ((bp_loss v0 ((1 : Int32) - v2) v3 m) < (bp_loss v0 v2 v3 m)), [some (.int v0), some (.int v1), some (.int v2), some (.int v3)], [], (110, x), m)
  refine mj_pbr (fun c1 => ?_) (fun c1 => ?_)
  · rw [if_pos c1] at hR
    refine mj_gcp hC 1 ?_
    show P (39, [some (.int v0), some (.int v1), some (.int v2), some (.int v3)], [.int 0], (110, x), m)
    exact mj_pret hC rfl hR
  · rw [if_neg c1] at hR
    refine mj_gcp hC 3 ?_
    show P (20, [some (.int v0), some (.int v1), some (.int v2), some (.int v3)], [.int v2, .int v3, .int v1], (110, x), m)
    refine mj_pcall hC rfl (bp_loss_x (Nat.le_trans (by decide) hd)) ?_
    show P (23, [some (.int v0), some (.int v1), some (.int v2), some (.int v3)], [.int (bp_loss v1 v3 v2 m)], (110, x), m)
    refine mj_gcp hC 5 ?_
    show P (28, [some (.int v0), some (.int v1), some (.int v2), some (.int v3)], [.int v2, .int ((1 : Int32) - v3), .int v1, .int (bp_loss v1 v3 v2 m)], (110, x), m)
    refine mj_pcall hC rfl (bp_loss_x (Nat.le_trans (by decide) hd)) ?_
    show P (31, [some (.int v0), some (.int v1), some (.int v2), some (.int v3)], [.int (bp_loss v1 ((1 : Int32) - v3) v2 m), .int (bp_loss v1 v3 v2 m)], (110, x), m)
    refine mj_gcp hC 1 ?_
    show P (mj_pick 38 34 ((bp_loss v1 ((1 : Int32) - v3) v2 m) < (bp_loss v1 v3 v2 m)), [some (.int v0), some (.int v1), some (.int v2), some (.int v3)], [], (110, x), m)
    refine mj_pbr (fun c2 => ?_) (fun c2 => ?_)
    · rw [if_pos c2] at hR
      refine mj_gcp hC 1 ?_
      show P (39, [some (.int v0), some (.int v1), some (.int v2), some (.int v3)], [.int 0], (110, x), m)
      exact mj_pret hC rfl hR
    · rw [if_neg c2] at hR
      refine mj_gcp hC 2 ?_
      show P (39, [some (.int v0), some (.int v1), some (.int v2), some (.int v3)], [.int 1], (110, x), m)
      exact mj_pret hC rfl hR
set_option maxRecDepth 20000 in
theorem bp_isRest_x {Ls tp ip x d : Nat} {Z : mj_X} (hd : 3 ≤ d) {v0 : Int32} {v1 : Int32} {v2 : Int32} {v3 : Int32} {m : mj_M}  : mj_Ex false (mj_sh Ls) (mj_rf tp ip) Z d 30 [.int v0, .int v1, .int v2, .int v3] (110, x) m (some (.int (bp_isRest v0 v1 v2 v3 m))) (110, x) m := by
  exact mj_Ex_of (cd := mj_cd_30) (L := [some (.int v0), some (.int v1), some (.int v2), some (.int v3)]) (by omega) (by decide) rfl (Nat.le_of_ble_eq_true rfl) rfl (fun P hC => bp_isRest_p hC (by omega) ⟨rfl, rfl, rfl⟩)
