/-! FUNCTIONS OUT OF THE INSTRUCTIONS, AND THAT A RUN GIVES THEM (made by wip/whole/emit.py) -/
def md_begin   (m : mj_M) : Option mj_M :=
  (md_atFirst 0 m).bind fun q1 =>
  (md_plainTried (mj_up q1 68 60 (.long (mj_I (q1 72 (2 : Int32).toNatClampNeg)).toInt64))).bind fun q2 =>
  some (mj_up (mj_up (mj_up (mj_up q2 68 71 (.int 0)) 68 72 (.int (-1))) 68 75 (.int 0)) 68 77 (.int 0))
set_option maxRecDepth 20000 in
theorem md_begin_p {Ls tp ip x d : Nat} {Z : mj_X} {R : Option Value → mj_G → mj_M → Prop} {P : mj_K → Prop} (hC : mj_cls false (mj_sh Ls) (mj_rf tp ip) mj_dv mj_cd_197 (mj_Ex false (mj_sh Ls) (mj_rf tp ip) Z d) R P) (hd : 1 ≤ d)  {m : mj_M} {r : mj_M} (h : md_begin m = some r) (hR : R none (110, x) r) : P (0, [some (.ref 68)], [], (110, x), m) := by
  unfold md_begin at h
  refine mj_gcp hC 2 ?_
  show P (2, [some (.ref 68)], [.int 0, .ref 68], (110, x), m)
  obtain ⟨q1, eq1, h⟩ := mj_bnd h
  refine mj_pcall hC rfl (md_atFirst_x (Nat.le_trans (by decide) hd) eq1) ?_
  show P (5, [some (.ref 68)], [], (110, x), q1)
  refine mj_gcp hC 8 ?_
  show _ ∧ (P (17, [some (.ref 68)], [.ref 68], (110, x), (mj_up q1 68 60 (.long (mj_I (q1 72 (2 : Int32).toNatClampNeg)).toInt64))))
  refine And.intro (show ¬ ((2 : Int32) < 0 ∨ 6 ≤ (2 : Int32).toNatClampNeg) by decide) (?_)
  obtain ⟨q2, eq2, h⟩ := mj_bnd h
  refine mj_pcall hC rfl (md_plainTried_x (Nat.le_trans (by decide) hd) eq2) ?_
  show P (20, [some (.ref 68)], [], (110, x), q2)
  refine mj_gcp hC 12 ?_
  show P (40, [some (.ref 68)], [], (110, x), (mj_up (mj_up (mj_up (mj_up q2 68 71 (.int 0)) 68 72 (.int (-1))) 68 75 (.int 0)) 68 77 (.int 0)))
  cases h
  exact mj_pret hC rfl hR
set_option maxRecDepth 20000 in
theorem md_begin_x {Ls tp ip x d : Nat} {Z : mj_X} (hd : 2 ≤ d)  {m : mj_M} {r : mj_M} (h : md_begin m = some r) : mj_Ex false (mj_sh Ls) (mj_rf tp ip) Z d 197 [.ref 68] (110, x) m none (110, x) r := by
  exact mj_Ex_of (cd := mj_cd_197) (L := [some (.ref 68)]) (by omega) (by decide) rfl (Nat.le_of_ble_eq_true rfl) rfl (fun P hC => md_begin_p hC (by omega) h ⟨rfl, rfl, rfl⟩)
def md_shift  (v1 : Int32) (m : mj_M) : Option (Int32 × mj_M) :=
  (if (md_isIn v1 (-99) 99 (mj_up m 68 2 (.int 0))) = 0 then some (0, (mj_up m 68 2 (.int 0))) else
  (if (mj_I (m 99 (0 : Int32).toNatClampNeg)) = v1 then some (0, (mj_up m 68 2 (.int 0))) else
  (md_remember (mj_up m 68 2 (.int 0))).bind fun q3 =>
  some (1, (mj_up q3 99 (0 : Int32).toNatClampNeg (.int v1)))))
set_option maxRecDepth 20000 in
theorem md_shift_p {Ls tp ip x d : Nat} {Z : mj_X} {R : Option Value → mj_G → mj_M → Prop} {P : mj_K → Prop} (hC : mj_cls false (mj_sh Ls) (mj_rf tp ip) mj_dv mj_cd_228 (mj_Ex false (mj_sh Ls) (mj_rf tp ip) Z d) R P) (hd : 2 ≤ d) {v1 : Int32} {m : mj_M} {r : (Int32 × mj_M)} (h : md_shift v1 m = some r) (hR : R (some (.int r.1)) (110, x) r.2) : P (0, [some (.ref 68), some (.int v1)], [], (110, x), m) := by
  unfold md_shift at h
  refine mj_gcp hC 6 ?_
  show P (10, [some (.ref 68), some (.int v1)], [.int 99, .int (-99), .int v1], (110, x), (mj_up m 68 2 (.int 0)))
  refine mj_pcall hC rfl (md_isIn_x (Nat.le_trans (by decide) hd)) ?_
  show P (13, [some (.ref 68), some (.int v1)], [.int (md_isIn v1 (-99) 99 (mj_up m 68 2 (.int 0)))], (110, x), (mj_up m 68 2 (.int 0)))
  refine mj_gcp hC 1 ?_
  show P (mj_pick 26 16 ((md_isIn v1 (-99) 99 (mj_up m 68 2 (.int 0))) = 0), [some (.ref 68), some (.int v1)], [], (110, x), (mj_up m 68 2 (.int 0)))
  refine mj_pbr (fun c1 => ?_) (fun c1 => ?_)
  · rw [if_pos c1] at h
    refine mj_gcp hC 1 ?_
    show P (27, [some (.ref 68), some (.int v1)], [.int 0], (110, x), (mj_up m 68 2 (.int 0)))
    cases h
    exact mj_pret hC rfl hR
  · rw [if_neg c1] at h
    refine mj_gcp hC 6 ?_
    show _ ∧ (P (mj_pick 26 28 ((mj_I (m 99 (0 : Int32).toNatClampNeg)) = v1), [some (.ref 68), some (.int v1)], [], (110, x), (mj_up m 68 2 (.int 0))))
    refine And.intro (show ¬ ((0 : Int32) < 0 ∨ 2 ≤ (0 : Int32).toNatClampNeg) by decide) (?_)
    refine mj_pbr (fun c2 => ?_) (fun c2 => ?_)
    · rw [if_pos c2] at h
      refine mj_gcp hC 1 ?_
      show P (27, [some (.ref 68), some (.int v1)], [.int 0], (110, x), (mj_up m 68 2 (.int 0)))
      cases h
      exact mj_pret hC rfl hR
    · rw [if_neg c2] at h
      refine mj_gcp hC 1 ?_
      show P (29, [some (.ref 68), some (.int v1)], [.ref 68], (110, x), (mj_up m 68 2 (.int 0)))
      obtain ⟨q3, eq3, h⟩ := mj_bnd h
      refine mj_pcall hC rfl (md_remember_x (Nat.le_trans (by decide) hd) eq3) ?_
      show P (32, [some (.ref 68), some (.int v1)], [], (110, x), q3)
      refine mj_gcp hC 6 ?_
      show _ ∧ (P (40, [some (.ref 68), some (.int v1)], [.int 1], (110, x), (mj_up q3 99 (0 : Int32).toNatClampNeg (.int v1))))
      refine And.intro (show ¬ ((0 : Int32) < 0 ∨ 2 ≤ (0 : Int32).toNatClampNeg) by decide) (?_)
      cases h
      exact mj_pret hC rfl hR
set_option maxRecDepth 20000 in
theorem md_shift_x {Ls tp ip x d : Nat} {Z : mj_X} (hd : 3 ≤ d) {v1 : Int32} {m : mj_M} {r : (Int32 × mj_M)} (h : md_shift v1 m = some r) : mj_Ex false (mj_sh Ls) (mj_rf tp ip) Z d 228 [.ref 68, .int v1] (110, x) m (some (.int r.1)) (110, x) r.2 := by
  exact mj_Ex_of (cd := mj_cd_228) (L := [some (.ref 68), some (.int v1)]) (by omega) (by decide) rfl (Nat.le_of_ble_eq_true rfl) rfl (fun P hC => md_shift_p hC (by omega) h ⟨rfl, rfl, rfl⟩)
def md_wind  (v1 : Int32) (m : mj_M) : Option (Int32 × mj_M) :=
  (if (md_isIn v1 1 999 (mj_up m 68 2 (.int 0))) = 0 then some ((-1), (mj_up m 68 2 (.int 0))) else
  (if ((mj_I (m 98 (0 : Int32).toNatClampNeg)) + v1) ≤ 999 then (md_remember (mj_up m 68 2 (.int 0))).bind fun q3 =>
  some (((mj_I (q3 98 (0 : Int32).toNatClampNeg)) + v1), (mj_up q3 98 (0 : Int32).toNatClampNeg (.int ((mj_I (q3 98 (0 : Int32).toNatClampNeg)) + v1)))) else
  some ((-1), (mj_up m 68 2 (.int 0)))))
set_option maxRecDepth 20000 in
theorem md_wind_p {Ls tp ip x d : Nat} {Z : mj_X} {R : Option Value → mj_G → mj_M → Prop} {P : mj_K → Prop} (hC : mj_cls false (mj_sh Ls) (mj_rf tp ip) mj_dv mj_cd_229 (mj_Ex false (mj_sh Ls) (mj_rf tp ip) Z d) R P) (hd : 2 ≤ d) {v1 : Int32} {m : mj_M} {r : (Int32 × mj_M)} (h : md_wind v1 m = some r) (hR : R (some (.int r.1)) (110, x) r.2) : P (0, [some (.ref 68), some (.int v1)], [], (110, x), m) := by
  unfold md_wind at h
  refine mj_gcp hC 6 ?_
  show P (10, [some (.ref 68), some (.int v1)], [.int 999, .int 1, .int v1], (110, x), (mj_up m 68 2 (.int 0)))
  refine mj_pcall hC rfl (md_isIn_x (Nat.le_trans (by decide) hd)) ?_
  show P (13, [some (.ref 68), some (.int v1)], [.int (md_isIn v1 1 999 (mj_up m 68 2 (.int 0)))], (110, x), (mj_up m 68 2 (.int 0)))
  refine mj_gcp hC 1 ?_
  show P (mj_pick 30 16 ((md_isIn v1 1 999 (mj_up m 68 2 (.int 0))) = 0), [some (.ref 68), some (.int v1)], [], (110, x), (mj_up m 68 2 (.int 0)))
  refine mj_pbr (fun c1 => ?_) (fun c1 => ?_)
  · rw [if_pos c1] at h
    refine mj_gcp hC 1 ?_
    show P (31, [some (.ref 68), some (.int v1)], [.int (-1)], (110, x), (mj_up m 68 2 (.int 0)))
    cases h
    exact mj_pret hC rfl hR
  · rw [if_neg c1] at h
    refine mj_gcp hC 8 ?_
    show _ ∧ (P (mj_pick 32 30 (((mj_I (m 98 (0 : Int32).toNatClampNeg)) + v1) ≤ 999), [some (.ref 68), some (.int v1)], [], (110, x), (mj_up m 68 2 (.int 0))))
    refine And.intro (show ¬ ((0 : Int32) < 0 ∨ 2 ≤ (0 : Int32).toNatClampNeg) by decide) (?_)
    refine mj_pbr (fun c2 => ?_) (fun c2 => ?_)
    · rw [if_pos c2] at h
      refine mj_gcp hC 1 ?_
      show P (33, [some (.ref 68), some (.int v1)], [.ref 68], (110, x), (mj_up m 68 2 (.int 0)))
      obtain ⟨q3, eq3, h⟩ := mj_bnd h
      refine mj_pcall hC rfl (md_remember_x (Nat.le_trans (by decide) hd) eq3) ?_
      show P (36, [some (.ref 68), some (.int v1)], [], (110, x), q3)
      refine mj_gcp hC 12 ?_
      show _ ∧ (_ ∧ (_ ∧ (P (52, [some (.ref 68), some (.int v1)], [.int ((mj_I (q3 98 (0 : Int32).toNatClampNeg)) + v1)], (110, x), (mj_up q3 98 (0 : Int32).toNatClampNeg (.int ((mj_I (q3 98 (0 : Int32).toNatClampNeg)) + v1)))))))
      refine And.intro (show ¬ ((0 : Int32) < 0 ∨ 2 ≤ (0 : Int32).toNatClampNeg) by decide) (And.intro (show ¬ ((0 : Int32) < 0 ∨ 2 ≤ (0 : Int32).toNatClampNeg) by decide) (And.intro (show ¬ ((0 : Int32) < 0 ∨ 2 ≤ (0 : Int32).toNatClampNeg) by decide) (?_)))
      cases h
      exact mj_pret hC rfl hR
    · rw [if_neg c2] at h
      refine mj_gcp hC 1 ?_
      show P (31, [some (.ref 68), some (.int v1)], [.int (-1)], (110, x), (mj_up m 68 2 (.int 0)))
      cases h
      exact mj_pret hC rfl hR
set_option maxRecDepth 20000 in
theorem md_wind_x {Ls tp ip x d : Nat} {Z : mj_X} (hd : 3 ≤ d) {v1 : Int32} {m : mj_M} {r : (Int32 × mj_M)} (h : md_wind v1 m = some r) : mj_Ex false (mj_sh Ls) (mj_rf tp ip) Z d 229 [.ref 68, .int v1] (110, x) m (some (.int r.1)) (110, x) r.2 := by
  exact mj_Ex_of (cd := mj_cd_229) (L := [some (.ref 68), some (.int v1)]) (by omega) (by decide) rfl (Nat.le_of_ble_eq_true rfl) rfl (fun P hC => md_wind_p hC (by omega) h ⟨rfl, rfl, rfl⟩)
def md_hiccup  (v1 : Int32) (v2 : Int32) (m : mj_M) : Option (Int32 × mj_M) :=
  (if (md_isMan v1 (mj_up m 68 2 (.int 0))) = 0 then some (0, (mj_up m 68 2 (.int 0))) else
  (if v1 < 0 ∨ 12 ≤ (v1 : Int32).toNatClampNeg then none else
  (if (mj_I (m 97 v1.toNatClampNeg)) = 0 then some (0, (mj_up m 68 2 (.int 0))) else
  (if (md_isIn v2 0 9 (mj_up m 68 2 (.int 0))) = 0 then some (0, (mj_up m 68 2 (.int 0))) else
  (if v1 < 0 ∨ 12 ≤ (v1 : Int32).toNatClampNeg then none else
  (if (mj_I (m 96 v1.toNatClampNeg)) = v2 then some (0, (mj_up m 68 2 (.int 0))) else
  (md_remember (mj_up m 68 2 (.int 0))).bind fun q7 =>
  (if v1 < 0 ∨ 12 ≤ (v1 : Int32).toNatClampNeg then none else
  some (1, (mj_up q7 96 v1.toNatClampNeg (.int v2))))))))))
set_option maxRecDepth 20000 in
theorem md_hiccup_p {Ls tp ip x d : Nat} {Z : mj_X} {R : Option Value → mj_G → mj_M → Prop} {P : mj_K → Prop} (hC : mj_cls false (mj_sh Ls) (mj_rf tp ip) mj_dv mj_cd_230 (mj_Ex false (mj_sh Ls) (mj_rf tp ip) Z d) R P) (hd : 2 ≤ d) {v1 : Int32} {v2 : Int32} {m : mj_M} {r : (Int32 × mj_M)} (h : md_hiccup v1 v2 m = some r) (hR : R (some (.int r.1)) (110, x) r.2) : P (0, [some (.ref 68), some (.int v1), some (.int v2)], [], (110, x), m) := by
  unfold md_hiccup at h
  refine mj_gcp hC 5 ?_
  show P (7, [some (.ref 68), some (.int v1), some (.int v2)], [.int v1, .ref 68], (110, x), (mj_up m 68 2 (.int 0)))
  refine mj_pcall hC rfl (md_isMan_x (Nat.le_trans (by decide) hd)) ?_
  show P (10, [some (.ref 68), some (.int v1), some (.int v2)], [.int (md_isMan v1 (mj_up m 68 2 (.int 0)))], (110, x), (mj_up m 68 2 (.int 0)))
  refine mj_gcp hC 1 ?_
  show P (mj_pick 42 13 ((md_isMan v1 (mj_up m 68 2 (.int 0))) = 0), [some (.ref 68), some (.int v1), some (.int v2)], [], (110, x), (mj_up m 68 2 (.int 0)))
  refine mj_pbr (fun c1 => ?_) (fun c1 => ?_)
  · rw [if_pos c1] at h
    refine mj_gcp hC 1 ?_
    show P (43, [some (.ref 68), some (.int v1), some (.int v2)], [.int 0], (110, x), (mj_up m 68 2 (.int 0)))
    cases h
    exact mj_pret hC rfl hR
  · rw [if_neg c1] at h
    obtain ⟨k2, h⟩ := mj_ifn h
    refine mj_gcp hC 5 ?_
    show _ ∧ (P (mj_pick 42 22 ((mj_I (m 97 v1.toNatClampNeg)) = 0), [some (.ref 68), some (.int v1), some (.int v2)], [], (110, x), (mj_up m 68 2 (.int 0))))
    refine And.intro k2 (?_)
    refine mj_pbr (fun c3 => ?_) (fun c3 => ?_)
    · rw [if_pos c3] at h
      refine mj_gcp hC 1 ?_
      show P (43, [some (.ref 68), some (.int v1), some (.int v2)], [.int 0], (110, x), (mj_up m 68 2 (.int 0)))
      cases h
      exact mj_pret hC rfl hR
    · rw [if_neg c3] at h
      refine mj_gcp hC 3 ?_
      show P (26, [some (.ref 68), some (.int v1), some (.int v2)], [.int 9, .int 0, .int v2], (110, x), (mj_up m 68 2 (.int 0)))
      refine mj_pcall hC rfl (md_isIn_x (Nat.le_trans (by decide) hd)) ?_
      show P (29, [some (.ref 68), some (.int v1), some (.int v2)], [.int (md_isIn v2 0 9 (mj_up m 68 2 (.int 0)))], (110, x), (mj_up m 68 2 (.int 0)))
      refine mj_gcp hC 1 ?_
      show P (mj_pick 42 32 ((md_isIn v2 0 9 (mj_up m 68 2 (.int 0))) = 0), [some (.ref 68), some (.int v1), some (.int v2)], [], (110, x), (mj_up m 68 2 (.int 0)))
      refine mj_pbr (fun c4 => ?_) (fun c4 => ?_)
      · rw [if_pos c4] at h
        refine mj_gcp hC 1 ?_
        show P (43, [some (.ref 68), some (.int v1), some (.int v2)], [.int 0], (110, x), (mj_up m 68 2 (.int 0)))
        cases h
        exact mj_pret hC rfl hR
      · rw [if_neg c4] at h
        obtain ⟨k5, h⟩ := mj_ifn h
        refine mj_gcp hC 6 ?_
        show _ ∧ (P (mj_pick 42 44 ((mj_I (m 96 v1.toNatClampNeg)) = v2), [some (.ref 68), some (.int v1), some (.int v2)], [], (110, x), (mj_up m 68 2 (.int 0))))
        refine And.intro k5 (?_)
        refine mj_pbr (fun c6 => ?_) (fun c6 => ?_)
        · rw [if_pos c6] at h
          refine mj_gcp hC 1 ?_
          show P (43, [some (.ref 68), some (.int v1), some (.int v2)], [.int 0], (110, x), (mj_up m 68 2 (.int 0)))
          cases h
          exact mj_pret hC rfl hR
        · rw [if_neg c6] at h
          refine mj_gcp hC 1 ?_
          show P (45, [some (.ref 68), some (.int v1), some (.int v2)], [.ref 68], (110, x), (mj_up m 68 2 (.int 0)))
          obtain ⟨q7, eq7, h⟩ := mj_bnd h
          refine mj_pcall hC rfl (md_remember_x (Nat.le_trans (by decide) hd) eq7) ?_
          show P (48, [some (.ref 68), some (.int v1), some (.int v2)], [], (110, x), q7)
          obtain ⟨k8, h⟩ := mj_ifn h
          refine mj_gcp hC 6 ?_
          show _ ∧ (P (56, [some (.ref 68), some (.int v1), some (.int v2)], [.int 1], (110, x), (mj_up q7 96 v1.toNatClampNeg (.int v2))))
          refine And.intro k8 (?_)
          cases h
          exact mj_pret hC rfl hR
set_option maxRecDepth 20000 in
theorem md_hiccup_x {Ls tp ip x d : Nat} {Z : mj_X} (hd : 3 ≤ d) {v1 : Int32} {v2 : Int32} {m : mj_M} {r : (Int32 × mj_M)} (h : md_hiccup v1 v2 m = some r) : mj_Ex false (mj_sh Ls) (mj_rf tp ip) Z d 230 [.ref 68, .int v1, .int v2] (110, x) m (some (.int r.1)) (110, x) r.2 := by
  exact mj_Ex_of (cd := mj_cd_230) (L := [some (.ref 68), some (.int v1), some (.int v2)]) (by omega) (by decide) rfl (Nat.le_of_ble_eq_true rfl) rfl (fun P hC => md_hiccup_p hC (by omega) h ⟨rfl, rfl, rfl⟩)
def md_aunt_j43  (v1 : Int32) (s1 : Int32) (s2 : Int32) (m : mj_M) : Option (Int32 × mj_M) :=
  (if s1 < 0 ∨ 12 ≤ (s1 : Int32).toNatClampNeg then none else
  (if v1 < 0 ∨ 12 ≤ (v1 : Int32).toNatClampNeg then none else
  some (1, (mj_up (mj_up m 97 s1.toNatClampNeg (.int (s2 &&& 1))) 96 v1.toNatClampNeg (.int 0)))))
def md_aunt  (v1 : Int32) (v2 : Int32) (m : mj_M) : Option (Int32 × mj_M) :=
  (if (md_isMan v1 (mj_up m 68 2 (.int 0))) = 0 then some (0, (mj_up m 68 2 (.int 0))) else
  (if v1 < 0 ∨ 12 ≤ (v1 : Int32).toNatClampNeg then none else
  (if (mj_I (m 97 v1.toNatClampNeg)) = v2 then (md_remember (mj_up m 68 2 (.int 0))).bind fun q4 =>
  (if v2 = 0 then md_aunt_j43 v1 v1 1 q4 else
  md_aunt_j43 v1 v1 0 q4) else
  some (0, (mj_up m 68 2 (.int 0))))))
set_option maxRecDepth 20000 in
theorem md_aunt_j43_x {Ls tp ip x d : Nat} {Z : mj_X} {R : Option Value → mj_G → mj_M → Prop} {P : mj_K → Prop} (hC : mj_cls false (mj_sh Ls) (mj_rf tp ip) mj_dv mj_cd_231 (mj_Ex false (mj_sh Ls) (mj_rf tp ip) Z d) R P) (hd : 2 ≤ d) {v1 : Int32} {s1 : Int32} {s2 : Int32} {m : mj_M} {r : (Int32 × mj_M)} (h : md_aunt_j43 v1 s1 s2 m = some r) (hR : R (some (.int r.1)) (110, x) r.2) : P (43, [some (.ref 68), some (.int v1), none], [.int s2, .int s1, .ref 97], (110, x), m) := by
  unfold md_aunt_j43 at h
  obtain ⟨k6, h⟩ := mj_ifn h
  obtain ⟨k7, h⟩ := mj_ifn h
  refine mj_gcp hC 7 ?_
  show _ ∧ (_ ∧ (P (52, [some (.ref 68), some (.int v1), none], [.int 1], (110, x), (mj_up (mj_up m 97 s1.toNatClampNeg (.int (s2 &&& 1))) 96 v1.toNatClampNeg (.int 0)))))
  refine And.intro k6 (And.intro k7 (?_))
  cases h
  exact mj_pret hC rfl hR
set_option maxRecDepth 20000 in
theorem md_aunt_p {Ls tp ip x d : Nat} {Z : mj_X} {R : Option Value → mj_G → mj_M → Prop} {P : mj_K → Prop} (hC : mj_cls false (mj_sh Ls) (mj_rf tp ip) mj_dv mj_cd_231 (mj_Ex false (mj_sh Ls) (mj_rf tp ip) Z d) R P) (hd : 2 ≤ d) {v1 : Int32} {v2 : Int32} {m : mj_M} {r : (Int32 × mj_M)} (h : md_aunt v1 v2 m = some r) (hR : R (some (.int r.1)) (110, x) r.2) : P (0, [some (.ref 68), some (.int v1), some (.int v2)], [], (110, x), m) := by
  unfold md_aunt at h
  refine mj_gcp hC 5 ?_
  show P (7, [some (.ref 68), some (.int v1), some (.int v2)], [.int v1, .ref 68], (110, x), (mj_up m 68 2 (.int 0)))
  refine mj_pcall hC rfl (md_isMan_x (Nat.le_trans (by decide) hd)) ?_
  show P (10, [some (.ref 68), some (.int v1), some (.int v2)], [.int (md_isMan v1 (mj_up m 68 2 (.int 0)))], (110, x), (mj_up m 68 2 (.int 0)))
  refine mj_gcp hC 1 ?_
  show P (mj_pick 23 13 ((md_isMan v1 (mj_up m 68 2 (.int 0))) = 0), [some (.ref 68), some (.int v1), some (.int v2)], [], (110, x), (mj_up m 68 2 (.int 0)))
  refine mj_pbr (fun c1 => ?_) (fun c1 => ?_)
  · rw [if_pos c1] at h
    refine mj_gcp hC 1 ?_
    show P (24, [some (.ref 68), some (.int v1), some (.int v2)], [.int 0], (110, x), (mj_up m 68 2 (.int 0)))
    cases h
    exact mj_pret hC rfl hR
  · rw [if_neg c1] at h
    obtain ⟨k2, h⟩ := mj_ifn h
    refine mj_gcp hC 6 ?_
    show _ ∧ (P (mj_pick 25 23 ((mj_I (m 97 v1.toNatClampNeg)) = v2), [some (.ref 68), some (.int v1), some (.int v2)], [], (110, x), (mj_up m 68 2 (.int 0))))
    refine And.intro k2 (?_)
    refine mj_pbr (fun c3 => ?_) (fun c3 => ?_)
    · rw [if_pos c3] at h
      refine mj_gcp hC 1 ?_
      show P (26, [some (.ref 68), some (.int v1), some (.int v2)], [.ref 68], (110, x), (mj_up m 68 2 (.int 0)))
      obtain ⟨q4, eq4, h⟩ := mj_bnd h
      refine mj_pcall hC rfl (md_remember_x (Nat.le_trans (by decide) hd) eq4) ?_
      show P (29, [some (.ref 68), some (.int v1), some (.int v2)], [], (110, x), q4)
      refine mj_gcp hC 5 ?_
      show P (mj_pick 38 42 (v2 = 0), [some (.ref 68), some (.int v1), some (.int v2)], [.int v1, .ref 97], (110, x), q4)
      refine mj_pbr (fun c5 => ?_) (fun c5 => ?_)
      · rw [if_pos c5] at h
        refine mj_gcp hC 2 ?_
        show P (43, [some (.ref 68), some (.int v1), some (.int v2)], [.int 1, .int v1, .ref 97], (110, x), q4)
        exact mj_less hC (L0 := [some (.ref 68), some (.int v1), none]) (And.intro rfl (And.intro rfl trivial)) (md_aunt_j43_x hC hd h hR)
      · rw [if_neg c5] at h
        refine mj_gcp hC 1 ?_
        show P (43, [some (.ref 68), some (.int v1), some (.int v2)], [.int 0, .int v1, .ref 97], (110, x), q4)
        exact mj_less hC (L0 := [some (.ref 68), some (.int v1), none]) (And.intro rfl (And.intro rfl trivial)) (md_aunt_j43_x hC hd h hR)
    · rw [if_neg c3] at h
      refine mj_gcp hC 1 ?_
      show P (24, [some (.ref 68), some (.int v1), some (.int v2)], [.int 0], (110, x), (mj_up m 68 2 (.int 0)))
      cases h
      exact mj_pret hC rfl hR
set_option maxRecDepth 20000 in
theorem md_aunt_x {Ls tp ip x d : Nat} {Z : mj_X} (hd : 3 ≤ d) {v1 : Int32} {v2 : Int32} {m : mj_M} {r : (Int32 × mj_M)} (h : md_aunt v1 v2 m = some r) : mj_Ex false (mj_sh Ls) (mj_rf tp ip) Z d 231 [.ref 68, .int v1, .int v2] (110, x) m (some (.int r.1)) (110, x) r.2 := by
  exact mj_Ex_of (cd := mj_cd_231) (L := [some (.ref 68), some (.int v1), some (.int v2)]) (by omega) (by decide) rfl (Nat.le_of_ble_eq_true rfl) rfl (fun P hC => md_aunt_p hC (by omega) h ⟨rfl, rfl, rfl⟩)
def bp_beat (tp : Nat)  (m : mj_M) : Option Int32 :=
  (ck_plainBeat tp 42 m).bind fun q1 =>
  some q1
set_option maxRecDepth 20000 in
theorem bp_beat_p {Ls tp ip x d : Nat} {Z : mj_X} {R : Option Value → mj_G → mj_M → Prop} {P : mj_K → Prop} (hC : mj_cls false (mj_sh Ls) (mj_rf tp ip) mj_dv mj_cd_10 (mj_Ex false (mj_sh Ls) (mj_rf tp ip) Z d) R P) (hd : 3 ≤ d) (htp : tp = 3 ∨ tp = 17)  {m : mj_M} {r : Int32} (h : bp_beat tp m = some r) (hR : R (some (.int r)) (110, x) m) : P (0, [some (.ref 1)], [], (110, x), m) := by
  unfold bp_beat at h
  rcases htp with rfl | rfl
  all_goals
    refine mj_gcp hC 4 ?_
    show P (8, [some (.ref 1)], [.ref 42, .ref 37], (110, x), m)
    obtain ⟨q1, eq1, h⟩ := mj_bnd h
    refine mj_pcall hC rfl (ck_plainBeat_x (Nat.le_trans (by decide) hd) (by decide) (by decide) eq1) ?_
    show P (11, [some (.ref 1)], [.int q1], (110, x), m)
    cases h
    exact mj_pret hC rfl hR
set_option maxRecDepth 20000 in
theorem bp_beat_x {Ls tp ip x d : Nat} {Z : mj_X} (hd : 4 ≤ d) (htp : tp = 3 ∨ tp = 17)  {m : mj_M} {r : Int32} (h : bp_beat tp m = some r) : mj_Ex false (mj_sh Ls) (mj_rf tp ip) Z d 10 [.ref 1] (110, x) m (some (.int r)) (110, x) m := by
  exact mj_Ex_of (cd := mj_cd_10) (L := [some (.ref 1)]) (by omega) (by decide) rfl (Nat.le_of_ble_eq_true rfl) rfl (fun P hC => bp_beat_p hC (by omega) htp h ⟨rfl, rfl, rfl⟩)
def bp_shift  (v1 : Int32) (m : mj_M) : Option (Int32 × mj_M) :=
  (if v1 < (-99) then some (0, m) else
  (if 99 < v1 then some (0, m) else
  (if v1 = (mj_I (m 42 2)) then some (0, m) else
  (de_add 0 (-1) (mj_I (m 42 2)) m).bind fun q4 =>
  some (1, (mj_up q4 42 2 (.int v1))))))
set_option maxRecDepth 20000 in
theorem bp_shift_p {Ls tp ip x d : Nat} {Z : mj_X} {R : Option Value → mj_G → mj_M → Prop} {P : mj_K → Prop} (hC : mj_cls false (mj_sh Ls) (mj_rf tp ip) mj_dv mj_cd_12 (mj_Ex false (mj_sh Ls) (mj_rf tp ip) Z d) R P) (hd : 3 ≤ d) {v1 : Int32} {m : mj_M} {r : (Int32 × mj_M)} (h : bp_shift v1 m = some r) (hR : R (some (.int r.1)) (110, x) r.2) : P (0, [some (.ref 1), some (.int v1)], [], (110, x), m) := by
  unfold bp_shift at h
  refine mj_gcp hC 3 ?_
  show P (mj_pick 23 6 (v1 < (-99)), [some (.ref 1), some (.int v1)], [], (110, x), m)
  refine mj_pbr (fun c1 => ?_) (fun c1 => ?_)
  · rw [if_pos c1] at h
    refine mj_gcp hC 1 ?_
    show P (24, [some (.ref 1), some (.int v1)], [.int 0], (110, x), m)
    cases h
    exact mj_pret hC rfl hR
  · rw [if_neg c1] at h
    refine mj_gcp hC 3 ?_
    show P (mj_pick 23 12 (99 < v1), [some (.ref 1), some (.int v1)], [], (110, x), m)
    refine mj_pbr (fun c2 => ?_) (fun c2 => ?_)
    · rw [if_pos c2] at h
      refine mj_gcp hC 1 ?_
      show P (24, [some (.ref 1), some (.int v1)], [.int 0], (110, x), m)
      cases h
      exact mj_pret hC rfl hR
    · rw [if_neg c2] at h
      refine mj_gcp hC 5 ?_
      show P (mj_pick 23 25 (v1 = (mj_I (m 42 2))), [some (.ref 1), some (.int v1)], [], (110, x), m)
      refine mj_pbr (fun c3 => ?_) (fun c3 => ?_)
      · rw [if_pos c3] at h
        refine mj_gcp hC 1 ?_
        show P (24, [some (.ref 1), some (.int v1)], [.int 0], (110, x), m)
        cases h
        exact mj_pret hC rfl hR
      · rw [if_neg c3] at h
        refine mj_gcp hC 7 ?_
        show P (38, [some (.ref 1), some (.int v1)], [.int (mj_I (m 42 2)), .int (-1), .int 0, .ref 57], (110, x), m)
        obtain ⟨q4, eq4, h⟩ := mj_bnd h
        refine mj_pcall hC rfl (de_add_x (Nat.le_trans (by decide) hd) eq4) ?_
        show P (41, [some (.ref 1), some (.int v1)], [], (110, x), q4)
        refine mj_gcp hC 5 ?_
        show P (50, [some (.ref 1), some (.int v1)], [.int 1], (110, x), (mj_up q4 42 2 (.int v1)))
        cases h
        exact mj_pret hC rfl hR
set_option maxRecDepth 20000 in
theorem bp_shift_x {Ls tp ip x d : Nat} {Z : mj_X} (hd : 4 ≤ d) {v1 : Int32} {m : mj_M} {r : (Int32 × mj_M)} (h : bp_shift v1 m = some r) : mj_Ex false (mj_sh Ls) (mj_rf tp ip) Z d 12 [.ref 1, .int v1] (110, x) m (some (.int r.1)) (110, x) r.2 := by
  exact mj_Ex_of (cd := mj_cd_12) (L := [some (.ref 1), some (.int v1)]) (by omega) (by decide) rfl (Nat.le_of_ble_eq_true rfl) rfl (fun P hC => bp_shift_p hC (by omega) h ⟨rfl, rfl, rfl⟩)
def bp_wind  (v1 : Int32) (m : mj_M) : Option (Int32 × mj_M) :=
  (if v1 < 1 then some ((-1), m) else
  (if 999 < v1 then some ((-1), m) else
  (if ((mj_I (m 42 1)) + v1) ≤ 999 then (de_add 1 (-1) (mj_I (m 42 1)) m).bind fun q4 =>
  some (((mj_I (q4 42 1)) + v1), (mj_up q4 42 1 (.int ((mj_I (q4 42 1)) + v1)))) else
  some ((-1), m))))
set_option maxRecDepth 20000 in
theorem bp_wind_p {Ls tp ip x d : Nat} {Z : mj_X} {R : Option Value → mj_G → mj_M → Prop} {P : mj_K → Prop} (hC : mj_cls false (mj_sh Ls) (mj_rf tp ip) mj_dv mj_cd_13 (mj_Ex false (mj_sh Ls) (mj_rf tp ip) Z d) R P) (hd : 3 ≤ d) {v1 : Int32} {m : mj_M} {r : (Int32 × mj_M)} (h : bp_wind v1 m = some r) (hR : R (some (.int r.1)) (110, x) r.2) : P (0, [some (.ref 1), some (.int v1)], [], (110, x), m) := by
  unfold bp_wind at h
  refine mj_gcp hC 3 ?_
  show P (mj_pick 27 5 (v1 < 1), [some (.ref 1), some (.int v1)], [], (110, x), m)
  refine mj_pbr (fun c1 => ?_) (fun c1 => ?_)
  · rw [if_pos c1] at h
    refine mj_gcp hC 1 ?_
    show P (28, [some (.ref 1), some (.int v1)], [.int (-1)], (110, x), m)
    cases h
    exact mj_pret hC rfl hR
  · rw [if_neg c1] at h
    refine mj_gcp hC 3 ?_
    show P (mj_pick 27 12 (999 < v1), [some (.ref 1), some (.int v1)], [], (110, x), m)
    refine mj_pbr (fun c2 => ?_) (fun c2 => ?_)
    · rw [if_pos c2] at h
      refine mj_gcp hC 1 ?_
      show P (28, [some (.ref 1), some (.int v1)], [.int (-1)], (110, x), m)
      cases h
      exact mj_pret hC rfl hR
    · rw [if_neg c2] at h
      refine mj_gcp hC 7 ?_
      show P (mj_pick 29 27 (((mj_I (m 42 1)) + v1) ≤ 999), [some (.ref 1), some (.int v1)], [], (110, x), m)
      refine mj_pbr (fun c3 => ?_) (fun c3 => ?_)
      · rw [if_pos c3] at h
        refine mj_gcp hC 7 ?_
        show P (42, [some (.ref 1), some (.int v1)], [.int (mj_I (m 42 1)), .int (-1), .int 1, .ref 57], (110, x), m)
        obtain ⟨q4, eq4, h⟩ := mj_bnd h
        refine mj_pcall hC rfl (de_add_x (Nat.le_trans (by decide) hd) eq4) ?_
        show P (45, [some (.ref 1), some (.int v1)], [], (110, x), q4)
        refine mj_gcp hC 10 ?_
        show P (65, [some (.ref 1), some (.int v1)], [.int ((mj_I (q4 42 1)) + v1)], (110, x), (mj_up q4 42 1 (.int ((mj_I (q4 42 1)) + v1))))
        cases h
        exact mj_pret hC rfl hR
      · rw [if_neg c3] at h
        refine mj_gcp hC 1 ?_
        show P (28, [some (.ref 1), some (.int v1)], [.int (-1)], (110, x), m)
        cases h
        exact mj_pret hC rfl hR
set_option maxRecDepth 20000 in
theorem bp_wind_x {Ls tp ip x d : Nat} {Z : mj_X} (hd : 4 ≤ d) {v1 : Int32} {m : mj_M} {r : (Int32 × mj_M)} (h : bp_wind v1 m = some r) : mj_Ex false (mj_sh Ls) (mj_rf tp ip) Z d 13 [.ref 1, .int v1] (110, x) m (some (.int r.1)) (110, x) r.2 := by
  exact mj_Ex_of (cd := mj_cd_13) (L := [some (.ref 1), some (.int v1)]) (by omega) (by decide) rfl (Nat.le_of_ble_eq_true rfl) rfl (fun P hC => bp_wind_p hC (by omega) h ⟨rfl, rfl, rfl⟩)
def bp_hiccup (tp : Nat) (v1 : Int32) (v2 : Int32) (m : mj_M) : Option (Int32 × mj_M) :=
  (if (bp_isHere tp v1 m) = 0 then some (0, m) else
  (if v2 < 0 then some (0, m) else
  (if 9 < v2 then some (0, m) else
  (if (fx_at m 44 v1) = v2 then some (0, m) else
  (de_add 2 v1 (fx_at m 44 v1) m).bind fun q5 =>
  some (1, (fx_put q5 44 v1 v2))))))
set_option maxRecDepth 20000 in
theorem bp_hiccup_p {Ls tp ip x d : Nat} {Z : mj_X} {R : Option Value → mj_G → mj_M → Prop} {P : mj_K → Prop} (hC : mj_cls false (mj_sh Ls) (mj_rf tp ip) mj_dv mj_cd_14 (mj_Ex false (mj_sh Ls) (mj_rf tp ip) Z d) R P) (hd : 3 ≤ d) (htp : tp = 3 ∨ tp = 17) {v1 : Int32} {v2 : Int32} {m : mj_M} {r : (Int32 × mj_M)} (h : bp_hiccup tp v1 v2 m = some r) (hR : R (some (.int r.1)) (110, x) r.2) : P (0, [some (.ref 1), some (.int v1), some (.int v2)], [], (110, x), m) := by
  unfold bp_hiccup at h
  rcases htp with rfl | rfl
  all_goals
    refine mj_gcp hC 2 ?_
    show P (2, [some (.ref 1), some (.int v1), some (.int v2)], [.int v1, .ref 1], (110, x), m)
    refine mj_pcall hC rfl (bp_isHere_x (Nat.le_trans (by decide) hd) (by decide)) ?_
    show P (5, [some (.ref 1), some (.int v1), some (.int v2)], [.int (bp_isHere _ v1 m)], (110, x), m)
    refine mj_gcp hC 1 ?_
    show P (mj_pick 33 8 ((bp_isHere _ v1 m) = 0), [some (.ref 1), some (.int v1), some (.int v2)], [], (110, x), m)
    refine mj_pbr (fun c1 => ?_) (fun c1 => ?_)
    · rw [if_pos c1] at h
      refine mj_gcp hC 1 ?_
      show P (34, [some (.ref 1), some (.int v1), some (.int v2)], [.int 0], (110, x), m)
      cases h
      exact mj_pret hC rfl hR
    · rw [if_neg c1] at h
      refine mj_gcp hC 2 ?_
      show P (mj_pick 33 12 (v2 < 0), [some (.ref 1), some (.int v1), some (.int v2)], [], (110, x), m)
      refine mj_pbr (fun c2 => ?_) (fun c2 => ?_)
      · rw [if_pos c2] at h
        refine mj_gcp hC 1 ?_
        show P (34, [some (.ref 1), some (.int v1), some (.int v2)], [.int 0], (110, x), m)
        cases h
        exact mj_pret hC rfl hR
      · rw [if_neg c2] at h
        refine mj_gcp hC 3 ?_
        show P (mj_pick 33 18 (9 < v2), [some (.ref 1), some (.int v1), some (.int v2)], [], (110, x), m)
        refine mj_pbr (fun c3 => ?_) (fun c3 => ?_)
        · rw [if_pos c3] at h
          refine mj_gcp hC 1 ?_
          show P (34, [some (.ref 1), some (.int v1), some (.int v2)], [.int 0], (110, x), m)
          cases h
          exact mj_pret hC rfl hR
        · rw [if_neg c3] at h
          refine mj_gcp hC 4 ?_
          show P (26, [some (.ref 1), some (.int v1), some (.int v2)], [.int v1, .ref 44], (110, x), m)
          refine mj_pcall hC rfl (bp_at_x (Nat.le_trans (by decide) hd) (by decide)) ?_
          show P (29, [some (.ref 1), some (.int v1), some (.int v2)], [.int (fx_at m 44 v1)], (110, x), m)
          refine mj_gcp hC 2 ?_
          show P (mj_pick 33 35 ((fx_at m 44 v1) = v2), [some (.ref 1), some (.int v1), some (.int v2)], [], (110, x), m)
          refine mj_pbr (fun c4 => ?_) (fun c4 => ?_)
          · rw [if_pos c4] at h
            refine mj_gcp hC 1 ?_
            show P (34, [some (.ref 1), some (.int v1), some (.int v2)], [.int 0], (110, x), m)
            cases h
            exact mj_pret hC rfl hR
          · rw [if_neg c4] at h
            refine mj_gcp hC 8 ?_
            show P (49, [some (.ref 1), some (.int v1), some (.int v2)], [.int v1, .ref 44, .int v1, .int 2, .ref 57], (110, x), m)
            refine mj_pcall hC rfl (bp_at_x (Nat.le_trans (by decide) hd) (by decide)) ?_
            show P (52, [some (.ref 1), some (.int v1), some (.int v2)], [.int (fx_at m 44 v1), .int v1, .int 2, .ref 57], (110, x), m)
            obtain ⟨q5, eq5, h⟩ := mj_bnd h
            refine mj_pcall hC rfl (de_add_x (Nat.le_trans (by decide) hd) eq5) ?_
            show P (55, [some (.ref 1), some (.int v1), some (.int v2)], [], (110, x), q5)
            refine mj_gcp hC 5 ?_
            show P (64, [some (.ref 1), some (.int v1), some (.int v2)], [.int v2, .int v1, .ref 44], (110, x), q5)
            refine mj_pcall hC rfl (bp_put_x (Nat.le_trans (by decide) hd) (by decide)) ?_
            show P (67, [some (.ref 1), some (.int v1), some (.int v2)], [], (110, x), (fx_put q5 44 v1 v2))
            refine mj_gcp hC 1 ?_
            show P (68, [some (.ref 1), some (.int v1), some (.int v2)], [.int 1], (110, x), (fx_put q5 44 v1 v2))
            cases h
            exact mj_pret hC rfl hR
set_option maxRecDepth 20000 in
theorem bp_hiccup_x {Ls tp ip x d : Nat} {Z : mj_X} (hd : 4 ≤ d) (htp : tp = 3 ∨ tp = 17) {v1 : Int32} {v2 : Int32} {m : mj_M} {r : (Int32 × mj_M)} (h : bp_hiccup tp v1 v2 m = some r) : mj_Ex false (mj_sh Ls) (mj_rf tp ip) Z d 14 [.ref 1, .int v1, .int v2] (110, x) m (some (.int r.1)) (110, x) r.2 := by
  exact mj_Ex_of (cd := mj_cd_14) (L := [some (.ref 1), some (.int v1), some (.int v2)]) (by omega) (by decide) rfl (Nat.le_of_ble_eq_true rfl) rfl (fun P hC => bp_hiccup_p hC (by omega) htp h ⟨rfl, rfl, rfl⟩)
def bp_aunt (tp : Nat) (v1 : Int32) (v2 : Int32) (m : mj_M) : Option (Int32 × mj_M) :=
  (if (to_isMan tp v1 m) = 0 then some (0, m) else
  (if (bp_has (mj_I (m 42 4)) v1 m) = v2 then (if v2 = 0 then (de_add 4 v1 0 m).bind fun q4 =>
  some (1, (mj_up q4 42 4 (.int ((mj_I (q4 42 4)) ||| (1 <<< (v1 &&& 31)))))) else
  (de_add 3 v1 (fx_at m 44 v1) m).bind fun q5 =>
  (sa_sendAway 42 v1 q5).bind fun q6 =>
  some (1, q6)) else
  some (0, m)))
set_option maxRecDepth 20000 in
theorem bp_aunt_p {Ls tp ip x d : Nat} {Z : mj_X} {R : Option Value → mj_G → mj_M → Prop} {P : mj_K → Prop} (hC : mj_cls false (mj_sh Ls) (mj_rf tp ip) mj_dv mj_cd_15 (mj_Ex false (mj_sh Ls) (mj_rf tp ip) Z d) R P) (hd : 3 ≤ d) (htp : tp = 3 ∨ tp = 17) {v1 : Int32} {v2 : Int32} {m : mj_M} {r : (Int32 × mj_M)} (h : bp_aunt tp v1 v2 m = some r) (hR : R (some (.int r.1)) (110, x) r.2) : P (0, [some (.ref 1), some (.int v1), some (.int v2)], [], (110, x), m) := by
  unfold bp_aunt at h
  rcases htp with rfl | rfl
  all_goals
    refine mj_gcp hC 3 ?_
    show P (5, [some (.ref 1), some (.int v1), some (.int v2)], [.int v1, .ref _], (110, x), m)
    refine mj_pcall hC rfl (to_isMan_x (Nat.le_trans (by decide) hd) (by decide)) ?_
    show P (8, [some (.ref 1), some (.int v1), some (.int v2)], [.int (to_isMan _ v1 m)], (110, x), m)
    refine mj_gcp hC 1 ?_
    show P (mj_pick 26 11 ((to_isMan _ v1 m) = 0), [some (.ref 1), some (.int v1), some (.int v2)], [], (110, x), m)
    refine mj_pbr (fun c1 => ?_) (fun c1 => ?_)
    · rw [if_pos c1] at h
      refine mj_gcp hC 1 ?_
      show P (27, [some (.ref 1), some (.int v1), some (.int v2)], [.int 0], (110, x), m)
      cases h
      exact mj_pret hC rfl hR
    · rw [if_neg c1] at h
      refine mj_gcp hC 4 ?_
      show P (19, [some (.ref 1), some (.int v1), some (.int v2)], [.int v1, .int (mj_I (m 42 4))], (110, x), m)
      refine mj_pcall hC rfl (bp_has_x (Nat.le_trans (by decide) hd)) ?_
      show P (22, [some (.ref 1), some (.int v1), some (.int v2)], [.int (bp_has (mj_I (m 42 4)) v1 m)], (110, x), m)
      refine mj_gcp hC 2 ?_
      show P (mj_pick 28 26 ((bp_has (mj_I (m 42 4)) v1 m) = v2), [some (.ref 1), some (.int v1), some (.int v2)], [], (110, x), m)
      refine mj_pbr (fun c2 => ?_) (fun c2 => ?_)
      · rw [if_pos c2] at h
        refine mj_gcp hC 2 ?_
        show P (mj_pick 63 32 (v2 = 0), [some (.ref 1), some (.int v1), some (.int v2)], [], (110, x), m)
        refine mj_pbr (fun c3 => ?_) (fun c3 => ?_)
        · rw [if_pos c3] at h
          refine mj_gcp hC 5 ?_
          show P (70, [some (.ref 1), some (.int v1), some (.int v2)], [.int 0, .int v1, .int 4, .ref 57], (110, x), m)
          obtain ⟨q4, eq4, h⟩ := mj_bnd h
          refine mj_pcall hC rfl (de_add_x (Nat.le_trans (by decide) hd) eq4) ?_
          show P (73, [some (.ref 1), some (.int v1), some (.int v2)], [], (110, x), q4)
          refine mj_gcp hC 9 ?_
          show P (88, [some (.ref 1), some (.int v1), some (.int v2)], [], (110, x), (mj_up q4 42 4 (.int ((mj_I (q4 42 4)) ||| (1 <<< (v1 &&& 31))))))
          refine mj_gcp hC 1 ?_
          show P (89, [some (.ref 1), some (.int v1), some (.int v2)], [.int 1], (110, x), (mj_up q4 42 4 (.int ((mj_I (q4 42 4)) ||| (1 <<< (v1 &&& 31))))))
          cases h
          exact mj_pret hC rfl hR
        · rw [if_neg c3] at h
          refine mj_gcp hC 8 ?_
          show P (46, [some (.ref 1), some (.int v1), some (.int v2)], [.int v1, .ref 44, .int v1, .int 3, .ref 57], (110, x), m)
          refine mj_pcall hC rfl (bp_at_x (Nat.le_trans (by decide) hd) (by decide)) ?_
          show P (49, [some (.ref 1), some (.int v1), some (.int v2)], [.int (fx_at m 44 v1), .int v1, .int 3, .ref 57], (110, x), m)
          obtain ⟨q5, eq5, h⟩ := mj_bnd h
          refine mj_pcall hC rfl (de_add_x (Nat.le_trans (by decide) hd) eq5) ?_
          show P (52, [some (.ref 1), some (.int v1), some (.int v2)], [], (110, x), q5)
          refine mj_gcp hC 3 ?_
          show P (57, [some (.ref 1), some (.int v1), some (.int v2)], [.int v1, .ref 42], (110, x), q5)
          obtain ⟨q6, eq6, h⟩ := mj_bnd h
          refine mj_pcall hC rfl (sa_sendAway_x (Nat.le_trans (by decide) hd) (by decide) eq6) ?_
          show P (60, [some (.ref 1), some (.int v1), some (.int v2)], [], (110, x), q6)
          refine mj_gcp hC 1 ?_
          show P (88, [some (.ref 1), some (.int v1), some (.int v2)], [], (110, x), q6)
          refine mj_gcp hC 1 ?_
          show P (89, [some (.ref 1), some (.int v1), some (.int v2)], [.int 1], (110, x), q6)
          cases h
          exact mj_pret hC rfl hR
      · rw [if_neg c2] at h
        refine mj_gcp hC 1 ?_
        show P (27, [some (.ref 1), some (.int v1), some (.int v2)], [.int 0], (110, x), m)
        cases h
        exact mj_pret hC rfl hR
set_option maxRecDepth 20000 in
theorem bp_aunt_x {Ls tp ip x d : Nat} {Z : mj_X} (hd : 4 ≤ d) (htp : tp = 3 ∨ tp = 17) {v1 : Int32} {v2 : Int32} {m : mj_M} {r : (Int32 × mj_M)} (h : bp_aunt tp v1 v2 m = some r) : mj_Ex false (mj_sh Ls) (mj_rf tp ip) Z d 15 [.ref 1, .int v1, .int v2] (110, x) m (some (.int r.1)) (110, x) r.2 := by
  exact mj_Ex_of (cd := mj_cd_15) (L := [some (.ref 1), some (.int v1), some (.int v2)]) (by omega) (by decide) rfl (Nat.le_of_ble_eq_true rfl) rfl (fun P hC => bp_aunt_p hC (by omega) htp h ⟨rfl, rfl, rfl⟩)
def bp_cut_j135l64 (tp : Nat)  (v1 : Int32) (v2 : Int32) (v3 : Int32) (v4 : Int32) (v5 : Int32)  (m : mj_M) : Option (Nat × (Int32 × Int32)) :=
  some (0, (v4, (v5 + 1)))
def bp_cut_j88l64 (tp : Nat)  (v1 : Int32) (v2 : Int32) (v3 : Int32) (v4 : Int32) (v5 : Int32) (s0 : Int32) (m : mj_M) : Option (Nat × (Int32 × Int32)) :=
  (if (v5 &&& (v3 ^^^ (-1))) = 0 then (if s0 = 0 then bp_cut_j135l64 tp v1 v2 v3 v4 v5 m else
  (to_reach tp v1 ((mj_I (m 42 4)) &&& (v5 ^^^ (-1))) m).bind fun q10 =>
  (if (bp_has q10 v2 m) = 0 then bp_cut_j135l64 tp v1 v2 v3 v5 v5 m else
  bp_cut_j135l64 tp v1 v2 v3 v4 v5 m)) else
  bp_cut_j135l64 tp v1 v2 v3 v4 v5 m)
def bp_cut_l64 (tp : Nat) (v1 : Int32) (v2 : Int32) (v3 : Int32) (m : mj_M) (s64 : (Int32 × Int32)) : Option (Nat × (Int32 × Int32)) :=
  (if v3 ≤ s64.2 then some (1, (s64.1, s64.2)) else
  (if (ig_bitCount s64.1 m) ≤ (ig_bitCount s64.2 m) then bp_cut_j88l64 tp v1 v2 v3 s64.1 s64.2 0 m else
  bp_cut_j88l64 tp v1 v2 v3 s64.1 s64.2 1 m))
def bp_cut (tp : Nat) (v1 : Int32) (v2 : Int32) (m : mj_M) : Option Int32 :=
  (if (bp_isHere tp v1 m) = 0 then some (-1) else
  (if (bp_isHere tp v2 m) = 0 then some (-1) else
  (if v1 = v2 then some (-1) else
  (to_areTied tp v1 v2 m).bind fun q4 =>
  (if q4 = 0 then (mj_loop (bp_cut_l64 tp v1 v2 (((mj_I (m 42 4)) &&& ((1 <<< (v1 &&& 31)) ^^^ (-1))) &&& ((1 <<< (v2 &&& 31)) ^^^ (-1))) m) mj_F ((((mj_I (m 42 4)) &&& ((1 <<< (v1 &&& 31)) ^^^ (-1))) &&& ((1 <<< (v2 &&& 31)) ^^^ (-1))), 0)).bind fun q12 =>
  some q12.2.1 else
  some (-2)))))
set_option maxRecDepth 20000 in
theorem bp_cut_j135l64_x {Ls tp ip x d : Nat} {Z : mj_X} {R : Option Value → mj_G → mj_M → Prop} {P : mj_K → Prop} (hC : mj_cls false (mj_sh Ls) (mj_rf tp ip) mj_dv mj_cd_25 (mj_Ex false (mj_sh Ls) (mj_rf tp ip) Z d) R P) (hd : 2 ≤ d) (htp : tp = 3 ∨ tp = 17)  {v1 : Int32} {v2 : Int32} {v3 : Int32} {v4 : Int32} {v5 : Int32}  {m : mj_M} {t : Nat} {w : (Int32 × Int32)} (h : bp_cut_j135l64 tp  v1 v2 v3 v4 v5 m = some (t, w)) (h0 : t = 0 → P (64, [some (.ref 1), some (.int v1), some (.int v2), some (.int v3), some (.int w.1), some (.int w.2), none], [], (110, x), m)) (h1 : t = 1 → P (141, [none, none, none, none, some (.int w.1), none, none], [], (110, x), m)) : P (135, [some (.ref 1), some (.int v1), some (.int v2), some (.int v3), some (.int v4), some (.int v5), none], [], (110, x), m) := by
  unfold bp_cut_j135l64 at h
  rcases htp with rfl | rfl
  all_goals
    refine mj_gcp hC 2 ?_
    show P (64, [some (.ref 1), some (.int v1), some (.int v2), some (.int v3), some (.int v4), some (.int (v5 + 1)), none], [], (110, x), m)
    cases h
    exact mj_less hC (L0 := [some (.ref 1), some (.int v1), some (.int v2), some (.int v3), some (.int v4), some (.int (v5 + 1)), none]) (And.intro rfl (And.intro rfl (And.intro rfl (And.intro rfl (And.intro rfl (And.intro rfl trivial)))))) (h0 rfl)
set_option maxRecDepth 20000 in
theorem bp_cut_j88l64_x {Ls tp ip x d : Nat} {Z : mj_X} {R : Option Value → mj_G → mj_M → Prop} {P : mj_K → Prop} (hC : mj_cls false (mj_sh Ls) (mj_rf tp ip) mj_dv mj_cd_25 (mj_Ex false (mj_sh Ls) (mj_rf tp ip) Z d) R P) (hd : 2 ≤ d) (htp : tp = 3 ∨ tp = 17)  {v1 : Int32} {v2 : Int32} {v3 : Int32} {v4 : Int32} {v5 : Int32} {s0 : Int32} {m : mj_M} {t : Nat} {w : (Int32 × Int32)} (h : bp_cut_j88l64 tp  v1 v2 v3 v4 v5 s0 m = some (t, w)) (h0 : t = 0 → P (64, [some (.ref 1), some (.int v1), some (.int v2), some (.int v3), some (.int w.1), some (.int w.2), none], [], (110, x), m)) (h1 : t = 1 → P (141, [none, none, none, none, some (.int w.1), none, none], [], (110, x), m)) : P (88, [some (.ref 1), some (.int v1), some (.int v2), some (.int v3), some (.int v4), some (.int v5), none], [.int s0], (110, x), m) := by
  unfold bp_cut_j88l64 at h
  rcases htp with rfl | rfl
  all_goals
    refine mj_gcp hC 7 ?_
    show P (mj_pick 99 135 ((v5 &&& (v3 ^^^ (-1))) = 0), [some (.ref 1), some (.int v1), some (.int v2), some (.int v3), some (.int v4), some (.int v5), some (.int s0)], [], (110, x), m)
    refine mj_pbr (fun c8 => ?_) (fun c8 => ?_)
    · rw [if_pos c8] at h
      refine mj_gcp hC 2 ?_
      show P (mj_pick 135 104 (s0 = 0), [some (.ref 1), some (.int v1), some (.int v2), some (.int v3), some (.int v4), some (.int v5), some (.int s0)], [], (110, x), m)
      refine mj_pbr (fun c9 => ?_) (fun c9 => ?_)
      · rw [if_pos c9] at h
        exact mj_less hC (L0 := [some (.ref 1), some (.int v1), some (.int v2), some (.int v3), some (.int v4), some (.int v5), none]) (And.intro rfl (And.intro rfl (And.intro rfl (And.intro rfl (And.intro rfl (And.intro rfl trivial)))))) (bp_cut_j135l64_x hC hd (by decide) h h0 h1)
      · rw [if_neg c9] at h
        refine mj_gcp hC 10 ?_
        show P (121, [some (.ref 1), some (.int v1), some (.int v2), some (.int v3), some (.int v4), some (.int v5), some (.int s0)], [.int ((mj_I (m 42 4)) &&& (v5 ^^^ (-1))), .int v1, .ref _], (110, x), m)
        obtain ⟨q10, eq10, h⟩ := mj_bnd h
        refine mj_pcall hC rfl (to_reach_x (Nat.le_trans (by decide) hd) (by decide) eq10) ?_
        show P (124, [some (.ref 1), some (.int v1), some (.int v2), some (.int v3), some (.int v4), some (.int v5), some (.int s0)], [.int q10], (110, x), m)
        refine mj_gcp hC 1 ?_
        show P (125, [some (.ref 1), some (.int v1), some (.int v2), some (.int v3), some (.int v4), some (.int v5), some (.int s0)], [.int v2, .int q10], (110, x), m)
        refine mj_pcall hC rfl (bp_has_x (Nat.le_trans (by decide) hd)) ?_
        show P (128, [some (.ref 1), some (.int v1), some (.int v2), some (.int v3), some (.int v4), some (.int v5), some (.int s0)], [.int (bp_has q10 v2 m)], (110, x), m)
        refine mj_gcp hC 1 ?_
        show P (mj_pick 131 135 ((bp_has q10 v2 m) = 0), [some (.ref 1), some (.int v1), some (.int v2), some (.int v3), some (.int v4), some (.int v5), some (.int s0)], [], (110, x), m)
        refine mj_pbr (fun c11 => ?_) (fun c11 => ?_)
        · rw [if_pos c11] at h
          refine mj_gcp hC 2 ?_
          show P (135, [some (.ref 1), some (.int v1), some (.int v2), some (.int v3), some (.int v5), some (.int v5), some (.int s0)], [], (110, x), m)
          exact mj_less hC (L0 := [some (.ref 1), some (.int v1), some (.int v2), some (.int v3), some (.int v5), some (.int v5), none]) (And.intro rfl (And.intro rfl (And.intro rfl (And.intro rfl (And.intro rfl (And.intro rfl trivial)))))) (bp_cut_j135l64_x hC hd (by decide) h h0 h1)
        · rw [if_neg c11] at h
          exact mj_less hC (L0 := [some (.ref 1), some (.int v1), some (.int v2), some (.int v3), some (.int v4), some (.int v5), none]) (And.intro rfl (And.intro rfl (And.intro rfl (And.intro rfl (And.intro rfl (And.intro rfl trivial)))))) (bp_cut_j135l64_x hC hd (by decide) h h0 h1)
    · rw [if_neg c8] at h
      exact mj_less hC (L0 := [some (.ref 1), some (.int v1), some (.int v2), some (.int v3), some (.int v4), some (.int v5), none]) (And.intro rfl (And.intro rfl (And.intro rfl (And.intro rfl (And.intro rfl (And.intro rfl trivial)))))) (bp_cut_j135l64_x hC hd (by decide) h h0 h1)
set_option maxRecDepth 20000 in
theorem bp_cut_l64_x {Ls tp ip x d : Nat} {Z : mj_X} {R : Option Value → mj_G → mj_M → Prop} {P : mj_K → Prop} (hC : mj_cls false (mj_sh Ls) (mj_rf tp ip) mj_dv mj_cd_25 (mj_Ex false (mj_sh Ls) (mj_rf tp ip) Z d) R P) (hd : 2 ≤ d) (htp : tp = 3 ∨ tp = 17) {v1 : Int32} {v2 : Int32} {v3 : Int32} {m : mj_M} (s64 : (Int32 × Int32)) {t : Nat} {w : (Int32 × Int32)} (h : bp_cut_l64 tp v1 v2 v3 m s64 = some (t, w)) (h0 : t = 0 → P (64, [some (.ref 1), some (.int v1), some (.int v2), some (.int v3), some (.int w.1), some (.int w.2), none], [], (110, x), m)) (h1 : t = 1 → P (141, [none, none, none, none, some (.int w.1), none, none], [], (110, x), m)) : P (64, [some (.ref 1), some (.int v1), some (.int v2), some (.int v3), some (.int s64.1), some (.int s64.2), none], [], (110, x), m) := by
  unfold bp_cut_l64 at h
  rcases htp with rfl | rfl
  all_goals
    refine mj_gcp hC 3 ?_
    show P (mj_pick 141 70 (v3 ≤ s64.2), [some (.ref 1), some (.int v1), some (.int v2), some (.int v3), some (.int s64.1), some (.int s64.2), none], [], (110, x), m)
    refine mj_pbr (fun c6 => ?_) (fun c6 => ?_)
    · rw [if_pos c6] at h
      cases h
      exact mj_less hC (L0 := [none, none, none, none, some (.int s64.1), none, none]) (And.intro rfl trivial) (h1 rfl)
    · rw [if_neg c6] at h
      refine mj_gcp hC 1 ?_
      show P (72, [some (.ref 1), some (.int v1), some (.int v2), some (.int v3), some (.int s64.1), some (.int s64.2), none], [.int s64.2], (110, x), m)
      refine mj_pcall hC rfl (ig_bitCount_x (Nat.le_trans (by decide) hd)) ?_
      show P (75, [some (.ref 1), some (.int v1), some (.int v2), some (.int v3), some (.int s64.1), some (.int s64.2), none], [.int (ig_bitCount s64.2 m)], (110, x), m)
      refine mj_gcp hC 1 ?_
      show P (77, [some (.ref 1), some (.int v1), some (.int v2), some (.int v3), some (.int s64.1), some (.int s64.2), none], [.int s64.1, .int (ig_bitCount s64.2 m)], (110, x), m)
      refine mj_pcall hC rfl (ig_bitCount_x (Nat.le_trans (by decide) hd)) ?_
      show P (80, [some (.ref 1), some (.int v1), some (.int v2), some (.int v3), some (.int s64.1), some (.int s64.2), none], [.int (ig_bitCount s64.1 m), .int (ig_bitCount s64.2 m)], (110, x), m)
      refine mj_gcp hC 1 ?_
      show P (mj_pick 87 83 ((ig_bitCount s64.1 m) ≤ (ig_bitCount s64.2 m)), [some (.ref 1), some (.int v1), some (.int v2), some (.int v3), some (.int s64.1), some (.int s64.2), none], [], (110, x), m)
      refine mj_pbr (fun c7 => ?_) (fun c7 => ?_)
      · rw [if_pos c7] at h
        refine mj_gcp hC 1 ?_
        show P (88, [some (.ref 1), some (.int v1), some (.int v2), some (.int v3), some (.int s64.1), some (.int s64.2), none], [.int 0], (110, x), m)
        exact mj_less hC (L0 := [some (.ref 1), some (.int v1), some (.int v2), some (.int v3), some (.int s64.1), some (.int s64.2), none]) (And.intro rfl (And.intro rfl (And.intro rfl (And.intro rfl (And.intro rfl (And.intro rfl trivial)))))) (bp_cut_j88l64_x hC hd (by decide) h h0 h1)
      · rw [if_neg c7] at h
        refine mj_gcp hC 2 ?_
        show P (88, [some (.ref 1), some (.int v1), some (.int v2), some (.int v3), some (.int s64.1), some (.int s64.2), none], [.int 1], (110, x), m)
        exact mj_less hC (L0 := [some (.ref 1), some (.int v1), some (.int v2), some (.int v3), some (.int s64.1), some (.int s64.2), none]) (And.intro rfl (And.intro rfl (And.intro rfl (And.intro rfl (And.intro rfl (And.intro rfl trivial)))))) (bp_cut_j88l64_x hC hd (by decide) h h0 h1)
set_option maxRecDepth 20000 in
theorem bp_cut_p {Ls tp ip x d : Nat} {Z : mj_X} {R : Option Value → mj_G → mj_M → Prop} {P : mj_K → Prop} (hC : mj_cls false (mj_sh Ls) (mj_rf tp ip) mj_dv mj_cd_25 (mj_Ex false (mj_sh Ls) (mj_rf tp ip) Z d) R P) (hd : 2 ≤ d) (htp : tp = 3 ∨ tp = 17) {v1 : Int32} {v2 : Int32} {m : mj_M} {r : Int32} (h : bp_cut tp v1 v2 m = some r) (hR : R (some (.int r)) (110, x) m) : P (0, [some (.ref 1), some (.int v1), some (.int v2), none, none, none, none], [], (110, x), m) := by
  unfold bp_cut at h
  rcases htp with rfl | rfl
  all_goals
    refine mj_gcp hC 2 ?_
    show P (2, [some (.ref 1), some (.int v1), some (.int v2), none, none, none, none], [.int v1, .ref 1], (110, x), m)
    refine mj_pcall hC rfl (bp_isHere_x (Nat.le_trans (by decide) hd) (by decide)) ?_
    show P (5, [some (.ref 1), some (.int v1), some (.int v2), none, none, none, none], [.int (bp_isHere _ v1 m)], (110, x), m)
    refine mj_gcp hC 1 ?_
    show P (mj_pick 21 8 ((bp_isHere _ v1 m) = 0), [some (.ref 1), some (.int v1), some (.int v2), none, none, none, none], [], (110, x), m)
    refine mj_pbr (fun c1 => ?_) (fun c1 => ?_)
    · rw [if_pos c1] at h
      refine mj_gcp hC 1 ?_
      show P (22, [some (.ref 1), some (.int v1), some (.int v2), none, none, none, none], [.int (-1)], (110, x), m)
      cases h
      exact mj_pret hC rfl hR
    · rw [if_neg c1] at h
      refine mj_gcp hC 2 ?_
      show P (10, [some (.ref 1), some (.int v1), some (.int v2), none, none, none, none], [.int v2, .ref 1], (110, x), m)
      refine mj_pcall hC rfl (bp_isHere_x (Nat.le_trans (by decide) hd) (by decide)) ?_
      show P (13, [some (.ref 1), some (.int v1), some (.int v2), none, none, none, none], [.int (bp_isHere _ v2 m)], (110, x), m)
      refine mj_gcp hC 1 ?_
      show P (mj_pick 21 16 ((bp_isHere _ v2 m) = 0), [some (.ref 1), some (.int v1), some (.int v2), none, none, none, none], [], (110, x), m)
      refine mj_pbr (fun c2 => ?_) (fun c2 => ?_)
      · rw [if_pos c2] at h
        refine mj_gcp hC 1 ?_
        show P (22, [some (.ref 1), some (.int v1), some (.int v2), none, none, none, none], [.int (-1)], (110, x), m)
        cases h
        exact mj_pret hC rfl hR
      · rw [if_neg c2] at h
        refine mj_gcp hC 3 ?_
        show P (mj_pick 21 23 (v1 = v2), [some (.ref 1), some (.int v1), some (.int v2), none, none, none, none], [], (110, x), m)
        refine mj_pbr (fun c3 => ?_) (fun c3 => ?_)
        · rw [if_pos c3] at h
          refine mj_gcp hC 1 ?_
          show P (22, [some (.ref 1), some (.int v1), some (.int v2), none, none, none, none], [.int (-1)], (110, x), m)
          cases h
          exact mj_pret hC rfl hR
        · rw [if_neg c3] at h
          refine mj_gcp hC 4 ?_
          show P (29, [some (.ref 1), some (.int v1), some (.int v2), none, none, none, none], [.int v2, .int v1, .ref _], (110, x), m)
          obtain ⟨q4, eq4, h⟩ := mj_bnd h
          refine mj_pcall hC rfl (to_areTied_x (Nat.le_trans (by decide) hd) (by decide) eq4) ?_
          show P (32, [some (.ref 1), some (.int v1), some (.int v2), none, none, none, none], [.int q4], (110, x), m)
          refine mj_gcp hC 1 ?_
          show P (mj_pick 38 35 (q4 = 0), [some (.ref 1), some (.int v1), some (.int v2), none, none, none, none], [], (110, x), m)
          refine mj_pbr (fun c5 => ?_) (fun c5 => ?_)
          · rw [if_pos c5] at h
            refine mj_gcp hC 20 ?_
            show P (64, [some (.ref 1), some (.int v1), some (.int v2), some (.int (((mj_I (m 42 4)) &&& ((1 <<< (v1 &&& 31)) ^^^ (-1))) &&& ((1 <<< (v2 &&& 31)) ^^^ (-1)))), some (.int (((mj_I (m 42 4)) &&& ((1 <<< (v1 &&& 31)) ^^^ (-1))) &&& ((1 <<< (v2 &&& 31)) ^^^ (-1)))), some (.int 0), none], [], (110, x), m)
            obtain ⟨q12, eq12, h⟩ := mj_bnd h
            refine mj_less hC (L0 := [some (.ref 1), some (.int v1), some (.int v2), some (.int (((mj_I (m 42 4)) &&& ((1 <<< (v1 &&& 31)) ^^^ (-1))) &&& ((1 <<< (v2 &&& 31)) ^^^ (-1)))), some (.int (((mj_I (m 42 4)) &&& ((1 <<< (v1 &&& 31)) ^^^ (-1))) &&& ((1 <<< (v2 &&& 31)) ^^^ (-1)))), some (.int 0), none]) (And.intro rfl (And.intro rfl (And.intro rfl (And.intro rfl (And.intro rfl (And.intro rfl trivial)))))) ?_
            refine mj_loop_P (A := fun z64 => P (64, [some (.ref 1), some (.int v1), some (.int v2), some (.int (((mj_I (m 42 4)) &&& ((1 <<< (v1 &&& 31)) ^^^ (-1))) &&& ((1 <<< (v2 &&& 31)) ^^^ (-1)))), some (.int z64.1), some (.int z64.2), none], [], (110, x), m)) (E := fun _ z64 => P (141, [none, none, none, none, some (.int z64.1), none, none], [], (110, x), m)) (fun zz t w hb h0 h1 => bp_cut_l64_x hC hd (by decide) zz hb h0 (fun ht => h1 0 ht)) mj_F _ q12 eq12 ?_
            refine mj_gcp hC 1 ?_
            show P (143, [none, none, none, none, some (.int q12.2.1), none, none], [.int q12.2.1], (110, x), m)
            cases h
            exact mj_pret hC rfl hR
          · rw [if_neg c5] at h
            refine mj_gcp hC 1 ?_
            show P (37, [some (.ref 1), some (.int v1), some (.int v2), none, none, none, none], [.int (-2)], (110, x), m)
            cases h
            exact mj_pret hC rfl hR
set_option maxRecDepth 20000 in
theorem bp_cut_x {Ls tp ip x d : Nat} {Z : mj_X} (hd : 3 ≤ d) (htp : tp = 3 ∨ tp = 17) {v1 : Int32} {v2 : Int32} {m : mj_M} {r : Int32} (h : bp_cut tp v1 v2 m = some r) : mj_Ex false (mj_sh Ls) (mj_rf tp ip) Z d 25 [.ref 1, .int v1, .int v2] (110, x) m (some (.int r)) (110, x) m := by
  exact mj_Ex_of (cd := mj_cd_25) (L := [some (.ref 1), some (.int v1), some (.int v2), none, none, none, none]) (by omega) (by decide) rfl (Nat.le_of_ble_eq_true rfl) rfl (fun P hC => bp_cut_p hC (by omega) htp h ⟨rfl, rfl, rfl⟩)
def bp_isRest  (v0 : Int32) (v1 : Int32) (v2 : Int32) (v3 : Int32) (m : mj_M) : Int32 :=
  (if (bp_loss v0 (1 - v2) v3 m) < (bp_loss v0 v2 v3 m) then 0 else
  (if (bp_loss v1 (1 - v3) v2 m) < (bp_loss v1 v3 v2 m) then 0 else
  1))
set_option maxRecDepth 20000 in
theorem bp_isRest_p {Ls tp ip x d : Nat} {Z : mj_X} {R : Option Value → mj_G → mj_M → Prop} {P : mj_K → Prop} (hC : mj_cls false (mj_sh Ls) (mj_rf tp ip) mj_dv mj_cd_30 (mj_Ex false (mj_sh Ls) (mj_rf tp ip) Z d) R P) (hd : 2 ≤ d) {v0 : Int32} {v1 : Int32} {v2 : Int32} {v3 : Int32} {m : mj_M} (hR : R (some (.int (bp_isRest v0 v1 v2 v3 m))) (110, x) m) : P (0, [some (.int v0), some (.int v1), some (.int v2), some (.int v3)], [], (110, x), m) := by
  unfold bp_isRest at hR
  refine mj_gcp hC 3 ?_
  show P (3, [some (.int v0), some (.int v1), some (.int v2), some (.int v3)], [.int v3, .int v2, .int v0], (110, x), m)
  refine mj_pcall hC rfl (bp_loss_x (Nat.le_trans (by decide) hd)) ?_
  show P (6, [some (.int v0), some (.int v1), some (.int v2), some (.int v3)], [.int (bp_loss v0 v2 v3 m)], (110, x), m)
  refine mj_gcp hC 5 ?_
  show P (11, [some (.int v0), some (.int v1), some (.int v2), some (.int v3)], [.int v3, .int (1 - v2), .int v0, .int (bp_loss v0 v2 v3 m)], (110, x), m)
  refine mj_pcall hC rfl (bp_loss_x (Nat.le_trans (by decide) hd)) ?_
  show P (14, [some (.int v0), some (.int v1), some (.int v2), some (.int v3)], [.int (bp_loss v0 (1 - v2) v3 m), .int (bp_loss v0 v2 v3 m)], (110, x), m)
  refine mj_gcp hC 1 ?_
  show P (mj_pick 38 17 ((bp_loss v0 (1 - v2) v3 m) < (bp_loss v0 v2 v3 m)), [some (.int v0), some (.int v1), some (.int v2), some (.int v3)], [], (110, x), m)
  refine mj_pbr (fun c1 => ?_) (fun c1 => ?_)
  · rw [if_pos c1] at hR
    refine mj_gcp hC 1 ?_
    show P (39, [some (.int v0), some (.int v1), some (.int v2), some (.int v3)], [.int 0], (110, x), m)
    exact mj_pret hC rfl hR
  · rw [if_neg c1] at hR
    refine mj_gcp hC 3 ?_
    show P (20, [some (.int v0), some (.int v1), some (.int v2), some (.int v3)], [.int v2, .int v3, .int v1], (110, x), m)
    refine mj_pcall hC rfl (bp_loss_x (Nat.le_trans (by decide) hd)) ?_
    show P (23, [some (.int v0), some (.int v1), some (.int v2), some (.int v3)], [.int (bp_loss v1 v3 v2 m)], (110, x), m)
    refine mj_gcp hC 5 ?_
    show P (28, [some (.int v0), some (.int v1), some (.int v2), some (.int v3)], [.int v2, .int (1 - v3), .int v1, .int (bp_loss v1 v3 v2 m)], (110, x), m)
    refine mj_pcall hC rfl (bp_loss_x (Nat.le_trans (by decide) hd)) ?_
    show P (31, [some (.int v0), some (.int v1), some (.int v2), some (.int v3)], [.int (bp_loss v1 (1 - v3) v2 m), .int (bp_loss v1 v3 v2 m)], (110, x), m)
    refine mj_gcp hC 1 ?_
    show P (mj_pick 38 34 ((bp_loss v1 (1 - v3) v2 m) < (bp_loss v1 v3 v2 m)), [some (.int v0), some (.int v1), some (.int v2), some (.int v3)], [], (110, x), m)
    refine mj_pbr (fun c2 => ?_) (fun c2 => ?_)
    · rw [if_pos c2] at hR
      refine mj_gcp hC 1 ?_
      show P (39, [some (.int v0), some (.int v1), some (.int v2), some (.int v3)], [.int 0], (110, x), m)
      exact mj_pret hC rfl hR
    · rw [if_neg c2] at hR
      refine mj_gcp hC 2 ?_
      show P (39, [some (.int v0), some (.int v1), some (.int v2), some (.int v3)], [.int 1], (110, x), m)
      exact mj_pret hC rfl hR
set_option maxRecDepth 20000 in
theorem bp_isRest_x {Ls tp ip x d : Nat} {Z : mj_X} (hd : 3 ≤ d) {v0 : Int32} {v1 : Int32} {v2 : Int32} {v3 : Int32} {m : mj_M}  : mj_Ex false (mj_sh Ls) (mj_rf tp ip) Z d 30 [.int v0, .int v1, .int v2, .int v3] (110, x) m (some (.int (bp_isRest v0 v1 v2 v3 m))) (110, x) m := by
  exact mj_Ex_of (cd := mj_cd_30) (L := [some (.int v0), some (.int v1), some (.int v2), some (.int v3)]) (by omega) (by decide) rfl (Nat.le_of_ble_eq_true rfl) rfl (fun P hC => bp_isRest_p hC (by omega) ⟨rfl, rfl, rfl⟩)
def bp_reaches (tp : Nat) (v1 : Int32) (m : mj_M) : Option Int32 :=
  (if (bp_isHere tp v1 m) = 0 then some (-1) else
  (to_reach tp v1 (mj_I (m 42 4)) m).bind fun q2 =>
  some q2)
set_option maxRecDepth 20000 in
theorem bp_reaches_p {Ls tp ip x d : Nat} {Z : mj_X} {R : Option Value → mj_G → mj_M → Prop} {P : mj_K → Prop} (hC : mj_cls false (mj_sh Ls) (mj_rf tp ip) mj_dv mj_cd_32 (mj_Ex false (mj_sh Ls) (mj_rf tp ip) Z d) R P) (hd : 2 ≤ d) (htp : tp = 3 ∨ tp = 17) {v1 : Int32} {m : mj_M} {r : Int32} (h : bp_reaches tp v1 m = some r) (hR : R (some (.int r)) (110, x) m) : P (0, [some (.ref 1), some (.int v1)], [], (110, x), m) := by
  unfold bp_reaches at h
  rcases htp with rfl | rfl
  all_goals
    refine mj_gcp hC 2 ?_
    show P (2, [some (.ref 1), some (.int v1)], [.int v1, .ref 1], (110, x), m)
    refine mj_pcall hC rfl (bp_isHere_x (Nat.le_trans (by decide) hd) (by decide)) ?_
    show P (5, [some (.ref 1), some (.int v1)], [.int (bp_isHere _ v1 m)], (110, x), m)
    refine mj_gcp hC 1 ?_
    show P (mj_pick 26 8 ((bp_isHere _ v1 m) = 0), [some (.ref 1), some (.int v1)], [], (110, x), m)
    refine mj_pbr (fun c1 => ?_) (fun c1 => ?_)
    · rw [if_pos c1] at h
      refine mj_gcp hC 1 ?_
      show P (27, [some (.ref 1), some (.int v1)], [.int (-1)], (110, x), m)
      cases h
      exact mj_pret hC rfl hR
    · rw [if_neg c1] at h
      refine mj_gcp hC 6 ?_
      show P (20, [some (.ref 1), some (.int v1)], [.int (mj_I (m 42 4)), .int v1, .ref _], (110, x), m)
      obtain ⟨q2, eq2, h⟩ := mj_bnd h
      refine mj_pcall hC rfl (to_reach_x (Nat.le_trans (by decide) hd) (by decide) eq2) ?_
      show P (23, [some (.ref 1), some (.int v1)], [.int q2], (110, x), m)
      refine mj_gcp hC 1 ?_
      show P (27, [some (.ref 1), some (.int v1)], [.int q2], (110, x), m)
      cases h
      exact mj_pret hC rfl hR
set_option maxRecDepth 20000 in
theorem bp_reaches_x {Ls tp ip x d : Nat} {Z : mj_X} (hd : 3 ≤ d) (htp : tp = 3 ∨ tp = 17) {v1 : Int32} {m : mj_M} {r : Int32} (h : bp_reaches tp v1 m = some r) : mj_Ex false (mj_sh Ls) (mj_rf tp ip) Z d 32 [.ref 1, .int v1] (110, x) m (some (.int r)) (110, x) m := by
  exact mj_Ex_of (cd := mj_cd_32) (L := [some (.ref 1), some (.int v1)]) (by omega) (by decide) rfl (Nat.le_of_ble_eq_true rfl) rfl (fun P hC => bp_reaches_p hC (by omega) htp h ⟨rfl, rfl, rfl⟩)
def bp_pack_j64l18 (tp : Nat)  (v1 : Int32) (v2 : Int32) (v3 : Int32)  (m : mj_M) : Option (Nat × (Int32 × Int32 × mj_M)) :=
  some (0, (v2, (v3 + 1), m))
def bp_pack_l18 (tp : Nat) (v1 : Int32) (s18 : (Int32 × Int32 × mj_M)) : Option (Nat × (Int32 × Int32 × mj_M)) :=
  (if (mj_I (s18.2.2 tp 5)) ≤ s18.2.1 then some (2, (s18.1, s18.2.1, s18.2.2)) else
  (if (fx_at s18.2.2 45 s18.2.1) ≤ v1 then (if (sa_isDone 42 s18.2.1 s18.2.2) = 0 then bp_pack_j64l18 tp v1 (s18.1 ||| (1 <<< (s18.2.1 &&& 31))) s18.2.1 s18.2.2 else
  bp_pack_j64l18 tp v1 s18.1 s18.2.1 s18.2.2) else
  some (1, (s18.1, s18.2.1, s18.2.2))))
def bp_pack_j99l72 (tp : Nat)  (v1 : Int32) (v2 : Int32) (v3 : Int32)  (m : mj_M) : Option (Nat × (Int32 × mj_M)) :=
  some (0, ((v3 + 1), m))
def bp_pack_l72 (tp : Nat) (v1 : Int32) (v2 : Int32) (s72 : (Int32 × mj_M)) : Option (Nat × (Int32 × mj_M)) :=
  (if v2 < s72.1 then some (1, (s72.1, s72.2)) else
  (if (s72.1 &&& (v2 ^^^ (-1))) = 0 then (bp_fewestDays tp s72.1 v1 s72.2).bind fun q9 =>
  bp_pack_j99l72 tp v1 v2 s72.1 (fx_put s72.2 66 s72.1 q9) else
  bp_pack_j99l72 tp v1 v2 s72.1 s72.2))
def bp_pack (tp : Nat) (v1 : Int32) (m : mj_M) : Option (Int32 × mj_M) :=
  (if v1 < 1 then some ((-1), m) else
  (if v1 < 10000 then (mj_loop (bp_pack_l18 tp v1) mj_F (0, 0, m)).bind fun q6 =>
  (if q6.1 = 0 then some ((-2), q6.2.2.2) else (mj_loop (bp_pack_l72 tp v1 q6.2.1) mj_F (1, q6.2.2.2)).bind fun q10 =>
  some (((fx_at q10.2.2 66 q6.2.1) / 10000), q10.2.2)) else
  some ((-1), m)))
set_option maxRecDepth 20000 in
theorem bp_pack_j64l18_x {Ls tp ip x d : Nat} {Z : mj_X} {R : Option Value → mj_G → mj_M → Prop} {P : mj_K → Prop} (hC : mj_cls false (mj_sh Ls) (mj_rf tp ip) mj_dv mj_cd_34 (mj_Ex false (mj_sh Ls) (mj_rf tp ip) Z d) R P) (hd : 2 ≤ d) (htp : tp = 3 ∨ tp = 17)  {v1 : Int32} {v2 : Int32} {v3 : Int32}  {m : mj_M} {t : Nat} {w : (Int32 × Int32 × mj_M)} (h : bp_pack_j64l18 tp  v1 v2 v3 m = some (t, w)) (h0 : t = 0 → P (18, [some (.ref 1), some (.int v1), some (.int w.1), some (.int w.2.1)], [], (110, x), w.2.2)) (h1 : t = 1 → P (44, [none, none, none, none], [], (110, x), w.2.2)) (h2 : t = 2 → P (70, [some (.ref 1), some (.int v1), some (.int w.1), none], [], (110, x), w.2.2)) : P (64, [some (.ref 1), some (.int v1), some (.int v2), some (.int v3)], [], (110, x), m) := by
  unfold bp_pack_j64l18 at h
  rcases htp with rfl | rfl
  all_goals
    refine mj_gcp hC 2 ?_
    show P (18, [some (.ref 1), some (.int v1), some (.int v2), some (.int (v3 + 1))], [], (110, x), m)
    cases h
    exact mj_less hC (L0 := [some (.ref 1), some (.int v1), some (.int v2), some (.int (v3 + 1))]) (And.intro rfl (And.intro rfl (And.intro rfl (And.intro rfl trivial)))) (h0 rfl)
set_option maxRecDepth 20000 in
theorem bp_pack_l18_x {Ls tp ip x d : Nat} {Z : mj_X} {R : Option Value → mj_G → mj_M → Prop} {P : mj_K → Prop} (hC : mj_cls false (mj_sh Ls) (mj_rf tp ip) mj_dv mj_cd_34 (mj_Ex false (mj_sh Ls) (mj_rf tp ip) Z d) R P) (hd : 2 ≤ d) (htp : tp = 3 ∨ tp = 17) {v1 : Int32} (s18 : (Int32 × Int32 × mj_M)) {t : Nat} {w : (Int32 × Int32 × mj_M)} (h : bp_pack_l18 tp v1 s18 = some (t, w)) (h0 : t = 0 → P (18, [some (.ref 1), some (.int v1), some (.int w.1), some (.int w.2.1)], [], (110, x), w.2.2)) (h1 : t = 1 → P (44, [none, none, none, none], [], (110, x), w.2.2)) (h2 : t = 2 → P (70, [some (.ref 1), some (.int v1), some (.int w.1), none], [], (110, x), w.2.2)) : P (18, [some (.ref 1), some (.int v1), some (.int s18.1), some (.int s18.2.1)], [], (110, x), s18.2.2) := by
  unfold bp_pack_l18 at h
  rcases htp with rfl | rfl
  all_goals
    refine mj_gcp hC 5 ?_
    show P (mj_pick 70 29 ((mj_I (s18.2.2 _ 5)) ≤ s18.2.1), [some (.ref 1), some (.int v1), some (.int s18.1), some (.int s18.2.1)], [], (110, x), s18.2.2)
    refine mj_pbr (fun c3 => ?_) (fun c3 => ?_)
    · rw [if_pos c3] at h
      cases h
      exact mj_less hC (L0 := [some (.ref 1), some (.int v1), some (.int s18.1), none]) (And.intro rfl (And.intro rfl (And.intro rfl trivial))) (h2 rfl)
    · rw [if_neg c3] at h
      refine mj_gcp hC 4 ?_
      show P (37, [some (.ref 1), some (.int v1), some (.int s18.1), some (.int s18.2.1)], [.int s18.2.1, .ref 45], (110, x), s18.2.2)
      refine mj_pcall hC rfl (bp_at_x (Nat.le_trans (by decide) hd) (by decide)) ?_
      show P (40, [some (.ref 1), some (.int v1), some (.int s18.1), some (.int s18.2.1)], [.int (fx_at s18.2.2 45 s18.2.1)], (110, x), s18.2.2)
      refine mj_gcp hC 2 ?_
      show P (mj_pick 47 44 ((fx_at s18.2.2 45 s18.2.1) ≤ v1), [some (.ref 1), some (.int v1), some (.int s18.1), some (.int s18.2.1)], [], (110, x), s18.2.2)
      refine mj_pbr (fun c4 => ?_) (fun c4 => ?_)
      · rw [if_pos c4] at h
        refine mj_gcp hC 3 ?_
        show P (52, [some (.ref 1), some (.int v1), some (.int s18.1), some (.int s18.2.1)], [.int s18.2.1, .ref 42], (110, x), s18.2.2)
        refine mj_pcall hC rfl (sa_isDone_x (Nat.le_trans (by decide) hd) (by decide)) ?_
        show P (55, [some (.ref 1), some (.int v1), some (.int s18.1), some (.int s18.2.1)], [.int (sa_isDone 42 s18.2.1 s18.2.2)], (110, x), s18.2.2)
        refine mj_gcp hC 1 ?_
        show P (mj_pick 58 64 ((sa_isDone 42 s18.2.1 s18.2.2) = 0), [some (.ref 1), some (.int v1), some (.int s18.1), some (.int s18.2.1)], [], (110, x), s18.2.2)
        refine mj_pbr (fun c5 => ?_) (fun c5 => ?_)
        · rw [if_pos c5] at h
          refine mj_gcp hC 6 ?_
          show P (64, [some (.ref 1), some (.int v1), some (.int (s18.1 ||| (1 <<< (s18.2.1 &&& 31)))), some (.int s18.2.1)], [], (110, x), s18.2.2)
          exact mj_less hC (L0 := [some (.ref 1), some (.int v1), some (.int (s18.1 ||| (1 <<< (s18.2.1 &&& 31)))), some (.int s18.2.1)]) (And.intro rfl (And.intro rfl (And.intro rfl (And.intro rfl trivial)))) (bp_pack_j64l18_x hC hd (by decide) h h0 h1 h2)
        · rw [if_neg c5] at h
          exact mj_less hC (L0 := [some (.ref 1), some (.int v1), some (.int s18.1), some (.int s18.2.1)]) (And.intro rfl (And.intro rfl (And.intro rfl (And.intro rfl trivial)))) (bp_pack_j64l18_x hC hd (by decide) h h0 h1 h2)
      · rw [if_neg c4] at h
        cases h
        exact mj_less hC (L0 := [none, none, none, none]) trivial (h1 rfl)
set_option maxRecDepth 20000 in
theorem bp_pack_j99l72_x {Ls tp ip x d : Nat} {Z : mj_X} {R : Option Value → mj_G → mj_M → Prop} {P : mj_K → Prop} (hC : mj_cls false (mj_sh Ls) (mj_rf tp ip) mj_dv mj_cd_34 (mj_Ex false (mj_sh Ls) (mj_rf tp ip) Z d) R P) (hd : 2 ≤ d) (htp : tp = 3 ∨ tp = 17)  {v1 : Int32} {v2 : Int32} {v3 : Int32}  {m : mj_M} {t : Nat} {w : (Int32 × mj_M)} (h : bp_pack_j99l72 tp  v1 v2 v3 m = some (t, w)) (h0 : t = 0 → P (72, [some (.ref 1), some (.int v1), some (.int v2), some (.int w.1)], [], (110, x), w.2)) (h1 : t = 1 → P (105, [some (.ref 1), none, some (.int v2), none], [], (110, x), w.2)) : P (99, [some (.ref 1), some (.int v1), some (.int v2), some (.int v3)], [], (110, x), m) := by
  unfold bp_pack_j99l72 at h
  rcases htp with rfl | rfl
  all_goals
    refine mj_gcp hC 2 ?_
    show P (72, [some (.ref 1), some (.int v1), some (.int v2), some (.int (v3 + 1))], [], (110, x), m)
    cases h
    exact mj_less hC (L0 := [some (.ref 1), some (.int v1), some (.int v2), some (.int (v3 + 1))]) (And.intro rfl (And.intro rfl (And.intro rfl (And.intro rfl trivial)))) (h0 rfl)
set_option maxRecDepth 20000 in
theorem bp_pack_l72_x {Ls tp ip x d : Nat} {Z : mj_X} {R : Option Value → mj_G → mj_M → Prop} {P : mj_K → Prop} (hC : mj_cls false (mj_sh Ls) (mj_rf tp ip) mj_dv mj_cd_34 (mj_Ex false (mj_sh Ls) (mj_rf tp ip) Z d) R P) (hd : 2 ≤ d) (htp : tp = 3 ∨ tp = 17) {v1 : Int32} {v2 : Int32} (s72 : (Int32 × mj_M)) {t : Nat} {w : (Int32 × mj_M)} (h : bp_pack_l72 tp v1 v2 s72 = some (t, w)) (h0 : t = 0 → P (72, [some (.ref 1), some (.int v1), some (.int v2), some (.int w.1)], [], (110, x), w.2)) (h1 : t = 1 → P (105, [some (.ref 1), none, some (.int v2), none], [], (110, x), w.2)) : P (72, [some (.ref 1), some (.int v1), some (.int v2), some (.int s72.1)], [], (110, x), s72.2) := by
  unfold bp_pack_l72 at h
  rcases htp with rfl | rfl
  all_goals
    refine mj_gcp hC 3 ?_
    show P (mj_pick 105 77 (v2 < s72.1), [some (.ref 1), some (.int v1), some (.int v2), some (.int s72.1)], [], (110, x), s72.2)
    refine mj_pbr (fun c7 => ?_) (fun c7 => ?_)
    · rw [if_pos c7] at h
      cases h
      exact mj_less hC (L0 := [some (.ref 1), none, some (.int v2), none]) (And.intro rfl (And.intro rfl trivial)) (h1 rfl)
    · rw [if_neg c7] at h
      refine mj_gcp hC 6 ?_
      show P (mj_pick 85 99 ((s72.1 &&& (v2 ^^^ (-1))) = 0), [some (.ref 1), some (.int v1), some (.int v2), some (.int s72.1)], [], (110, x), s72.2)
      refine mj_pbr (fun c8 => ?_) (fun c8 => ?_)
      · rw [if_pos c8] at h
        refine mj_gcp hC 6 ?_
        show P (93, [some (.ref 1), some (.int v1), some (.int v2), some (.int s72.1)], [.int v1, .int s72.1, .ref 1, .int s72.1, .ref 66], (110, x), s72.2)
        obtain ⟨q9, eq9, h⟩ := mj_bnd h
        refine mj_pcall hC rfl (bp_fewestDays_x (Nat.le_trans (by decide) hd) (by decide) eq9) ?_
        show P (96, [some (.ref 1), some (.int v1), some (.int v2), some (.int s72.1)], [.int q9, .int s72.1, .ref 66], (110, x), s72.2)
        refine mj_pcall hC rfl (bp_put_x (Nat.le_trans (by decide) hd) (by decide)) ?_
        show P (99, [some (.ref 1), some (.int v1), some (.int v2), some (.int s72.1)], [], (110, x), (fx_put s72.2 66 s72.1 q9))
        exact mj_less hC (L0 := [some (.ref 1), some (.int v1), some (.int v2), some (.int s72.1)]) (And.intro rfl (And.intro rfl (And.intro rfl (And.intro rfl trivial)))) (bp_pack_j99l72_x hC hd (by decide) h h0 h1)
      · rw [if_neg c8] at h
        exact mj_less hC (L0 := [some (.ref 1), some (.int v1), some (.int v2), some (.int s72.1)]) (And.intro rfl (And.intro rfl (And.intro rfl (And.intro rfl trivial)))) (bp_pack_j99l72_x hC hd (by decide) h h0 h1)
set_option maxRecDepth 20000 in
theorem bp_pack_p {Ls tp ip x d : Nat} {Z : mj_X} {R : Option Value → mj_G → mj_M → Prop} {P : mj_K → Prop} (hC : mj_cls false (mj_sh Ls) (mj_rf tp ip) mj_dv mj_cd_34 (mj_Ex false (mj_sh Ls) (mj_rf tp ip) Z d) R P) (hd : 2 ≤ d) (htp : tp = 3 ∨ tp = 17) {v1 : Int32} {m : mj_M} {r : (Int32 × mj_M)} (h : bp_pack tp v1 m = some r) (hR : R (some (.int r.1)) (110, x) r.2) : P (0, [some (.ref 1), some (.int v1), none, none], [], (110, x), m) := by
  unfold bp_pack at h
  rcases htp with rfl | rfl
  all_goals
    refine mj_gcp hC 3 ?_
    show P (mj_pick 12 5 (v1 < 1), [some (.ref 1), some (.int v1), none, none], [], (110, x), m)
    refine mj_pbr (fun c1 => ?_) (fun c1 => ?_)
    · rw [if_pos c1] at h
      refine mj_gcp hC 1 ?_
      show P (13, [some (.ref 1), some (.int v1), none, none], [.int (-1)], (110, x), m)
      cases h
      exact mj_pret hC rfl hR
    · rw [if_neg c1] at h
      refine mj_gcp hC 3 ?_
      show P (mj_pick 14 12 (v1 < 10000), [some (.ref 1), some (.int v1), none, none], [], (110, x), m)
      refine mj_pbr (fun c2 => ?_) (fun c2 => ?_)
      · rw [if_pos c2] at h
        refine mj_gcp hC 4 ?_
        show P (18, [some (.ref 1), some (.int v1), some (.int 0), some (.int 0)], [], (110, x), m)
        obtain ⟨q6, eq6, h⟩ := mj_bnd h
        refine mj_less hC (L0 := [some (.ref 1), some (.int v1), some (.int 0), some (.int 0)]) (And.intro rfl (And.intro rfl (And.intro rfl (And.intro rfl trivial)))) ?_
        refine mj_loop_P (A := fun z18 => P (18, [some (.ref 1), some (.int v1), some (.int z18.1), some (.int z18.2.1)], [], (110, x), z18.2.2)) (E := fun j z18 => (j = 0 → P (44, [none, none, none, none], [], (110, x), z18.2.2)) ∧ (¬ j = 0 → P (70, [some (.ref 1), some (.int v1), some (.int z18.1), none], [], (110, x), z18.2.2))) (fun zz t w hb h0 h1 => bp_pack_l18_x hC hd (by decide) zz hb h0 (fun ht => (h1 0 ht).1 rfl) (fun ht => (h1 1 ht).2 (by decide))) mj_F _ q6 eq6 ⟨fun hj => ?_, fun hj => ?_⟩
        · rw [if_pos hj] at h
          refine mj_gcp hC 1 ?_
          show P (46, [none, none, none, none], [.int (-2)], (110, x), q6.2.2.2)
          cases h
          exact mj_pret hC rfl hR
        · rw [if_neg hj] at h
          refine mj_gcp hC 2 ?_
          show P (72, [some (.ref 1), some (.int v1), some (.int q6.2.1), some (.int 1)], [], (110, x), q6.2.2.2)
          obtain ⟨q10, eq10, h⟩ := mj_bnd h
          refine mj_less hC (L0 := [some (.ref 1), some (.int v1), some (.int q6.2.1), some (.int 1)]) (And.intro rfl (And.intro rfl (And.intro rfl (And.intro rfl trivial)))) ?_
          refine mj_loop_P (A := fun z72 => P (72, [some (.ref 1), some (.int v1), some (.int q6.2.1), some (.int z72.1)], [], (110, x), z72.2)) (E := fun _ z72 => P (105, [some (.ref 1), none, some (.int q6.2.1), none], [], (110, x), z72.2)) (fun zz t w hb h0 h1 => bp_pack_l72_x hC hd (by decide) zz hb h0 (fun ht => h1 0 ht)) mj_F _ q10 eq10 ?_
          refine mj_gcp hC 3 ?_
          show P (110, [some (.ref 1), none, some (.int q6.2.1), none], [.int q6.2.1, .ref 66], (110, x), q10.2.2)
          refine mj_pcall hC rfl (bp_at_x (Nat.le_trans (by decide) hd) (by decide)) ?_
          show P (113, [some (.ref 1), none, some (.int q6.2.1), none], [.int (fx_at q10.2.2 66 q6.2.1)], (110, x), q10.2.2)
          refine mj_gcp hC 2 ?_
          show _ ∧ (P (117, [some (.ref 1), none, some (.int q6.2.1), none], [.int ((fx_at q10.2.2 66 q6.2.1) / 10000)], (110, x), q10.2.2))
          refine And.intro (show ¬ ((10000 : Int32) = 0) by decide) (?_)
          cases h
          exact mj_pret hC rfl hR
      · rw [if_neg c2] at h
        refine mj_gcp hC 1 ?_
        show P (13, [some (.ref 1), some (.int v1), none, none], [.int (-1)], (110, x), m)
        cases h
        exact mj_pret hC rfl hR
set_option maxRecDepth 20000 in
theorem bp_pack_x {Ls tp ip x d : Nat} {Z : mj_X} (hd : 3 ≤ d) (htp : tp = 3 ∨ tp = 17) {v1 : Int32} {m : mj_M} {r : (Int32 × mj_M)} (h : bp_pack tp v1 m = some r) : mj_Ex false (mj_sh Ls) (mj_rf tp ip) Z d 34 [.ref 1, .int v1] (110, x) m (some (.int r.1)) (110, x) r.2 := by
  exact mj_Ex_of (cd := mj_cd_34) (L := [some (.ref 1), some (.int v1), none, none]) (by omega) (by decide) rfl (Nat.le_of_ble_eq_true rfl) rfl (fun P hC => bp_pack_p hC (by omega) htp h ⟨rfl, rfl, rfl⟩)
def bp_strange_j121l40 (tp : Nat)  (v1 : Int32) (v2 : Int32) (v3 : Int32) (v4 : Int32) (v5 : Int32)  (m : mj_M) : Option (Nat × (Int32 × Int32)) :=
  some (0, (v4, (v5 + 1)))
def bp_strange_j73l40 (tp : Nat)  (v1 : Int32) (v2 : Int32) (v3 : Int32) (v4 : Int32) (v5 : Int32) (s0 : Int32) (m : mj_M) : Option (Nat × (Int32 × Int32)) :=
  (if (bp_has (mj_I (m 42 4)) v5 m) = 0 then bp_strange_j121l40 tp v1 v2 v3 v4 v5 m else
  (if (fx_at m 43 v5) < v1 then bp_strange_j121l40 tp v1 v2 v3 v4 v5 m else
  (if s0 = v2 then bp_strange_j121l40 tp v1 v2 v3 (v4 ||| (1 <<< (v5 &&& 31))) v5 m else
  bp_strange_j121l40 tp v1 v2 v3 v4 v5 m)))
def bp_strange_l40 (tp : Nat) (v1 : Int32) (v2 : Int32) (v3 : Int32) (m : mj_M) (s40 : (Int32 × Int32)) : Option (Nat × (Int32 × Int32)) :=
  (if (mj_I (m tp 0)) ≤ s40.2 then some (1, (s40.1, s40.2)) else
  (if v3 ≤ (fx_at m (tp + 2) s40.2) then bp_strange_j73l40 tp v1 v2 v3 s40.1 s40.2 1 m else
  bp_strange_j73l40 tp v1 v2 v3 s40.1 s40.2 0 m))
def bp_strange (tp : Nat) (v1 : Int32) (v2 : Int32) (m : mj_M) : Option Int32 :=
  (if v1 < 0 then some (-1) else
  (if 9999 < v1 then some (-1) else
  (if v2 < 0 then some (-1) else
  (if v2 ≤ 1 then (ck_plainBeat tp 42 m).bind fun q5 =>
  (mj_loop (bp_strange_l40 tp v1 v2 q5 m) mj_F (0, 0)).bind fun q11 =>
  some q11.2.1 else
  some (-1)))))
set_option maxRecDepth 20000 in
theorem bp_strange_j121l40_x {Ls tp ip x d : Nat} {Z : mj_X} {R : Option Value → mj_G → mj_M → Prop} {P : mj_K → Prop} (hC : mj_cls false (mj_sh Ls) (mj_rf tp ip) mj_dv mj_cd_37 (mj_Ex false (mj_sh Ls) (mj_rf tp ip) Z d) R P) (hd : 3 ≤ d) (htp : tp = 3 ∨ tp = 17)  {v1 : Int32} {v2 : Int32} {v3 : Int32} {v4 : Int32} {v5 : Int32}  {m : mj_M} {t : Nat} {w : (Int32 × Int32)} (h : bp_strange_j121l40 tp  v1 v2 v3 v4 v5 m = some (t, w)) (h0 : t = 0 → P (40, [some (.ref 1), some (.int v1), some (.int v2), some (.int v3), some (.int w.1), some (.int w.2), none], [], (110, x), m)) (h1 : t = 1 → P (127, [none, none, none, none, some (.int w.1), none, none], [], (110, x), m)) : P (121, [some (.ref 1), some (.int v1), some (.int v2), some (.int v3), some (.int v4), some (.int v5), none], [], (110, x), m) := by
  unfold bp_strange_j121l40 at h
  rcases htp with rfl | rfl
  all_goals
    refine mj_gcp hC 2 ?_
    show P (40, [some (.ref 1), some (.int v1), some (.int v2), some (.int v3), some (.int v4), some (.int (v5 + 1)), none], [], (110, x), m)
    cases h
    exact mj_less hC (L0 := [some (.ref 1), some (.int v1), some (.int v2), some (.int v3), some (.int v4), some (.int (v5 + 1)), none]) (And.intro rfl (And.intro rfl (And.intro rfl (And.intro rfl (And.intro rfl (And.intro rfl trivial)))))) (h0 rfl)
set_option maxRecDepth 20000 in
theorem bp_strange_j73l40_x {Ls tp ip x d : Nat} {Z : mj_X} {R : Option Value → mj_G → mj_M → Prop} {P : mj_K → Prop} (hC : mj_cls false (mj_sh Ls) (mj_rf tp ip) mj_dv mj_cd_37 (mj_Ex false (mj_sh Ls) (mj_rf tp ip) Z d) R P) (hd : 3 ≤ d) (htp : tp = 3 ∨ tp = 17)  {v1 : Int32} {v2 : Int32} {v3 : Int32} {v4 : Int32} {v5 : Int32} {s0 : Int32} {m : mj_M} {t : Nat} {w : (Int32 × Int32)} (h : bp_strange_j73l40 tp  v1 v2 v3 v4 v5 s0 m = some (t, w)) (h0 : t = 0 → P (40, [some (.ref 1), some (.int v1), some (.int v2), some (.int v3), some (.int w.1), some (.int w.2), none], [], (110, x), m)) (h1 : t = 1 → P (127, [none, none, none, none, some (.int w.1), none, none], [], (110, x), m)) : P (73, [some (.ref 1), some (.int v1), some (.int v2), some (.int v3), some (.int v4), some (.int v5), none], [.int s0], (110, x), m) := by
  unfold bp_strange_j73l40 at h
  rcases htp with rfl | rfl
  all_goals
    refine mj_gcp hC 5 ?_
    show P (84, [some (.ref 1), some (.int v1), some (.int v2), some (.int v3), some (.int v4), some (.int v5), some (.int s0)], [.int v5, .int (mj_I (m 42 4))], (110, x), m)
    refine mj_pcall hC rfl (bp_has_x (Nat.le_trans (by decide) hd)) ?_
    show P (87, [some (.ref 1), some (.int v1), some (.int v2), some (.int v3), some (.int v4), some (.int v5), some (.int s0)], [.int (bp_has (mj_I (m 42 4)) v5 m)], (110, x), m)
    refine mj_gcp hC 1 ?_
    show P (mj_pick 121 90 ((bp_has (mj_I (m 42 4)) v5 m) = 0), [some (.ref 1), some (.int v1), some (.int v2), some (.int v3), some (.int v4), some (.int v5), some (.int s0)], [], (110, x), m)
    refine mj_pbr (fun c8 => ?_) (fun c8 => ?_)
    · rw [if_pos c8] at h
      exact mj_less hC (L0 := [some (.ref 1), some (.int v1), some (.int v2), some (.int v3), some (.int v4), some (.int v5), none]) (And.intro rfl (And.intro rfl (And.intro rfl (And.intro rfl (And.intro rfl (And.intro rfl trivial)))))) (bp_strange_j121l40_x hC hd (by decide) h h0 h1)
    · rw [if_neg c8] at h
      refine mj_gcp hC 4 ?_
      show P (99, [some (.ref 1), some (.int v1), some (.int v2), some (.int v3), some (.int v4), some (.int v5), some (.int s0)], [.int v5, .ref 43], (110, x), m)
      refine mj_pcall hC rfl (bp_at_x (Nat.le_trans (by decide) hd) (by decide)) ?_
      show P (102, [some (.ref 1), some (.int v1), some (.int v2), some (.int v3), some (.int v4), some (.int v5), some (.int s0)], [.int (fx_at m 43 v5)], (110, x), m)
      refine mj_gcp hC 2 ?_
      show P (mj_pick 121 106 ((fx_at m 43 v5) < v1), [some (.ref 1), some (.int v1), some (.int v2), some (.int v3), some (.int v4), some (.int v5), some (.int s0)], [], (110, x), m)
      refine mj_pbr (fun c9 => ?_) (fun c9 => ?_)
      · rw [if_pos c9] at h
        exact mj_less hC (L0 := [some (.ref 1), some (.int v1), some (.int v2), some (.int v3), some (.int v4), some (.int v5), none]) (And.intro rfl (And.intro rfl (And.intro rfl (And.intro rfl (And.intro rfl (And.intro rfl trivial)))))) (bp_strange_j121l40_x hC hd (by decide) h h0 h1)
      · rw [if_neg c9] at h
        refine mj_gcp hC 3 ?_
        show P (mj_pick 112 121 (s0 = v2), [some (.ref 1), some (.int v1), some (.int v2), some (.int v3), some (.int v4), some (.int v5), some (.int s0)], [], (110, x), m)
        refine mj_pbr (fun c10 => ?_) (fun c10 => ?_)
        · rw [if_pos c10] at h
          refine mj_gcp hC 6 ?_
          show P (121, [some (.ref 1), some (.int v1), some (.int v2), some (.int v3), some (.int (v4 ||| (1 <<< (v5 &&& 31)))), some (.int v5), some (.int s0)], [], (110, x), m)
          exact mj_less hC (L0 := [some (.ref 1), some (.int v1), some (.int v2), some (.int v3), some (.int (v4 ||| (1 <<< (v5 &&& 31)))), some (.int v5), none]) (And.intro rfl (And.intro rfl (And.intro rfl (And.intro rfl (And.intro rfl (And.intro rfl trivial)))))) (bp_strange_j121l40_x hC hd (by decide) h h0 h1)
        · rw [if_neg c10] at h
          exact mj_less hC (L0 := [some (.ref 1), some (.int v1), some (.int v2), some (.int v3), some (.int v4), some (.int v5), none]) (And.intro rfl (And.intro rfl (And.intro rfl (And.intro rfl (And.intro rfl (And.intro rfl trivial)))))) (bp_strange_j121l40_x hC hd (by decide) h h0 h1)
set_option maxRecDepth 20000 in
theorem bp_strange_l40_x {Ls tp ip x d : Nat} {Z : mj_X} {R : Option Value → mj_G → mj_M → Prop} {P : mj_K → Prop} (hC : mj_cls false (mj_sh Ls) (mj_rf tp ip) mj_dv mj_cd_37 (mj_Ex false (mj_sh Ls) (mj_rf tp ip) Z d) R P) (hd : 3 ≤ d) (htp : tp = 3 ∨ tp = 17) {v1 : Int32} {v2 : Int32} {v3 : Int32} {m : mj_M} (s40 : (Int32 × Int32)) {t : Nat} {w : (Int32 × Int32)} (h : bp_strange_l40 tp v1 v2 v3 m s40 = some (t, w)) (h0 : t = 0 → P (40, [some (.ref 1), some (.int v1), some (.int v2), some (.int v3), some (.int w.1), some (.int w.2), none], [], (110, x), m)) (h1 : t = 1 → P (127, [none, none, none, none, some (.int w.1), none, none], [], (110, x), m)) : P (40, [some (.ref 1), some (.int v1), some (.int v2), some (.int v3), some (.int s40.1), some (.int s40.2), none], [], (110, x), m) := by
  unfold bp_strange_l40 at h
  rcases htp with rfl | rfl
  all_goals
    refine mj_gcp hC 5 ?_
    show P (mj_pick 127 52 ((mj_I (m _ 0)) ≤ s40.2), [some (.ref 1), some (.int v1), some (.int v2), some (.int v3), some (.int s40.1), some (.int s40.2), none], [], (110, x), m)
    refine mj_pbr (fun c6 => ?_) (fun c6 => ?_)
    · rw [if_pos c6] at h
      cases h
      exact mj_less hC (L0 := [none, none, none, none, some (.int s40.1), none, none]) (And.intro rfl trivial) (h1 rfl)
    · rw [if_neg c6] at h
      refine mj_gcp hC 4 ?_
      show P (61, [some (.ref 1), some (.int v1), some (.int v2), some (.int v3), some (.int s40.1), some (.int s40.2), none], [.int s40.2, .ref _], (110, x), m)
      refine mj_pcall hC rfl (bp_at_x (Nat.le_trans (by decide) hd) (by decide)) ?_
      show P (64, [some (.ref 1), some (.int v1), some (.int v2), some (.int v3), some (.int s40.1), some (.int s40.2), none], [.int (fx_at m _ s40.2)], (110, x), m)
      refine mj_gcp hC 2 ?_
      show P (mj_pick 72 68 (v3 ≤ (fx_at m _ s40.2)), [some (.ref 1), some (.int v1), some (.int v2), some (.int v3), some (.int s40.1), some (.int s40.2), none], [], (110, x), m)
      refine mj_pbr (fun c7 => ?_) (fun c7 => ?_)
      · rw [if_pos c7] at h
        refine mj_gcp hC 1 ?_
        show P (73, [some (.ref 1), some (.int v1), some (.int v2), some (.int v3), some (.int s40.1), some (.int s40.2), none], [.int 1], (110, x), m)
        exact mj_less hC (L0 := [some (.ref 1), some (.int v1), some (.int v2), some (.int v3), some (.int s40.1), some (.int s40.2), none]) (And.intro rfl (And.intro rfl (And.intro rfl (And.intro rfl (And.intro rfl (And.intro rfl trivial)))))) (bp_strange_j73l40_x hC hd (by decide) h h0 h1)
      · rw [if_neg c7] at h
        refine mj_gcp hC 2 ?_
        show P (73, [some (.ref 1), some (.int v1), some (.int v2), some (.int v3), some (.int s40.1), some (.int s40.2), none], [.int 0], (110, x), m)
        exact mj_less hC (L0 := [some (.ref 1), some (.int v1), some (.int v2), some (.int v3), some (.int s40.1), some (.int s40.2), none]) (And.intro rfl (And.intro rfl (And.intro rfl (And.intro rfl (And.intro rfl (And.intro rfl trivial)))))) (bp_strange_j73l40_x hC hd (by decide) h h0 h1)
set_option maxRecDepth 20000 in
theorem bp_strange_p {Ls tp ip x d : Nat} {Z : mj_X} {R : Option Value → mj_G → mj_M → Prop} {P : mj_K → Prop} (hC : mj_cls false (mj_sh Ls) (mj_rf tp ip) mj_dv mj_cd_37 (mj_Ex false (mj_sh Ls) (mj_rf tp ip) Z d) R P) (hd : 3 ≤ d) (htp : tp = 3 ∨ tp = 17) {v1 : Int32} {v2 : Int32} {m : mj_M} {r : Int32} (h : bp_strange tp v1 v2 m = some r) (hR : R (some (.int r)) (110, x) m) : P (0, [some (.ref 1), some (.int v1), some (.int v2), none, none, none, none], [], (110, x), m) := by
  unfold bp_strange at h
  rcases htp with rfl | rfl
  all_goals
    refine mj_gcp hC 2 ?_
    show P (mj_pick 20 4 (v1 < 0), [some (.ref 1), some (.int v1), some (.int v2), none, none, none, none], [], (110, x), m)
    refine mj_pbr (fun c1 => ?_) (fun c1 => ?_)
    · rw [if_pos c1] at h
      refine mj_gcp hC 1 ?_
      show P (21, [some (.ref 1), some (.int v1), some (.int v2), none, none, none, none], [.int (-1)], (110, x), m)
      cases h
      exact mj_pret hC rfl hR
    · rw [if_neg c1] at h
      refine mj_gcp hC 3 ?_
      show P (mj_pick 20 11 (9999 < v1), [some (.ref 1), some (.int v1), some (.int v2), none, none, none, none], [], (110, x), m)
      refine mj_pbr (fun c2 => ?_) (fun c2 => ?_)
      · rw [if_pos c2] at h
        refine mj_gcp hC 1 ?_
        show P (21, [some (.ref 1), some (.int v1), some (.int v2), none, none, none, none], [.int (-1)], (110, x), m)
        cases h
        exact mj_pret hC rfl hR
      · rw [if_neg c2] at h
        refine mj_gcp hC 2 ?_
        show P (mj_pick 20 15 (v2 < 0), [some (.ref 1), some (.int v1), some (.int v2), none, none, none, none], [], (110, x), m)
        refine mj_pbr (fun c3 => ?_) (fun c3 => ?_)
        · rw [if_pos c3] at h
          refine mj_gcp hC 1 ?_
          show P (21, [some (.ref 1), some (.int v1), some (.int v2), none, none, none, none], [.int (-1)], (110, x), m)
          cases h
          exact mj_pret hC rfl hR
        · rw [if_neg c3] at h
          refine mj_gcp hC 3 ?_
          show P (mj_pick 22 20 (v2 ≤ 1), [some (.ref 1), some (.int v1), some (.int v2), none, none, none, none], [], (110, x), m)
          refine mj_pbr (fun c4 => ?_) (fun c4 => ?_)
          · rw [if_pos c4] at h
            refine mj_gcp hC 4 ?_
            show P (30, [some (.ref 1), some (.int v1), some (.int v2), none, none, none, none], [.ref 42, .ref 37], (110, x), m)
            obtain ⟨q5, eq5, h⟩ := mj_bnd h
            refine mj_pcall hC rfl (ck_plainBeat_x (Nat.le_trans (by decide) hd) (by decide) (by decide) eq5) ?_
            show P (33, [some (.ref 1), some (.int v1), some (.int v2), none, none, none, none], [.int q5], (110, x), m)
            refine mj_gcp hC 5 ?_
            show P (40, [some (.ref 1), some (.int v1), some (.int v2), some (.int q5), some (.int 0), some (.int 0), none], [], (110, x), m)
            obtain ⟨q11, eq11, h⟩ := mj_bnd h
            refine mj_less hC (L0 := [some (.ref 1), some (.int v1), some (.int v2), some (.int q5), some (.int 0), some (.int 0), none]) (And.intro rfl (And.intro rfl (And.intro rfl (And.intro rfl (And.intro rfl (And.intro rfl trivial)))))) ?_
            refine mj_loop_P (A := fun z40 => P (40, [some (.ref 1), some (.int v1), some (.int v2), some (.int q5), some (.int z40.1), some (.int z40.2), none], [], (110, x), m)) (E := fun _ z40 => P (127, [none, none, none, none, some (.int z40.1), none, none], [], (110, x), m)) (fun zz t w hb h0 h1 => bp_strange_l40_x hC hd (by decide) zz hb h0 (fun ht => h1 0 ht)) mj_F _ q11 eq11 ?_
            refine mj_gcp hC 1 ?_
            show P (129, [none, none, none, none, some (.int q11.2.1), none, none], [.int q11.2.1], (110, x), m)
            cases h
            exact mj_pret hC rfl hR
          · rw [if_neg c4] at h
            refine mj_gcp hC 1 ?_
            show P (21, [some (.ref 1), some (.int v1), some (.int v2), none, none, none, none], [.int (-1)], (110, x), m)
            cases h
            exact mj_pret hC rfl hR
set_option maxRecDepth 20000 in
theorem bp_strange_x {Ls tp ip x d : Nat} {Z : mj_X} (hd : 4 ≤ d) (htp : tp = 3 ∨ tp = 17) {v1 : Int32} {v2 : Int32} {m : mj_M} {r : Int32} (h : bp_strange tp v1 v2 m = some r) : mj_Ex false (mj_sh Ls) (mj_rf tp ip) Z d 37 [.ref 1, .int v1, .int v2] (110, x) m (some (.int r)) (110, x) m := by
  exact mj_Ex_of (cd := mj_cd_37) (L := [some (.ref 1), some (.int v1), some (.int v2), none, none, none, none]) (by omega) (by decide) rfl (Nat.le_of_ble_eq_true rfl) rfl (fun P hC => bp_strange_p hC (by omega) htp h ⟨rfl, rfl, rfl⟩)
def bp_goOn (tp : Nat)  (m : mj_M) : Option Int32 :=
  (ck_plainBeat tp 42 m).bind fun q1 =>
  (ck_goingOn tp 42 q1 m).bind fun q2 =>
  some q2
set_option maxRecDepth 20000 in
theorem bp_goOn_p {Ls tp ip x d : Nat} {Z : mj_X} {R : Option Value → mj_G → mj_M → Prop} {P : mj_K → Prop} (hC : mj_cls false (mj_sh Ls) (mj_rf tp ip) mj_dv mj_cd_39 (mj_Ex false (mj_sh Ls) (mj_rf tp ip) Z d) R P) (hd : 3 ≤ d) (htp : tp = 3 ∨ tp = 17)  {m : mj_M} {r : Int32} (h : bp_goOn tp m = some r) (hR : R (some (.int r)) (110, x) m) : P (0, [some (.ref 1)], [], (110, x), m) := by
  unfold bp_goOn at h
  rcases htp with rfl | rfl
  all_goals
    refine mj_gcp hC 8 ?_
    show P (16, [some (.ref 1)], [.ref 42, .ref 37, .ref 42, .ref 37], (110, x), m)
    obtain ⟨q1, eq1, h⟩ := mj_bnd h
    refine mj_pcall hC rfl (ck_plainBeat_x (Nat.le_trans (by decide) hd) (by decide) (by decide) eq1) ?_
    show P (19, [some (.ref 1)], [.int q1, .ref 42, .ref 37], (110, x), m)
    obtain ⟨q2, eq2, h⟩ := mj_bnd h
    refine mj_pcall hC rfl (ck_goingOn_x (Nat.le_trans (by decide) hd) (by decide) (by decide) eq2) ?_
    show P (22, [some (.ref 1)], [.int q2], (110, x), m)
    cases h
    exact mj_pret hC rfl hR
set_option maxRecDepth 20000 in
theorem bp_goOn_x {Ls tp ip x d : Nat} {Z : mj_X} (hd : 4 ≤ d) (htp : tp = 3 ∨ tp = 17)  {m : mj_M} {r : Int32} (h : bp_goOn tp m = some r) : mj_Ex false (mj_sh Ls) (mj_rf tp ip) Z d 39 [.ref 1] (110, x) m (some (.int r)) (110, x) m := by
  exact mj_Ex_of (cd := mj_cd_39) (L := [some (.ref 1)]) (by omega) (by decide) rfl (Nat.le_of_ble_eq_true rfl) rfl (fun P hC => bp_goOn_p hC (by omega) htp h ⟨rfl, rfl, rfl⟩)
def bp_count (tp : Nat) (v1 : Int32) (m : mj_M) : Option Int32 :=
  (if v1 = 0 then some (mj_I (m tp 0)) else
  (if v1 = 1 then (to_tieCount tp m).bind fun q3 =>
  some q3 else
  (if v1 = 2 then some (mj_I (m tp 5)) else
  (if v1 = 3 then some (mj_I (m tp 16)) else
  (if v1 = 4 then some (mj_I (m 42 0)) else
  (if v1 = 5 then some (mj_I (m 42 1)) else
  (if v1 = 6 then some (mj_I (m 42 2)) else
  (if v1 = 7 then (sa_doneCount 42 (mj_I (m tp 5)) m).bind fun q10 =>
  some q10 else
  (if v1 = 8 then (sa_allSlips 42 m).bind fun q12 =>
  some q12 else
  (if v1 = 9 then (sa_hiccupping 42 m).bind fun q14 =>
  some q14 else
  (if v1 = 10 then some (ig_bitCount (mj_I (m 42 4)) m) else
  (if v1 = 11 then some (mj_I (m 61 0)) else
  (if v1 = 12 then some (si_knownCount m) else
  (if v1 = 13 then some (mj_I (m 57 0)) else
  some (-1)))))))))))))))
set_option maxRecDepth 20000 in
theorem bp_count_p {Ls tp ip x d : Nat} {Z : mj_X} {R : Option Value → mj_G → mj_M → Prop} {P : mj_K → Prop} (hC : mj_cls false (mj_sh Ls) (mj_rf tp ip) mj_dv mj_cd_52 (mj_Ex false (mj_sh Ls) (mj_rf tp ip) Z d) R P) (hd : 4 ≤ d) (htp : tp = 3 ∨ tp = 17) {v1 : Int32} {m : mj_M} {r : Int32} (h : bp_count tp v1 m = some r) (hR : R (some (.int r)) (110, x) m) : P (0, [some (.ref 1), some (.int v1)], [], (110, x), m) := by
  unfold bp_count at h
  rcases htp with rfl | rfl
  all_goals
    refine mj_gcp hC 2 ?_
    show P ((mj_sw v1 [(0, 72), (1, 80), (2, 88), (3, 96), (4, 104), (5, 112), (6, 120), (7, 128), (8, 143), (9, 151), (10, 159), (11, 170), (12, 178), (13, 186)] 194), [some (.ref 1), some (.int v1)], [], (110, x), m)
    refine mj_psw (fun c1 => ?_) (fun c1 => ?_)
    · rw [if_pos c1] at h
      refine mj_gcp hC 3 ?_
      show P (79, [some (.ref 1), some (.int v1)], [.int (mj_I (m _ 0))], (110, x), m)
      cases h
      exact mj_pret hC rfl hR
    · rw [if_neg c1] at h
      refine mj_psw (fun c2 => ?_) (fun c2 => ?_)
      · rw [if_pos c2] at h
        refine mj_gcp hC 2 ?_
        show P (84, [some (.ref 1), some (.int v1)], [.ref _], (110, x), m)
        obtain ⟨q3, eq3, h⟩ := mj_bnd h
        refine mj_pcall hC rfl (to_tieCount_x (Nat.le_trans (by decide) hd) (by decide) eq3) ?_
        show P (87, [some (.ref 1), some (.int v1)], [.int q3], (110, x), m)
        cases h
        exact mj_pret hC rfl hR
      · rw [if_neg c2] at h
        refine mj_psw (fun c4 => ?_) (fun c4 => ?_)
        · rw [if_pos c4] at h
          refine mj_gcp hC 3 ?_
          show P (95, [some (.ref 1), some (.int v1)], [.int (mj_I (m _ 5))], (110, x), m)
          cases h
          exact mj_pret hC rfl hR
        · rw [if_neg c4] at h
          refine mj_psw (fun c5 => ?_) (fun c5 => ?_)
          · rw [if_pos c5] at h
            refine mj_gcp hC 3 ?_
            show P (103, [some (.ref 1), some (.int v1)], [.int (mj_I (m _ 16))], (110, x), m)
            cases h
            exact mj_pret hC rfl hR
          · rw [if_neg c5] at h
            refine mj_psw (fun c6 => ?_) (fun c6 => ?_)
            · rw [if_pos c6] at h
              refine mj_gcp hC 3 ?_
              show P (111, [some (.ref 1), some (.int v1)], [.int (mj_I (m 42 0))], (110, x), m)
              cases h
              exact mj_pret hC rfl hR
            · rw [if_neg c6] at h
              refine mj_psw (fun c7 => ?_) (fun c7 => ?_)
              · rw [if_pos c7] at h
                refine mj_gcp hC 3 ?_
                show P (119, [some (.ref 1), some (.int v1)], [.int (mj_I (m 42 1))], (110, x), m)
                cases h
                exact mj_pret hC rfl hR
              · rw [if_neg c7] at h
                refine mj_psw (fun c8 => ?_) (fun c8 => ?_)
                · rw [if_pos c8] at h
                  refine mj_gcp hC 3 ?_
                  show P (127, [some (.ref 1), some (.int v1)], [.int (mj_I (m 42 2))], (110, x), m)
                  cases h
                  exact mj_pret hC rfl hR
                · rw [if_neg c8] at h
                  refine mj_psw (fun c9 => ?_) (fun c9 => ?_)
                  · rw [if_pos c9] at h
                    refine mj_gcp hC 5 ?_
                    show P (139, [some (.ref 1), some (.int v1)], [.int (mj_I (m _ 5)), .ref 42], (110, x), m)
                    obtain ⟨q10, eq10, h⟩ := mj_bnd h
                    refine mj_pcall hC rfl (sa_doneCount_x (Nat.le_trans (by decide) hd) (by decide) eq10) ?_
                    show P (142, [some (.ref 1), some (.int v1)], [.int q10], (110, x), m)
                    cases h
                    exact mj_pret hC rfl hR
                  · rw [if_neg c9] at h
                    refine mj_psw (fun c11 => ?_) (fun c11 => ?_)
                    · rw [if_pos c11] at h
                      refine mj_gcp hC 2 ?_
                      show P (147, [some (.ref 1), some (.int v1)], [.ref 42], (110, x), m)
                      obtain ⟨q12, eq12, h⟩ := mj_bnd h
                      refine mj_pcall hC rfl (sa_allSlips_x (Nat.le_trans (by decide) hd) (by decide) eq12) ?_
                      show P (150, [some (.ref 1), some (.int v1)], [.int q12], (110, x), m)
                      cases h
                      exact mj_pret hC rfl hR
                    · rw [if_neg c11] at h
                      refine mj_psw (fun c13 => ?_) (fun c13 => ?_)
                      · rw [if_pos c13] at h
                        refine mj_gcp hC 2 ?_
                        show P (155, [some (.ref 1), some (.int v1)], [.ref 42], (110, x), m)
                        obtain ⟨q14, eq14, h⟩ := mj_bnd h
                        refine mj_pcall hC rfl (sa_hiccupping_x (Nat.le_trans (by decide) hd) (by decide) eq14) ?_
                        show P (158, [some (.ref 1), some (.int v1)], [.int q14], (110, x), m)
                        cases h
                        exact mj_pret hC rfl hR
                      · rw [if_neg c13] at h
                        refine mj_psw (fun c15 => ?_) (fun c15 => ?_)
                        · rw [if_pos c15] at h
                          refine mj_gcp hC 3 ?_
                          show P (166, [some (.ref 1), some (.int v1)], [.int (mj_I (m 42 4))], (110, x), m)
                          refine mj_pcall hC rfl (ig_bitCount_x (Nat.le_trans (by decide) hd)) ?_
                          show P (169, [some (.ref 1), some (.int v1)], [.int (ig_bitCount (mj_I (m 42 4)) m)], (110, x), m)
                          cases h
                          exact mj_pret hC rfl hR
                        · rw [if_neg c15] at h
                          refine mj_psw (fun c16 => ?_) (fun c16 => ?_)
                          · rw [if_pos c16] at h
                            refine mj_gcp hC 3 ?_
                            show P (177, [some (.ref 1), some (.int v1)], [.int (mj_I (m 61 0))], (110, x), m)
                            cases h
                            exact mj_pret hC rfl hR
                          · rw [if_neg c16] at h
                            refine mj_psw (fun c17 => ?_) (fun c17 => ?_)
                            · rw [if_pos c17] at h
                              refine mj_gcp hC 2 ?_
                              show P (182, [some (.ref 1), some (.int v1)], [.ref 61], (110, x), m)
                              refine mj_pcall hC rfl (si_knownCount_x (Nat.le_trans (by decide) hd)) ?_
                              show P (185, [some (.ref 1), some (.int v1)], [.int (si_knownCount m)], (110, x), m)
                              cases h
                              exact mj_pret hC rfl hR
                            · rw [if_neg c17] at h
                              refine mj_psw (fun c18 => ?_) (fun c18 => ?_)
                              · rw [if_pos c18] at h
                                refine mj_gcp hC 3 ?_
                                show P (193, [some (.ref 1), some (.int v1)], [.int (mj_I (m 57 0))], (110, x), m)
                                cases h
                                exact mj_pret hC rfl hR
                              · rw [if_neg c18] at h
                                show P (194, [some (.ref 1), some (.int v1)], [], (110, x), m)
                                refine mj_gcp hC 1 ?_
                                show P (195, [some (.ref 1), some (.int v1)], [.int (-1)], (110, x), m)
                                cases h
                                exact mj_pret hC rfl hR
set_option maxRecDepth 20000 in
theorem bp_count_x {Ls tp ip x d : Nat} {Z : mj_X} (hd : 5 ≤ d) (htp : tp = 3 ∨ tp = 17) {v1 : Int32} {m : mj_M} {r : Int32} (h : bp_count tp v1 m = some r) : mj_Ex false (mj_sh Ls) (mj_rf tp ip) Z d 52 [.ref 1, .int v1] (110, x) m (some (.int r)) (110, x) m := by
  exact mj_Ex_of (cd := mj_cd_52) (L := [some (.ref 1), some (.int v1)]) (by omega) (by decide) rfl (Nat.le_of_ble_eq_true rfl) rfl (fun P hC => bp_count_p hC (by omega) htp h ⟨rfl, rfl, rfl⟩)
def rd_take  (v1 : Int32) (m : mj_M) : Option mj_M :=
  (if (rd_sees v1 m) = 0 then (rd_refuse 1 m).bind fun q2 =>
  some q2 else
  (tk_step m).bind fun q3 =>
  some q3)
set_option maxRecDepth 20000 in
theorem rd_take_p {Ls tp ip x d : Nat} {Z : mj_X} {R : Option Value → mj_G → mj_M → Prop} {P : mj_K → Prop} (hC : mj_cls false (mj_sh Ls) (mj_rf tp ip) mj_dv mj_cd_76 (mj_Ex false (mj_sh Ls) (mj_rf tp ip) Z d) R P) (hd : 2 ≤ d) {v1 : Int32} {m : mj_M} {r : mj_M} (h : rd_take v1 m = some r) (hR : R none (110, x) r) : P (0, [some (.ref 31), some (.int v1)], [], (110, x), m) := by
  unfold rd_take at h
  refine mj_gcp hC 2 ?_
  show P (2, [some (.ref 31), some (.int v1)], [.int v1, .ref 31], (110, x), m)
  refine mj_pcall hC rfl (rd_sees_x (Nat.le_trans (by decide) hd)) ?_
  show P (5, [some (.ref 31), some (.int v1)], [.int (rd_sees v1 m)], (110, x), m)
  refine mj_gcp hC 1 ?_
  show P (mj_pick 18 8 ((rd_sees v1 m) = 0), [some (.ref 31), some (.int v1)], [], (110, x), m)
  refine mj_pbr (fun c1 => ?_) (fun c1 => ?_)
  · rw [if_pos c1] at h
    refine mj_gcp hC 2 ?_
    show P (20, [some (.ref 31), some (.int v1)], [.int 1, .ref 31], (110, x), m)
    obtain ⟨q2, eq2, h⟩ := mj_bnd h
    refine mj_pcall hC rfl (rd_refuse_x (Nat.le_trans (by decide) hd) eq2) ?_
    show P (23, [some (.ref 31), some (.int v1)], [], (110, x), q2)
    cases h
    exact mj_pret hC rfl hR
  · rw [if_neg c1] at h
    refine mj_gcp hC 2 ?_
    show P (12, [some (.ref 31), some (.int v1)], [.ref 32], (110, x), m)
    obtain ⟨q3, eq3, h⟩ := mj_bnd h
    refine mj_pcall hC rfl (tk_step_x (Nat.le_trans (by decide) hd) eq3) ?_
    show P (15, [some (.ref 31), some (.int v1)], [], (110, x), q3)
    refine mj_gcp hC 1 ?_
    show P (23, [some (.ref 31), some (.int v1)], [], (110, x), q3)
    cases h
    exact mj_pret hC rfl hR
set_option maxRecDepth 20000 in
theorem rd_take_x {Ls tp ip x d : Nat} {Z : mj_X} (hd : 3 ≤ d) {v1 : Int32} {m : mj_M} {r : mj_M} (h : rd_take v1 m = some r) : mj_Ex false (mj_sh Ls) (mj_rf tp ip) Z d 76 [.ref 31, .int v1] (110, x) m none (110, x) r := by
  exact mj_Ex_of (cd := mj_cd_76) (L := [some (.ref 31), some (.int v1)]) (by omega) (by decide) rfl (Nat.le_of_ble_eq_true rfl) rfl (fun P hC => rd_take_p hC (by omega) h ⟨rfl, rfl, rfl⟩)
def rd_takeUnless  (v1 : Int32) (v2 : Int32) (m : mj_M) : Option mj_M :=
  (if v1 < v2 then (tk_step m).bind fun q2 =>
  some q2 else
  (rd_refuse 2 m).bind fun q3 =>
  some q3)
set_option maxRecDepth 20000 in
theorem rd_takeUnless_p {Ls tp ip x d : Nat} {Z : mj_X} {R : Option Value → mj_G → mj_M → Prop} {P : mj_K → Prop} (hC : mj_cls false (mj_sh Ls) (mj_rf tp ip) mj_dv mj_cd_78 (mj_Ex false (mj_sh Ls) (mj_rf tp ip) Z d) R P) (hd : 2 ≤ d) {v1 : Int32} {v2 : Int32} {m : mj_M} {r : mj_M} (h : rd_takeUnless v1 v2 m = some r) (hR : R none (110, x) r) : P (0, [some (.ref 31), some (.int v1), some (.int v2)], [], (110, x), m) := by
  unfold rd_takeUnless at h
  refine mj_gcp hC 3 ?_
  show P (mj_pick 13 5 (v1 < v2), [some (.ref 31), some (.int v1), some (.int v2)], [], (110, x), m)
  refine mj_pbr (fun c1 => ?_) (fun c1 => ?_)
  · rw [if_pos c1] at h
    refine mj_gcp hC 2 ?_
    show P (17, [some (.ref 31), some (.int v1), some (.int v2)], [.ref 32], (110, x), m)
    obtain ⟨q2, eq2, h⟩ := mj_bnd h
    refine mj_pcall hC rfl (tk_step_x (Nat.le_trans (by decide) hd) eq2) ?_
    show P (20, [some (.ref 31), some (.int v1), some (.int v2)], [], (110, x), q2)
    cases h
    exact mj_pret hC rfl hR
  · rw [if_neg c1] at h
    refine mj_gcp hC 2 ?_
    show P (7, [some (.ref 31), some (.int v1), some (.int v2)], [.int 2, .ref 31], (110, x), m)
    obtain ⟨q3, eq3, h⟩ := mj_bnd h
    refine mj_pcall hC rfl (rd_refuse_x (Nat.le_trans (by decide) hd) eq3) ?_
    show P (10, [some (.ref 31), some (.int v1), some (.int v2)], [], (110, x), q3)
    refine mj_gcp hC 1 ?_
    show P (20, [some (.ref 31), some (.int v1), some (.int v2)], [], (110, x), q3)
    cases h
    exact mj_pret hC rfl hR
set_option maxRecDepth 20000 in
theorem rd_takeUnless_x {Ls tp ip x d : Nat} {Z : mj_X} (hd : 3 ≤ d) {v1 : Int32} {v2 : Int32} {m : mj_M} {r : mj_M} (h : rd_takeUnless v1 v2 m = some r) : mj_Ex false (mj_sh Ls) (mj_rf tp ip) Z d 78 [.ref 31, .int v1, .int v2] (110, x) m none (110, x) r := by
  exact mj_Ex_of (cd := mj_cd_78) (L := [some (.ref 31), some (.int v1), some (.int v2)]) (by omega) (by decide) rfl (Nat.le_of_ble_eq_true rfl) rfl (fun P hC => rd_takeUnless_p hC (by omega) h ⟨rfl, rfl, rfl⟩)
def rd_readTie_j70 (ip : Nat) (v1 : Int32) (v2 : Int32)  (m : mj_M) : Option mj_M :=
  (rd_take 21 m).bind fun q12 =>
  (if (mj_I (q12 31 4)) = 0 then (to_addTie ip v1 v2 q12).bind fun q14 =>
  some q14 else
  some q12)
def rd_readTie_j53 (ip : Nat) (v1 : Int32) (v2 : Int32)  (m : mj_M) : Option mj_M :=
  (if (mj_I (m 31 4)) = 0 then (if v1 = v2 then (rd_refuse 5 m).bind fun q11 =>
  rd_readTie_j70 ip v1 v2 q11 else
  rd_readTie_j70 ip v1 v2 m) else
  rd_readTie_j70 ip v1 v2 m)
def rd_readTie (ip : Nat)  (m : mj_M) : Option mj_M :=
  (to_tieCount ip m).bind fun q1 =>
  (rd_takeUnless q1 9 m).bind fun q2 =>
  (rd_findPerson ip q2).bind fun q3 =>
  (rd_take 21 q3.2).bind fun q4 =>
  (rd_findPerson ip q4).bind fun q5 =>
  (if (mj_I (q5.2 31 4)) = 0 then (to_areTied ip q3.1 q5.1 q5.2).bind fun q7 =>
  (if q7 = 0 then rd_readTie_j53 ip q3.1 q5.1 q5.2 else
  (rd_refuse 3 q5.2).bind fun q15 =>
  rd_readTie_j53 ip q3.1 q5.1 q15) else
  rd_readTie_j53 ip q3.1 q5.1 q5.2)
set_option maxRecDepth 20000 in
theorem rd_readTie_j70_x {Ls tp ip x d : Nat} {Z : mj_X} {R : Option Value → mj_G → mj_M → Prop} {P : mj_K → Prop} (hC : mj_cls false (mj_sh Ls) (mj_rf tp ip) mj_dv mj_cd_80 (mj_Ex false (mj_sh Ls) (mj_rf tp ip) Z d) R P) (hd : 3 ≤ d) (hip : ip = 3 ∨ ip = 17) {v1 : Int32} {v2 : Int32}  {m : mj_M} {r : mj_M} (h : rd_readTie_j70 ip v1 v2 m = some r) (hR : R none (110, x) r) : P (70, [some (.ref 31), some (.int v1), some (.int v2)], [], (110, x), m) := by
  unfold rd_readTie_j70 at h
  rcases hip with rfl | rfl
  all_goals
    refine mj_gcp hC 2 ?_
    show P (73, [some (.ref 31), some (.int v1), some (.int v2)], [.int 21, .ref 31], (110, x), m)
    obtain ⟨q12, eq12, h⟩ := mj_bnd h
    refine mj_pcall hC rfl (rd_take_x (Nat.le_trans (by decide) hd) eq12) ?_
    show P (76, [some (.ref 31), some (.int v1), some (.int v2)], [], (110, x), q12)
    refine mj_gcp hC 3 ?_
    show P (mj_pick 83 92 ((mj_I (q12 31 4)) = 0), [some (.ref 31), some (.int v1), some (.int v2)], [], (110, x), q12)
    refine mj_pbr (fun c13 => ?_) (fun c13 => ?_)
    · rw [if_pos c13] at h
      refine mj_gcp hC 4 ?_
      show P (89, [some (.ref 31), some (.int v1), some (.int v2)], [.int v2, .int v1, .ref _], (110, x), q12)
      obtain ⟨q14, eq14, h⟩ := mj_bnd h
      refine mj_pcall hC rfl (to_addTie_x (Nat.le_trans (by decide) hd) (by decide) eq14) ?_
      show P (92, [some (.ref 31), some (.int v1), some (.int v2)], [], (110, x), q14)
      cases h
      exact mj_pret hC rfl hR
    · rw [if_neg c13] at h
      cases h
      exact mj_pret hC rfl hR
set_option maxRecDepth 20000 in
theorem rd_readTie_j53_x {Ls tp ip x d : Nat} {Z : mj_X} {R : Option Value → mj_G → mj_M → Prop} {P : mj_K → Prop} (hC : mj_cls false (mj_sh Ls) (mj_rf tp ip) mj_dv mj_cd_80 (mj_Ex false (mj_sh Ls) (mj_rf tp ip) Z d) R P) (hd : 3 ≤ d) (hip : ip = 3 ∨ ip = 17) {v1 : Int32} {v2 : Int32}  {m : mj_M} {r : mj_M} (h : rd_readTie_j53 ip v1 v2 m = some r) (hR : R none (110, x) r) : P (53, [some (.ref 31), some (.int v1), some (.int v2)], [], (110, x), m) := by
  unfold rd_readTie_j53 at h
  rcases hip with rfl | rfl
  all_goals
    refine mj_gcp hC 3 ?_
    show P (mj_pick 60 70 ((mj_I (m 31 4)) = 0), [some (.ref 31), some (.int v1), some (.int v2)], [], (110, x), m)
    refine mj_pbr (fun c9 => ?_) (fun c9 => ?_)
    · rw [if_pos c9] at h
      refine mj_gcp hC 3 ?_
      show P (mj_pick 65 70 (v1 = v2), [some (.ref 31), some (.int v1), some (.int v2)], [], (110, x), m)
      refine mj_pbr (fun c10 => ?_) (fun c10 => ?_)
      · rw [if_pos c10] at h
        refine mj_gcp hC 2 ?_
        show P (67, [some (.ref 31), some (.int v1), some (.int v2)], [.int 5, .ref 31], (110, x), m)
        obtain ⟨q11, eq11, h⟩ := mj_bnd h
        refine mj_pcall hC rfl (rd_refuse_x (Nat.le_trans (by decide) hd) eq11) ?_
        show P (70, [some (.ref 31), some (.int v1), some (.int v2)], [], (110, x), q11)
        exact mj_less hC (L0 := [some (.ref 31), some (.int v1), some (.int v2)]) (And.intro rfl (And.intro rfl (And.intro rfl trivial))) (rd_readTie_j70_x hC hd (by decide) h hR)
      · rw [if_neg c10] at h
        exact mj_less hC (L0 := [some (.ref 31), some (.int v1), some (.int v2)]) (And.intro rfl (And.intro rfl (And.intro rfl trivial))) (rd_readTie_j70_x hC hd (by decide) h hR)
    · rw [if_neg c9] at h
      exact mj_less hC (L0 := [some (.ref 31), some (.int v1), some (.int v2)]) (And.intro rfl (And.intro rfl (And.intro rfl trivial))) (rd_readTie_j70_x hC hd (by decide) h hR)
set_option maxRecDepth 20000 in
theorem rd_readTie_p {Ls tp ip x d : Nat} {Z : mj_X} {R : Option Value → mj_G → mj_M → Prop} {P : mj_K → Prop} (hC : mj_cls false (mj_sh Ls) (mj_rf tp ip) mj_dv mj_cd_80 (mj_Ex false (mj_sh Ls) (mj_rf tp ip) Z d) R P) (hd : 3 ≤ d) (hip : ip = 3 ∨ ip = 17)  {m : mj_M} {r : mj_M} (h : rd_readTie ip m = some r) (hR : R none (110, x) r) : P (0, [some (.ref 31), none, none], [], (110, x), m) := by
  unfold rd_readTie at h
  rcases hip with rfl | rfl
  all_goals
    refine mj_gcp hC 3 ?_
    show P (5, [some (.ref 31), none, none], [.ref _, .ref 31], (110, x), m)
    obtain ⟨q1, eq1, h⟩ := mj_bnd h
    refine mj_pcall hC rfl (to_tieCount_x (Nat.le_trans (by decide) hd) (by decide) eq1) ?_
    show P (8, [some (.ref 31), none, none], [.int q1, .ref 31], (110, x), m)
    refine mj_gcp hC 1 ?_
    show P (10, [some (.ref 31), none, none], [.int 9, .int q1, .ref 31], (110, x), m)
    obtain ⟨q2, eq2, h⟩ := mj_bnd h
    refine mj_pcall hC rfl (rd_takeUnless_x (Nat.le_trans (by decide) hd) eq2) ?_
    show P (13, [some (.ref 31), none, none], [], (110, x), q2)
    refine mj_gcp hC 1 ?_
    show P (14, [some (.ref 31), none, none], [.ref 31], (110, x), q2)
    obtain ⟨q3, eq3, h⟩ := mj_bnd h
    refine mj_pcall hC rfl (rd_findPerson_x (Nat.le_trans (by decide) hd) (by decide) eq3) ?_
    show P (17, [some (.ref 31), none, none], [.int q3.1], (110, x), q3.2)
    refine mj_gcp hC 3 ?_
    show P (21, [some (.ref 31), some (.int q3.1), none], [.int 21, .ref 31], (110, x), q3.2)
    obtain ⟨q4, eq4, h⟩ := mj_bnd h
    refine mj_pcall hC rfl (rd_take_x (Nat.le_trans (by decide) hd) eq4) ?_
    show P (24, [some (.ref 31), some (.int q3.1), none], [], (110, x), q4)
    refine mj_gcp hC 1 ?_
    show P (25, [some (.ref 31), some (.int q3.1), none], [.ref 31], (110, x), q4)
    obtain ⟨q5, eq5, h⟩ := mj_bnd h
    refine mj_pcall hC rfl (rd_findPerson_x (Nat.le_trans (by decide) hd) (by decide) eq5) ?_
    show P (28, [some (.ref 31), some (.int q3.1), none], [.int q5.1], (110, x), q5.2)
    refine mj_gcp hC 4 ?_
    show P (mj_pick 36 53 ((mj_I (q5.2 31 4)) = 0), [some (.ref 31), some (.int q3.1), some (.int q5.1)], [], (110, x), q5.2)
    refine mj_pbr (fun c6 => ?_) (fun c6 => ?_)
    · rw [if_pos c6] at h
      refine mj_gcp hC 4 ?_
      show P (42, [some (.ref 31), some (.int q3.1), some (.int q5.1)], [.int q5.1, .int q3.1, .ref _], (110, x), q5.2)
      obtain ⟨q7, eq7, h⟩ := mj_bnd h
      refine mj_pcall hC rfl (to_areTied_x (Nat.le_trans (by decide) hd) (by decide) eq7) ?_
      show P (45, [some (.ref 31), some (.int q3.1), some (.int q5.1)], [.int q7], (110, x), q5.2)
      refine mj_gcp hC 1 ?_
      show P (mj_pick 53 48 (q7 = 0), [some (.ref 31), some (.int q3.1), some (.int q5.1)], [], (110, x), q5.2)
      refine mj_pbr (fun c8 => ?_) (fun c8 => ?_)
      · rw [if_pos c8] at h
        exact mj_less hC (L0 := [some (.ref 31), some (.int q3.1), some (.int q5.1)]) (And.intro rfl (And.intro rfl (And.intro rfl trivial))) (rd_readTie_j53_x hC hd (by decide) h hR)
      · rw [if_neg c8] at h
        refine mj_gcp hC 2 ?_
        show P (50, [some (.ref 31), some (.int q3.1), some (.int q5.1)], [.int 3, .ref 31], (110, x), q5.2)
        obtain ⟨q15, eq15, h⟩ := mj_bnd h
        refine mj_pcall hC rfl (rd_refuse_x (Nat.le_trans (by decide) hd) eq15) ?_
        show P (53, [some (.ref 31), some (.int q3.1), some (.int q5.1)], [], (110, x), q15)
        exact mj_less hC (L0 := [some (.ref 31), some (.int q3.1), some (.int q5.1)]) (And.intro rfl (And.intro rfl (And.intro rfl trivial))) (rd_readTie_j53_x hC hd (by decide) h hR)
    · rw [if_neg c6] at h
      exact mj_less hC (L0 := [some (.ref 31), some (.int q3.1), some (.int q5.1)]) (And.intro rfl (And.intro rfl (And.intro rfl trivial))) (rd_readTie_j53_x hC hd (by decide) h hR)
set_option maxRecDepth 20000 in
theorem rd_readTie_x {Ls tp ip x d : Nat} {Z : mj_X} (hd : 4 ≤ d) (hip : ip = 3 ∨ ip = 17)  {m : mj_M} {r : mj_M} (h : rd_readTie ip m = some r) : mj_Ex false (mj_sh Ls) (mj_rf tp ip) Z d 80 [.ref 31] (110, x) m none (110, x) r := by
  exact mj_Ex_of (cd := mj_cd_80) (L := [some (.ref 31), none, none]) (by omega) (by decide) rfl (Nat.le_of_ble_eq_true rfl) rfl (fun P hC => rd_readTie_p hC (by omega) hip h ⟨rfl, rfl, rfl⟩)
def rd_takeOnce   (m : mj_M) : Option mj_M :=
  (if (bp_has (mj_I (m 31 2)) (mj_I (m 32 6)) m) = 0 then (tk_step (mj_up m 31 2 (.int ((mj_I (m 31 2)) ||| (1 <<< ((mj_I (m 32 6)) &&& 31)))))).bind fun q2 =>
  some q2 else
  (rd_refuse 3 m).bind fun q3 =>
  some q3)
set_option maxRecDepth 20000 in
theorem rd_takeOnce_p {Ls tp ip x d : Nat} {Z : mj_X} {R : Option Value → mj_G → mj_M → Prop} {P : mj_K → Prop} (hC : mj_cls false (mj_sh Ls) (mj_rf tp ip) mj_dv mj_cd_84 (mj_Ex false (mj_sh Ls) (mj_rf tp ip) Z d) R P) (hd : 2 ≤ d)  {m : mj_M} {r : mj_M} (h : rd_takeOnce m = some r) (hR : R none (110, x) r) : P (0, [some (.ref 31)], [], (110, x), m) := by
  unfold rd_takeOnce at h
  refine mj_gcp hC 5 ?_
  show P (11, [some (.ref 31)], [.int (mj_I (m 32 6)), .int (mj_I (m 31 2))], (110, x), m)
  refine mj_pcall hC rfl (bp_has_x (Nat.le_trans (by decide) hd)) ?_
  show P (14, [some (.ref 31)], [.int (bp_has (mj_I (m 31 2)) (mj_I (m 32 6)) m)], (110, x), m)
  refine mj_gcp hC 1 ?_
  show P (mj_pick 25 17 ((bp_has (mj_I (m 31 2)) (mj_I (m 32 6)) m) = 0), [some (.ref 31)], [], (110, x), m)
  refine mj_pbr (fun c1 => ?_) (fun c1 => ?_)
  · rw [if_pos c1] at h
    refine mj_gcp hC 12 ?_
    show P (47, [some (.ref 31)], [.ref 32], (110, x), (mj_up m 31 2 (.int ((mj_I (m 31 2)) ||| (1 <<< ((mj_I (m 32 6)) &&& 31))))))
    obtain ⟨q2, eq2, h⟩ := mj_bnd h
    refine mj_pcall hC rfl (tk_step_x (Nat.le_trans (by decide) hd) eq2) ?_
    show P (50, [some (.ref 31)], [], (110, x), q2)
    cases h
    exact mj_pret hC rfl hR
  · rw [if_neg c1] at h
    refine mj_gcp hC 2 ?_
    show P (19, [some (.ref 31)], [.int 3, .ref 31], (110, x), m)
    obtain ⟨q3, eq3, h⟩ := mj_bnd h
    refine mj_pcall hC rfl (rd_refuse_x (Nat.le_trans (by decide) hd) eq3) ?_
    show P (22, [some (.ref 31)], [], (110, x), q3)
    refine mj_gcp hC 1 ?_
    show P (50, [some (.ref 31)], [], (110, x), q3)
    cases h
    exact mj_pret hC rfl hR
set_option maxRecDepth 20000 in
theorem rd_takeOnce_x {Ls tp ip x d : Nat} {Z : mj_X} (hd : 3 ≤ d)  {m : mj_M} {r : mj_M} (h : rd_takeOnce m = some r) : mj_Ex false (mj_sh Ls) (mj_rf tp ip) Z d 84 [.ref 31] (110, x) m none (110, x) r := by
  exact mj_Ex_of (cd := mj_cd_84) (L := [some (.ref 31)]) (by omega) (by decide) rfl (Nat.le_of_ble_eq_true rfl) rfl (fun P hC => rd_takeOnce_p hC (by omega) h ⟨rfl, rfl, rfl⟩)
def rd_readNumber_j31  (v3 : Int32)  (m : mj_M) : Option (Int32 × mj_M) :=
  (rd_take 22 m).bind fun q2 =>
  some (v3, q2)
def rd_readNumber  (v1 : Int32) (v2 : Int32) (m : mj_M) : Option (Int32 × mj_M) :=
  (if (rd_sees 22 m) = 0 then rd_readNumber_j31 (mj_I (m 32 8)) m else
  (if (bp_isWithin (mj_I (m 32 8)) v1 v2 m) = 0 then (rd_refuse 2 m).bind fun q4 =>
  rd_readNumber_j31 (mj_I (m 32 8)) q4 else
  rd_readNumber_j31 (mj_I (m 32 8)) m))
set_option maxRecDepth 20000 in
theorem rd_readNumber_j31_x {Ls tp ip x d : Nat} {Z : mj_X} {R : Option Value → mj_G → mj_M → Prop} {P : mj_K → Prop} (hC : mj_cls false (mj_sh Ls) (mj_rf tp ip) mj_dv mj_cd_86 (mj_Ex false (mj_sh Ls) (mj_rf tp ip) Z d) R P) (hd : 3 ≤ d) {v3 : Int32}  {m : mj_M} {r : (Int32 × mj_M)} (h : rd_readNumber_j31 v3 m = some r) (hR : R (some (.int r.1)) (110, x) r.2) : P (31, [some (.ref 31), none, none, some (.int v3)], [], (110, x), m) := by
  unfold rd_readNumber_j31 at h
  refine mj_gcp hC 2 ?_
  show P (34, [some (.ref 31), none, none, some (.int v3)], [.int 22, .ref 31], (110, x), m)
  obtain ⟨q2, eq2, h⟩ := mj_bnd h
  refine mj_pcall hC rfl (rd_take_x (Nat.le_trans (by decide) hd) eq2) ?_
  show P (37, [some (.ref 31), none, none, some (.int v3)], [], (110, x), q2)
  refine mj_gcp hC 1 ?_
  show P (38, [some (.ref 31), none, none, some (.int v3)], [.int v3], (110, x), q2)
  cases h
  exact mj_pret hC rfl hR
set_option maxRecDepth 20000 in
theorem rd_readNumber_p {Ls tp ip x d : Nat} {Z : mj_X} {R : Option Value → mj_G → mj_M → Prop} {P : mj_K → Prop} (hC : mj_cls false (mj_sh Ls) (mj_rf tp ip) mj_dv mj_cd_86 (mj_Ex false (mj_sh Ls) (mj_rf tp ip) Z d) R P) (hd : 3 ≤ d) {v1 : Int32} {v2 : Int32} {m : mj_M} {r : (Int32 × mj_M)} (h : rd_readNumber v1 v2 m = some r) (hR : R (some (.int r.1)) (110, x) r.2) : P (0, [some (.ref 31), some (.int v1), some (.int v2), none], [], (110, x), m) := by
  unfold rd_readNumber at h
  refine mj_gcp hC 6 ?_
  show P (11, [some (.ref 31), some (.int v1), some (.int v2), some (.int (mj_I (m 32 8)))], [.int 22, .ref 31], (110, x), m)
  refine mj_pcall hC rfl (rd_sees_x (Nat.le_trans (by decide) hd)) ?_
  show P (14, [some (.ref 31), some (.int v1), some (.int v2), some (.int (mj_I (m 32 8)))], [.int (rd_sees 22 m)], (110, x), m)
  refine mj_gcp hC 1 ?_
  show P (mj_pick 31 17 ((rd_sees 22 m) = 0), [some (.ref 31), some (.int v1), some (.int v2), some (.int (mj_I (m 32 8)))], [], (110, x), m)
  refine mj_pbr (fun c1 => ?_) (fun c1 => ?_)
  · rw [if_pos c1] at h
    exact mj_less hC (L0 := [some (.ref 31), none, none, some (.int (mj_I (m 32 8)))]) (And.intro rfl (And.intro rfl trivial)) (rd_readNumber_j31_x hC hd h hR)
  · rw [if_neg c1] at h
    refine mj_gcp hC 3 ?_
    show P (20, [some (.ref 31), some (.int v1), some (.int v2), some (.int (mj_I (m 32 8)))], [.int v2, .int v1, .int (mj_I (m 32 8))], (110, x), m)
    refine mj_pcall hC rfl (bp_isWithin_x (Nat.le_trans (by decide) hd)) ?_
    show P (23, [some (.ref 31), some (.int v1), some (.int v2), some (.int (mj_I (m 32 8)))], [.int (bp_isWithin (mj_I (m 32 8)) v1 v2 m)], (110, x), m)
    refine mj_gcp hC 1 ?_
    show P (mj_pick 26 31 ((bp_isWithin (mj_I (m 32 8)) v1 v2 m) = 0), [some (.ref 31), some (.int v1), some (.int v2), some (.int (mj_I (m 32 8)))], [], (110, x), m)
    refine mj_pbr (fun c3 => ?_) (fun c3 => ?_)
    · rw [if_pos c3] at h
      refine mj_gcp hC 2 ?_
      show P (28, [some (.ref 31), some (.int v1), some (.int v2), some (.int (mj_I (m 32 8)))], [.int 2, .ref 31], (110, x), m)
      obtain ⟨q4, eq4, h⟩ := mj_bnd h
      refine mj_pcall hC rfl (rd_refuse_x (Nat.le_trans (by decide) hd) eq4) ?_
      show P (31, [some (.ref 31), some (.int v1), some (.int v2), some (.int (mj_I (m 32 8)))], [], (110, x), q4)
      exact mj_less hC (L0 := [some (.ref 31), none, none, some (.int (mj_I (m 32 8)))]) (And.intro rfl (And.intro rfl trivial)) (rd_readNumber_j31_x hC hd h hR)
    · rw [if_neg c3] at h
      exact mj_less hC (L0 := [some (.ref 31), none, none, some (.int (mj_I (m 32 8)))]) (And.intro rfl (And.intro rfl trivial)) (rd_readNumber_j31_x hC hd h hR)
set_option maxRecDepth 20000 in
theorem rd_readNumber_x {Ls tp ip x d : Nat} {Z : mj_X} (hd : 4 ≤ d) {v1 : Int32} {v2 : Int32} {m : mj_M} {r : (Int32 × mj_M)} (h : rd_readNumber v1 v2 m = some r) : mj_Ex false (mj_sh Ls) (mj_rf tp ip) Z d 86 [.ref 31, .int v1, .int v2] (110, x) m (some (.int r.1)) (110, x) r.2 := by
  exact mj_Ex_of (cd := mj_cd_86) (L := [some (.ref 31), some (.int v1), some (.int v2), none]) (by omega) (by decide) rfl (Nat.le_of_ble_eq_true rfl) rfl (fun P hC => rd_readNumber_p hC (by omega) h ⟨rfl, rfl, rfl⟩)
def rd_readNewName_j32 (np : Nat) (v3 : Int32)  (m : mj_M) : Option (Int32 × mj_M) :=
  (rd_take 21 m).bind fun q2 =>
  some (v3, q2)
def rd_readNewName (np : Nat) (v2 : Int32) (m : mj_M) : Option (Int32 × mj_M) :=
  (if (rd_sees 21 m) = 0 then rd_readNewName_j32 np (mj_I (m 32 8)) m else
  (if (fx_find m np v2 (mj_I (m 32 8))) = (-1) then rd_readNewName_j32 np (mj_I (m 32 8)) m else
  (rd_refuse 3 m).bind fun q4 =>
  rd_readNewName_j32 np (mj_I (m 32 8)) q4))
set_option maxRecDepth 20000 in
theorem rd_readNewName_j32_x {Ls tp ip x d : Nat} {Z : mj_X} {R : Option Value → mj_G → mj_M → Prop} {P : mj_K → Prop} (hC : mj_cls false (mj_sh Ls) (mj_rf tp ip) mj_dv mj_cd_87 (mj_Ex false (mj_sh Ls) (mj_rf tp ip) Z d) R P) (hd : 3 ≤ d) {np : Nat} (hnp : np = 4 ∨ np = 18 ∨ np = 8 ∨ np = 22) {v3 : Int32}  {m : mj_M} {r : (Int32 × mj_M)} (h : rd_readNewName_j32 np v3 m = some r) (hR : R (some (.int r.1)) (110, x) r.2) : P (32, [some (.ref 31), none, none, some (.int v3)], [], (110, x), m) := by
  unfold rd_readNewName_j32 at h
  rcases hnp with rfl | rfl | rfl | rfl
  all_goals
    refine mj_gcp hC 2 ?_
    show P (35, [some (.ref 31), none, none, some (.int v3)], [.int 21, .ref 31], (110, x), m)
    obtain ⟨q2, eq2, h⟩ := mj_bnd h
    refine mj_pcall hC rfl (rd_take_x (Nat.le_trans (by decide) hd) eq2) ?_
    show P (38, [some (.ref 31), none, none, some (.int v3)], [], (110, x), q2)
    refine mj_gcp hC 1 ?_
    show P (39, [some (.ref 31), none, none, some (.int v3)], [.int v3], (110, x), q2)
    cases h
    exact mj_pret hC rfl hR
set_option maxRecDepth 20000 in
theorem rd_readNewName_p {Ls tp ip x d : Nat} {Z : mj_X} {R : Option Value → mj_G → mj_M → Prop} {P : mj_K → Prop} (hC : mj_cls false (mj_sh Ls) (mj_rf tp ip) mj_dv mj_cd_87 (mj_Ex false (mj_sh Ls) (mj_rf tp ip) Z d) R P) (hd : 3 ≤ d) {np : Nat} (hnp : np = 4 ∨ np = 18 ∨ np = 8 ∨ np = 22) {v2 : Int32} {m : mj_M} {r : (Int32 × mj_M)} (h : rd_readNewName np v2 m = some r) (hR : R (some (.int r.1)) (110, x) r.2) : P (0, [some (.ref 31), some (.ref np), some (.int v2), none], [], (110, x), m) := by
  unfold rd_readNewName at h
  rcases hnp with rfl | rfl | rfl | rfl
  all_goals
    refine mj_gcp hC 6 ?_
    show P (11, [some (.ref 31), some (.ref _), some (.int v2), some (.int (mj_I (m 32 8)))], [.int 21, .ref 31], (110, x), m)
    refine mj_pcall hC rfl (rd_sees_x (Nat.le_trans (by decide) hd)) ?_
    show P (14, [some (.ref 31), some (.ref _), some (.int v2), some (.int (mj_I (m 32 8)))], [.int (rd_sees 21 m)], (110, x), m)
    refine mj_gcp hC 1 ?_
    show P (mj_pick 32 17 ((rd_sees 21 m) = 0), [some (.ref 31), some (.ref _), some (.int v2), some (.int (mj_I (m 32 8)))], [], (110, x), m)
    refine mj_pbr (fun c1 => ?_) (fun c1 => ?_)
    · rw [if_pos c1] at h
      exact mj_less hC (L0 := [some (.ref 31), none, none, some (.int (mj_I (m 32 8)))]) (And.intro rfl (And.intro rfl trivial)) (rd_readNewName_j32_x hC hd (by decide) h hR)
    · rw [if_neg c1] at h
      refine mj_gcp hC 3 ?_
      show P (20, [some (.ref 31), some (.ref _), some (.int v2), some (.int (mj_I (m 32 8)))], [.int (mj_I (m 32 8)), .int v2, .ref _], (110, x), m)
      refine mj_pcall hC rfl (bp_find_x (Nat.le_trans (by decide) hd) (by decide)) ?_
      show P (23, [some (.ref 31), some (.ref _), some (.int v2), some (.int (mj_I (m 32 8)))], [.int (fx_find m _ v2 (mj_I (m 32 8)))], (110, x), m)
      refine mj_gcp hC 2 ?_
      show P (mj_pick 32 27 ((fx_find m _ v2 (mj_I (m 32 8))) = (-1)), [some (.ref 31), some (.ref _), some (.int v2), some (.int (mj_I (m 32 8)))], [], (110, x), m)
      refine mj_pbr (fun c3 => ?_) (fun c3 => ?_)
      · rw [if_pos c3] at h
        exact mj_less hC (L0 := [some (.ref 31), none, none, some (.int (mj_I (m 32 8)))]) (And.intro rfl (And.intro rfl trivial)) (rd_readNewName_j32_x hC hd (by decide) h hR)
      · rw [if_neg c3] at h
        refine mj_gcp hC 2 ?_
        show P (29, [some (.ref 31), some (.ref _), some (.int v2), some (.int (mj_I (m 32 8)))], [.int 3, .ref 31], (110, x), m)
        obtain ⟨q4, eq4, h⟩ := mj_bnd h
        refine mj_pcall hC rfl (rd_refuse_x (Nat.le_trans (by decide) hd) eq4) ?_
        show P (32, [some (.ref 31), some (.ref _), some (.int v2), some (.int (mj_I (m 32 8)))], [], (110, x), q4)
        exact mj_less hC (L0 := [some (.ref 31), none, none, some (.int (mj_I (m 32 8)))]) (And.intro rfl (And.intro rfl trivial)) (rd_readNewName_j32_x hC hd (by decide) h hR)
set_option maxRecDepth 20000 in
theorem rd_readNewName_x {Ls tp ip x d : Nat} {Z : mj_X} (hd : 4 ≤ d) {np : Nat} (hnp : np = 4 ∨ np = 18 ∨ np = 8 ∨ np = 22) {v2 : Int32} {m : mj_M} {r : (Int32 × mj_M)} (h : rd_readNewName np v2 m = some r) : mj_Ex false (mj_sh Ls) (mj_rf tp ip) Z d 87 [.ref 31, .ref np, .int v2] (110, x) m (some (.int r.1)) (110, x) r.2 := by
  exact mj_Ex_of (cd := mj_cd_87) (L := [some (.ref 31), some (.ref np), some (.int v2), none]) (by omega) (by decide) rfl (Nat.le_of_ble_eq_true rfl) rfl (fun P hC => rd_readNewName_p hC (by omega) hnp h ⟨rfl, rfl, rfl⟩)
def rd_takeKnot_j14    (m : mj_M) : Option mj_M :=
  (if (mj_I (m 31 4)) = 0 then (tk_step (mj_up m 31 3 (.int ((mj_I (m 31 3)) + 1)))).bind fun q3 =>
  some q3 else
  some m)
def rd_takeKnot   (m : mj_M) : Option mj_M :=
  (if (mj_I (m 31 3)) < 64 then rd_takeKnot_j14 m else
  (rd_refuse 2 m).bind fun q4 =>
  rd_takeKnot_j14 q4)
set_option maxRecDepth 20000 in
theorem rd_takeKnot_j14_x {Ls tp ip x d : Nat} {Z : mj_X} {R : Option Value → mj_G → mj_M → Prop} {P : mj_K → Prop} (hC : mj_cls false (mj_sh Ls) (mj_rf tp ip) mj_dv mj_cd_89 (mj_Ex false (mj_sh Ls) (mj_rf tp ip) Z d) R P) (hd : 2 ≤ d)   {m : mj_M} {r : mj_M} (h : rd_takeKnot_j14 m = some r) (hR : R none (110, x) r) : P (14, [some (.ref 31)], [], (110, x), m) := by
  unfold rd_takeKnot_j14 at h
  refine mj_gcp hC 3 ?_
  show P (mj_pick 21 38 ((mj_I (m 31 4)) = 0), [some (.ref 31)], [], (110, x), m)
  refine mj_pbr (fun c2 => ?_) (fun c2 => ?_)
  · rw [if_pos c2] at h
    refine mj_gcp hC 8 ?_
    show P (35, [some (.ref 31)], [.ref 32], (110, x), (mj_up m 31 3 (.int ((mj_I (m 31 3)) + 1))))
    obtain ⟨q3, eq3, h⟩ := mj_bnd h
    refine mj_pcall hC rfl (tk_step_x (Nat.le_trans (by decide) hd) eq3) ?_
    show P (38, [some (.ref 31)], [], (110, x), q3)
    cases h
    exact mj_pret hC rfl hR
  · rw [if_neg c2] at h
    cases h
    exact mj_pret hC rfl hR
set_option maxRecDepth 20000 in
theorem rd_takeKnot_p {Ls tp ip x d : Nat} {Z : mj_X} {R : Option Value → mj_G → mj_M → Prop} {P : mj_K → Prop} (hC : mj_cls false (mj_sh Ls) (mj_rf tp ip) mj_dv mj_cd_89 (mj_Ex false (mj_sh Ls) (mj_rf tp ip) Z d) R P) (hd : 2 ≤ d)  {m : mj_M} {r : mj_M} (h : rd_takeKnot m = some r) (hR : R none (110, x) r) : P (0, [some (.ref 31)], [], (110, x), m) := by
  unfold rd_takeKnot at h
  refine mj_gcp hC 4 ?_
  show P (mj_pick 14 9 ((mj_I (m 31 3)) < 64), [some (.ref 31)], [], (110, x), m)
  refine mj_pbr (fun c1 => ?_) (fun c1 => ?_)
  · rw [if_pos c1] at h
    exact mj_less hC (L0 := [some (.ref 31)]) (And.intro rfl trivial) (rd_takeKnot_j14_x hC hd h hR)
  · rw [if_neg c1] at h
    refine mj_gcp hC 2 ?_
    show P (11, [some (.ref 31)], [.int 2, .ref 31], (110, x), m)
    obtain ⟨q4, eq4, h⟩ := mj_bnd h
    refine mj_pcall hC rfl (rd_refuse_x (Nat.le_trans (by decide) hd) eq4) ?_
    show P (14, [some (.ref 31)], [], (110, x), q4)
    exact mj_less hC (L0 := [some (.ref 31)]) (And.intro rfl trivial) (rd_takeKnot_j14_x hC hd h hR)
set_option maxRecDepth 20000 in
theorem rd_takeKnot_x {Ls tp ip x d : Nat} {Z : mj_X} (hd : 3 ≤ d)  {m : mj_M} {r : mj_M} (h : rd_takeKnot m = some r) : mj_Ex false (mj_sh Ls) (mj_rf tp ip) Z d 89 [.ref 31] (110, x) m none (110, x) r := by
  exact mj_Ex_of (cd := mj_cd_89) (L := [some (.ref 31)]) (by omega) (by decide) rfl (Nat.le_of_ble_eq_true rfl) rfl (fun P hC => rd_takeKnot_p hC (by omega) h ⟨rfl, rfl, rfl⟩)
def tk_split_j112l10   (v2 : Int32) (v3 : Int32) (v4 : Int32)  (m : mj_M) : Option (Nat × (Int32 × Int32 × mj_M)) :=
  some (0, (v3, (v4 + 1), m))
def tk_split_j80l10   (v2 : Int32) (v3 : Int32) (v4 : Int32)  (m : mj_M) : Option (Nat × (Int32 × Int32 × mj_M)) :=
  tk_split_j112l10 v2 (v3 + 1) v4 m
def tk_split_j107l10   (v2 : Int32) (v3 : Int32) (v4 : Int32) (s1 : Int32) (s2 : Int32) (m : mj_M) : Option (Nat × (Int32 × Int32 × mj_M)) :=
  (tk_cutSign s1 s2 v3 m).bind fun q8 =>
  tk_split_j112l10 v2 q8.1 v4 q8.2
def tk_split_l10  (v2 : Int32) (s10 : (Int32 × Int32 × mj_M)) : Option (Nat × (Int32 × Int32 × mj_M)) :=
  (if v2 ≤ s10.2.1 then some (1, (s10.1, s10.2.1, s10.2.2)) else
  (if v2 ≤ s10.1 then some (1, (s10.1, s10.2.1, s10.2.2)) else
  (if (tk_isLetter (fx_at s10.2.2 2 s10.1) s10.2.2) = 0 then (if (tk_isDigit (fx_at s10.2.2 2 s10.1) s10.2.2) = 0 then (if (fx_at s10.2.2 2 s10.1) = 32 then tk_split_j80l10 v2 s10.1 s10.2.1 s10.2.2 else
  (if (fx_at s10.2.2 2 s10.1) = 10 then tk_split_j80l10 v2 s10.1 s10.2.1 s10.2.2 else
  (if v2 ≤ (s10.1 + 1) then tk_split_j107l10 v2 s10.1 s10.2.1 (fx_at s10.2.2 2 s10.1) 0 s10.2.2 else
  tk_split_j107l10 v2 s10.1 s10.2.1 (fx_at s10.2.2 2 s10.1) (fx_at s10.2.2 2 (s10.1 + 1)) s10.2.2))) else
  (tk_cutNumber s10.1 v2 s10.2.2).bind fun q9 =>
  tk_split_j112l10 v2 q9.1 s10.2.1 q9.2) else
  (tk_cutWord s10.1 v2 s10.2.2).bind fun q10 =>
  tk_split_j112l10 v2 q10.1 s10.2.1 q10.2)))
def tk_split_j118  (v2 : Int32)  (m : mj_M) : Option mj_M :=
  (tk_add 23 v2 0 m).bind fun q12 =>
  (tk_step (mj_up q12 32 5 (.int (-1)))).bind fun q13 =>
  some q13
def tk_split  (v2 : Int32) (m : mj_M) : Option mj_M :=
  (mj_loop (tk_split_l10 v2) mj_F (0, 0, (mj_up m 32 4 (.int 0)))).bind fun q11 =>
  tk_split_j118 v2 q11.2.2.2
set_option maxRecDepth 20000 in
theorem tk_split_j112l10_x {Ls tp ip x d : Nat} {Z : mj_X} {R : Option Value → mj_G → mj_M → Prop} {P : mj_K → Prop} (hC : mj_cls false (mj_sh Ls) (mj_rf tp ip) mj_dv mj_cd_101 (mj_Ex false (mj_sh Ls) (mj_rf tp ip) Z d) R P) (hd : 3 ≤ d)  {v2 : Int32} {v3 : Int32} {v4 : Int32}  {m : mj_M} {t : Nat} {w : (Int32 × Int32 × mj_M)} (h : tk_split_j112l10  v2 v3 v4 m = some (t, w)) (h0 : t = 0 → P (10, [some (.ref 32), some (.ref 2), some (.int v2), some (.int w.1), some (.int w.2.1), none], [], (110, x), w.2.2)) (h1 : t = 1 → P (118, [some (.ref 32), none, some (.int v2), none, none, none], [], (110, x), w.2.2)) : P (112, [some (.ref 32), some (.ref 2), some (.int v2), some (.int v3), some (.int v4), none], [], (110, x), m) := by
  unfold tk_split_j112l10 at h
  refine mj_gcp hC 2 ?_
  show P (10, [some (.ref 32), some (.ref 2), some (.int v2), some (.int v3), some (.int (v4 + 1)), none], [], (110, x), m)
  cases h
  exact mj_less hC (L0 := [some (.ref 32), some (.ref 2), some (.int v2), some (.int v3), some (.int (v4 + 1)), none]) (And.intro rfl (And.intro rfl (And.intro rfl (And.intro rfl (And.intro rfl trivial))))) (h0 rfl)
set_option maxRecDepth 20000 in
theorem tk_split_j80l10_x {Ls tp ip x d : Nat} {Z : mj_X} {R : Option Value → mj_G → mj_M → Prop} {P : mj_K → Prop} (hC : mj_cls false (mj_sh Ls) (mj_rf tp ip) mj_dv mj_cd_101 (mj_Ex false (mj_sh Ls) (mj_rf tp ip) Z d) R P) (hd : 3 ≤ d)  {v2 : Int32} {v3 : Int32} {v4 : Int32}  {m : mj_M} {t : Nat} {w : (Int32 × Int32 × mj_M)} (h : tk_split_j80l10  v2 v3 v4 m = some (t, w)) (h0 : t = 0 → P (10, [some (.ref 32), some (.ref 2), some (.int v2), some (.int w.1), some (.int w.2.1), none], [], (110, x), w.2.2)) (h1 : t = 1 → P (118, [some (.ref 32), none, some (.int v2), none, none, none], [], (110, x), w.2.2)) : P (80, [some (.ref 32), some (.ref 2), some (.int v2), some (.int v3), some (.int v4), none], [], (110, x), m) := by
  unfold tk_split_j80l10 at h
  refine mj_gcp hC 2 ?_
  show P (112, [some (.ref 32), some (.ref 2), some (.int v2), some (.int (v3 + 1)), some (.int v4), none], [], (110, x), m)
  exact mj_less hC (L0 := [some (.ref 32), some (.ref 2), some (.int v2), some (.int (v3 + 1)), some (.int v4), none]) (And.intro rfl (And.intro rfl (And.intro rfl (And.intro rfl (And.intro rfl trivial))))) (tk_split_j112l10_x hC hd h h0 h1)
set_option maxRecDepth 20000 in
theorem tk_split_j107l10_x {Ls tp ip x d : Nat} {Z : mj_X} {R : Option Value → mj_G → mj_M → Prop} {P : mj_K → Prop} (hC : mj_cls false (mj_sh Ls) (mj_rf tp ip) mj_dv mj_cd_101 (mj_Ex false (mj_sh Ls) (mj_rf tp ip) Z d) R P) (hd : 3 ≤ d)  {v2 : Int32} {v3 : Int32} {v4 : Int32} {s1 : Int32} {s2 : Int32} {m : mj_M} {t : Nat} {w : (Int32 × Int32 × mj_M)} (h : tk_split_j107l10  v2 v3 v4 s1 s2 m = some (t, w)) (h0 : t = 0 → P (10, [some (.ref 32), some (.ref 2), some (.int v2), some (.int w.1), some (.int w.2.1), none], [], (110, x), w.2.2)) (h1 : t = 1 → P (118, [some (.ref 32), none, some (.int v2), none, none, none], [], (110, x), w.2.2)) : P (107, [some (.ref 32), some (.ref 2), some (.int v2), some (.int v3), some (.int v4), none], [.int s2, .int s1, .ref 32], (110, x), m) := by
  unfold tk_split_j107l10 at h
  refine mj_gcp hC 1 ?_
  show P (108, [some (.ref 32), some (.ref 2), some (.int v2), some (.int v3), some (.int v4), none], [.int v3, .int s2, .int s1, .ref 32], (110, x), m)
  obtain ⟨q8, eq8, h⟩ := mj_bnd h
  refine mj_pcall hC rfl (tk_cutSign_x (Nat.le_trans (by decide) hd) eq8) ?_
  show P (111, [some (.ref 32), some (.ref 2), some (.int v2), some (.int v3), some (.int v4), none], [.int q8.1], (110, x), q8.2)
  refine mj_gcp hC 1 ?_
  show P (112, [some (.ref 32), some (.ref 2), some (.int v2), some (.int q8.1), some (.int v4), none], [], (110, x), q8.2)
  exact mj_less hC (L0 := [some (.ref 32), some (.ref 2), some (.int v2), some (.int q8.1), some (.int v4), none]) (And.intro rfl (And.intro rfl (And.intro rfl (And.intro rfl (And.intro rfl trivial))))) (tk_split_j112l10_x hC hd h h0 h1)
set_option maxRecDepth 20000 in
theorem tk_split_l10_x {Ls tp ip x d : Nat} {Z : mj_X} {R : Option Value → mj_G → mj_M → Prop} {P : mj_K → Prop} (hC : mj_cls false (mj_sh Ls) (mj_rf tp ip) mj_dv mj_cd_101 (mj_Ex false (mj_sh Ls) (mj_rf tp ip) Z d) R P) (hd : 3 ≤ d) {v2 : Int32} (s10 : (Int32 × Int32 × mj_M)) {t : Nat} {w : (Int32 × Int32 × mj_M)} (h : tk_split_l10 v2 s10 = some (t, w)) (h0 : t = 0 → P (10, [some (.ref 32), some (.ref 2), some (.int v2), some (.int w.1), some (.int w.2.1), none], [], (110, x), w.2.2)) (h1 : t = 1 → P (118, [some (.ref 32), none, some (.int v2), none, none, none], [], (110, x), w.2.2)) : P (10, [some (.ref 32), some (.ref 2), some (.int v2), some (.int s10.1), some (.int s10.2.1), none], [], (110, x), s10.2.2) := by
  unfold tk_split_l10 at h
  refine mj_gcp hC 3 ?_
  show P (mj_pick 118 16 (v2 ≤ s10.2.1), [some (.ref 32), some (.ref 2), some (.int v2), some (.int s10.1), some (.int s10.2.1), none], [], (110, x), s10.2.2)
  refine mj_pbr (fun c1 => ?_) (fun c1 => ?_)
  · rw [if_pos c1] at h
    cases h
    exact mj_less hC (L0 := [some (.ref 32), none, some (.int v2), none, none, none]) (And.intro rfl (And.intro rfl trivial)) (h1 rfl)
  · rw [if_neg c1] at h
    refine mj_gcp hC 3 ?_
    show P (mj_pick 118 21 (v2 ≤ s10.1), [some (.ref 32), some (.ref 2), some (.int v2), some (.int s10.1), some (.int s10.2.1), none], [], (110, x), s10.2.2)
    refine mj_pbr (fun c2 => ?_) (fun c2 => ?_)
    · rw [if_pos c2] at h
      cases h
      exact mj_less hC (L0 := [some (.ref 32), none, some (.int v2), none, none, none]) (And.intro rfl (And.intro rfl trivial)) (h1 rfl)
    · rw [if_neg c2] at h
      refine mj_gcp hC 2 ?_
      show P (23, [some (.ref 32), some (.ref 2), some (.int v2), some (.int s10.1), some (.int s10.2.1), none], [.int s10.1, .ref 2], (110, x), s10.2.2)
      refine mj_pcall hC rfl (bp_at_x (Nat.le_trans (by decide) hd) (by decide)) ?_
      show P (26, [some (.ref 32), some (.ref 2), some (.int v2), some (.int s10.1), some (.int s10.2.1), none], [.int (fx_at s10.2.2 2 s10.1)], (110, x), s10.2.2)
      refine mj_gcp hC 2 ?_
      show P (30, [some (.ref 32), some (.ref 2), some (.int v2), some (.int s10.1), some (.int s10.2.1), some (.int (fx_at s10.2.2 2 s10.1))], [.int (fx_at s10.2.2 2 s10.1)], (110, x), s10.2.2)
      refine mj_pcall hC rfl (tk_isLetter_x (Nat.le_trans (by decide) hd)) ?_
      show P (33, [some (.ref 32), some (.ref 2), some (.int v2), some (.int s10.1), some (.int s10.2.1), some (.int (fx_at s10.2.2 2 s10.1))], [.int (tk_isLetter (fx_at s10.2.2 2 s10.1) s10.2.2)], (110, x), s10.2.2)
      refine mj_gcp hC 1 ?_
      show P (mj_pick 47 36 ((tk_isLetter (fx_at s10.2.2 2 s10.1) s10.2.2) = 0), [some (.ref 32), some (.ref 2), some (.int v2), some (.int s10.1), some (.int s10.2.1), some (.int (fx_at s10.2.2 2 s10.1))], [], (110, x), s10.2.2)
      refine mj_pbr (fun c3 => ?_) (fun c3 => ?_)
      · rw [if_pos c3] at h
        refine mj_gcp hC 1 ?_
        show P (49, [some (.ref 32), some (.ref 2), some (.int v2), some (.int s10.1), some (.int s10.2.1), some (.int (fx_at s10.2.2 2 s10.1))], [.int (fx_at s10.2.2 2 s10.1)], (110, x), s10.2.2)
        refine mj_pcall hC rfl (tk_isDigit_x (Nat.le_trans (by decide) hd)) ?_
        show P (52, [some (.ref 32), some (.ref 2), some (.int v2), some (.int s10.1), some (.int s10.2.1), some (.int (fx_at s10.2.2 2 s10.1))], [.int (tk_isDigit (fx_at s10.2.2 2 s10.1) s10.2.2)], (110, x), s10.2.2)
        refine mj_gcp hC 1 ?_
        show P (mj_pick 66 55 ((tk_isDigit (fx_at s10.2.2 2 s10.1) s10.2.2) = 0), [some (.ref 32), some (.ref 2), some (.int v2), some (.int s10.1), some (.int s10.2.1), some (.int (fx_at s10.2.2 2 s10.1))], [], (110, x), s10.2.2)
        refine mj_pbr (fun c4 => ?_) (fun c4 => ?_)
        · rw [if_pos c4] at h
          refine mj_gcp hC 3 ?_
          show P (mj_pick 80 73 ((fx_at s10.2.2 2 s10.1) = 32), [some (.ref 32), some (.ref 2), some (.int v2), some (.int s10.1), some (.int s10.2.1), some (.int (fx_at s10.2.2 2 s10.1))], [], (110, x), s10.2.2)
          refine mj_pbr (fun c5 => ?_) (fun c5 => ?_)
          · rw [if_pos c5] at h
            exact mj_less hC (L0 := [some (.ref 32), some (.ref 2), some (.int v2), some (.int s10.1), some (.int s10.2.1), none]) (And.intro rfl (And.intro rfl (And.intro rfl (And.intro rfl (And.intro rfl trivial))))) (tk_split_j80l10_x hC hd h h0 h1)
          · rw [if_neg c5] at h
            refine mj_gcp hC 3 ?_
            show P (mj_pick 80 86 ((fx_at s10.2.2 2 s10.1) = 10), [some (.ref 32), some (.ref 2), some (.int v2), some (.int s10.1), some (.int s10.2.1), some (.int (fx_at s10.2.2 2 s10.1))], [], (110, x), s10.2.2)
            refine mj_pbr (fun c6 => ?_) (fun c6 => ?_)
            · rw [if_pos c6] at h
              exact mj_less hC (L0 := [some (.ref 32), some (.ref 2), some (.int v2), some (.int s10.1), some (.int s10.2.1), none]) (And.intro rfl (And.intro rfl (And.intro rfl (And.intro rfl (And.intro rfl trivial))))) (tk_split_j80l10_x hC hd h h0 h1)
            · rw [if_neg c6] at h
              refine mj_gcp hC 7 ?_
              show P (mj_pick 106 96 (v2 ≤ (s10.1 + 1)), [some (.ref 32), some (.ref 2), some (.int v2), some (.int s10.1), some (.int s10.2.1), some (.int (fx_at s10.2.2 2 s10.1))], [.int (fx_at s10.2.2 2 s10.1), .ref 32], (110, x), s10.2.2)
              refine mj_pbr (fun c7 => ?_) (fun c7 => ?_)
              · rw [if_pos c7] at h
                refine mj_gcp hC 1 ?_
                show P (107, [some (.ref 32), some (.ref 2), some (.int v2), some (.int s10.1), some (.int s10.2.1), some (.int (fx_at s10.2.2 2 s10.1))], [.int 0, .int (fx_at s10.2.2 2 s10.1), .ref 32], (110, x), s10.2.2)
                exact mj_less hC (L0 := [some (.ref 32), some (.ref 2), some (.int v2), some (.int s10.1), some (.int s10.2.1), none]) (And.intro rfl (And.intro rfl (And.intro rfl (And.intro rfl (And.intro rfl trivial))))) (tk_split_j107l10_x hC hd h h0 h1)
              · rw [if_neg c7] at h
                refine mj_gcp hC 4 ?_
                show P (100, [some (.ref 32), some (.ref 2), some (.int v2), some (.int s10.1), some (.int s10.2.1), some (.int (fx_at s10.2.2 2 s10.1))], [.int (s10.1 + 1), .ref 2, .int (fx_at s10.2.2 2 s10.1), .ref 32], (110, x), s10.2.2)
                refine mj_pcall hC rfl (bp_at_x (Nat.le_trans (by decide) hd) (by decide)) ?_
                show P (103, [some (.ref 32), some (.ref 2), some (.int v2), some (.int s10.1), some (.int s10.2.1), some (.int (fx_at s10.2.2 2 s10.1))], [.int (fx_at s10.2.2 2 (s10.1 + 1)), .int (fx_at s10.2.2 2 s10.1), .ref 32], (110, x), s10.2.2)
                refine mj_gcp hC 1 ?_
                show P (107, [some (.ref 32), some (.ref 2), some (.int v2), some (.int s10.1), some (.int s10.2.1), some (.int (fx_at s10.2.2 2 s10.1))], [.int (fx_at s10.2.2 2 (s10.1 + 1)), .int (fx_at s10.2.2 2 s10.1), .ref 32], (110, x), s10.2.2)
                exact mj_less hC (L0 := [some (.ref 32), some (.ref 2), some (.int v2), some (.int s10.1), some (.int s10.2.1), none]) (And.intro rfl (And.intro rfl (And.intro rfl (And.intro rfl (And.intro rfl trivial))))) (tk_split_j107l10_x hC hd h h0 h1)
        · rw [if_neg c4] at h
          refine mj_gcp hC 4 ?_
          show P (59, [some (.ref 32), some (.ref 2), some (.int v2), some (.int s10.1), some (.int s10.2.1), some (.int (fx_at s10.2.2 2 s10.1))], [.int v2, .int s10.1, .ref 2, .ref 32], (110, x), s10.2.2)
          obtain ⟨q9, eq9, h⟩ := mj_bnd h
          refine mj_pcall hC rfl (tk_cutNumber_x (Nat.le_trans (by decide) hd) eq9) ?_
          show P (62, [some (.ref 32), some (.ref 2), some (.int v2), some (.int s10.1), some (.int s10.2.1), some (.int (fx_at s10.2.2 2 s10.1))], [.int q9.1], (110, x), q9.2)
          refine mj_gcp hC 2 ?_
          show P (112, [some (.ref 32), some (.ref 2), some (.int v2), some (.int q9.1), some (.int s10.2.1), some (.int (fx_at s10.2.2 2 s10.1))], [], (110, x), q9.2)
          exact mj_less hC (L0 := [some (.ref 32), some (.ref 2), some (.int v2), some (.int q9.1), some (.int s10.2.1), none]) (And.intro rfl (And.intro rfl (And.intro rfl (And.intro rfl (And.intro rfl trivial))))) (tk_split_j112l10_x hC hd h h0 h1)
      · rw [if_neg c3] at h
        refine mj_gcp hC 4 ?_
        show P (40, [some (.ref 32), some (.ref 2), some (.int v2), some (.int s10.1), some (.int s10.2.1), some (.int (fx_at s10.2.2 2 s10.1))], [.int v2, .int s10.1, .ref 2, .ref 32], (110, x), s10.2.2)
        obtain ⟨q10, eq10, h⟩ := mj_bnd h
        refine mj_pcall hC rfl (tk_cutWord_x (Nat.le_trans (by decide) hd) eq10) ?_
        show P (43, [some (.ref 32), some (.ref 2), some (.int v2), some (.int s10.1), some (.int s10.2.1), some (.int (fx_at s10.2.2 2 s10.1))], [.int q10.1], (110, x), q10.2)
        refine mj_gcp hC 2 ?_
        show P (112, [some (.ref 32), some (.ref 2), some (.int v2), some (.int q10.1), some (.int s10.2.1), some (.int (fx_at s10.2.2 2 s10.1))], [], (110, x), q10.2)
        exact mj_less hC (L0 := [some (.ref 32), some (.ref 2), some (.int v2), some (.int q10.1), some (.int s10.2.1), none]) (And.intro rfl (And.intro rfl (And.intro rfl (And.intro rfl (And.intro rfl trivial))))) (tk_split_j112l10_x hC hd h h0 h1)
set_option maxRecDepth 20000 in
theorem tk_split_j118_x {Ls tp ip x d : Nat} {Z : mj_X} {R : Option Value → mj_G → mj_M → Prop} {P : mj_K → Prop} (hC : mj_cls false (mj_sh Ls) (mj_rf tp ip) mj_dv mj_cd_101 (mj_Ex false (mj_sh Ls) (mj_rf tp ip) Z d) R P) (hd : 3 ≤ d) {v2 : Int32}  {m : mj_M} {r : mj_M} (h : tk_split_j118 v2 m = some r) (hR : R none (110, x) r) : P (118, [some (.ref 32), none, some (.int v2), none, none, none], [], (110, x), m) := by
  unfold tk_split_j118 at h
  refine mj_gcp hC 4 ?_
  show P (123, [some (.ref 32), none, some (.int v2), none, none, none], [.int 0, .int v2, .int 23, .ref 32], (110, x), m)
  obtain ⟨q12, eq12, h⟩ := mj_bnd h
  refine mj_pcall hC rfl (tk_add_x (Nat.le_trans (by decide) hd) eq12) ?_
  show P (126, [some (.ref 32), none, some (.int v2), none, none, none], [], (110, x), q12)
  refine mj_gcp hC 4 ?_
  show P (132, [some (.ref 32), none, some (.int v2), none, none, none], [.ref 32], (110, x), (mj_up q12 32 5 (.int (-1))))
  obtain ⟨q13, eq13, h⟩ := mj_bnd h
  refine mj_pcall hC rfl (tk_step_x (Nat.le_trans (by decide) hd) eq13) ?_
  show P (135, [some (.ref 32), none, some (.int v2), none, none, none], [], (110, x), q13)
  cases h
  exact mj_pret hC rfl hR
set_option maxRecDepth 20000 in
theorem tk_split_p {Ls tp ip x d : Nat} {Z : mj_X} {R : Option Value → mj_G → mj_M → Prop} {P : mj_K → Prop} (hC : mj_cls false (mj_sh Ls) (mj_rf tp ip) mj_dv mj_cd_101 (mj_Ex false (mj_sh Ls) (mj_rf tp ip) Z d) R P) (hd : 3 ≤ d) {v2 : Int32} {m : mj_M} {r : mj_M} (h : tk_split v2 m = some r) (hR : R none (110, x) r) : P (0, [some (.ref 32), some (.ref 2), some (.int v2), none, none, none], [], (110, x), m) := by
  unfold tk_split at h
  refine mj_gcp hC 7 ?_
  show P (10, [some (.ref 32), some (.ref 2), some (.int v2), some (.int 0), some (.int 0), none], [], (110, x), (mj_up m 32 4 (.int 0)))
  obtain ⟨q11, eq11, h⟩ := mj_bnd h
  refine mj_less hC (L0 := [some (.ref 32), some (.ref 2), some (.int v2), some (.int 0), some (.int 0), none]) (And.intro rfl (And.intro rfl (And.intro rfl (And.intro rfl (And.intro rfl trivial))))) ?_
  refine mj_loop_P (A := fun z10 => P (10, [some (.ref 32), some (.ref 2), some (.int v2), some (.int z10.1), some (.int z10.2.1), none], [], (110, x), z10.2.2)) (E := fun _ z10 => P (118, [some (.ref 32), none, some (.int v2), none, none, none], [], (110, x), z10.2.2)) (fun zz t w hb h0 h1 => tk_split_l10_x hC hd zz hb h0 (fun ht => h1 0 ht)) mj_F _ q11 eq11 ?_
  exact mj_less hC (L0 := [some (.ref 32), none, some (.int v2), none, none, none]) (And.intro rfl (And.intro rfl trivial)) (tk_split_j118_x hC hd h hR)
set_option maxRecDepth 20000 in
theorem tk_split_x {Ls tp ip x d : Nat} {Z : mj_X} (hd : 4 ≤ d) {v2 : Int32} {m : mj_M} {r : mj_M} (h : tk_split v2 m = some r) : mj_Ex false (mj_sh Ls) (mj_rf tp ip) Z d 101 [.ref 32, .ref 2, .int v2] (110, x) m none (110, x) r := by
  exact mj_Ex_of (cd := mj_cd_101) (L := [some (.ref 32), some (.ref 2), some (.int v2), none, none, none]) (by omega) (by decide) rfl (Nat.le_of_ble_eq_true rfl) rfl (fun P hC => tk_split_p hC (by omega) h ⟨rfl, rfl, rfl⟩)
def rk_value_j106l29 (q : Nat)  (v3 : Int32) (v4 : Int32)  (m : mj_M) : Option (Nat × (Int32 × mj_M)) :=
  some (0, ((v4 + 1), m))
def rk_value_l29 (q : Nat) (v3 : Int32) (s29 : (Int32 × mj_M)) : Option (Nat × (Int32 × mj_M)) :=
  (if v3 ≤ s29.1 then some (1, (s29.1, s29.2)) else
  (if (mj_I (s29.2 38 3)) = 0 then (if 10000 ≤ (fx_at s29.2 (q + 11) s29.1) then (if 20000 ≤ (fx_at s29.2 (q + 11) s29.1) then (rk_join ((fx_at s29.2 (q + 11) s29.1) - 20000) s29.2).bind fun q5 =>
  rk_value_j106l29 q v3 s29.1 q5 else
  (rk_nameValue ((fx_at s29.2 (q + 11) s29.1) - 10000) s29.2).bind fun q6 =>
  (rk_push q6 s29.2).bind fun q7 =>
  rk_value_j106l29 q v3 s29.1 q7) else
  (rk_push ((fx_at s29.2 (q + 11) s29.1).toInt64) s29.2).bind fun q8 =>
  rk_value_j106l29 q v3 s29.1 q8) else
  some (1, (s29.1, s29.2))))
def rk_value_j112 (q : Nat)   (m : mj_M) : Option (Int64 × mj_M) :=
  (rk_pop m).bind fun q10 =>
  (if (mj_I (q10.2 38 3)) = 0 then some (q10.1, q10.2) else
  some ((-9223372036854775808), q10.2))
def rk_value (q : Nat) (v2 : Int32) (m : mj_M) : Option (Int64 × mj_M) :=
  (mj_loop (rk_value_l29 q (fx_at (mj_up (mj_up m 38 2 (.int 0)) 38 3 (.int 0)) (q + 13) v2)) mj_F ((fx_at (mj_up (mj_up m 38 2 (.int 0)) 38 3 (.int 0)) (q + 12) v2), (mj_up (mj_up m 38 2 (.int 0)) 38 3 (.int 0)))).bind fun q9 =>
  rk_value_j112 q q9.2.2
set_option maxRecDepth 20000 in
theorem rk_value_j106l29_x {Ls tp ip x d : Nat} {Z : mj_X} {R : Option Value → mj_G → mj_M → Prop} {P : mj_K → Prop} (hC : mj_cls false (mj_sh Ls) (mj_rf tp ip) mj_dv mj_cd_124 (mj_Ex false (mj_sh Ls) (mj_rf tp ip) Z d) R P) (hd : 2 ≤ d) {q : Nat} (hq : q = 3 ∨ q = 17)  {v3 : Int32} {v4 : Int32}  {m : mj_M} {t : Nat} {w : (Int32 × mj_M)} (h : rk_value_j106l29 q  v3 v4 m = some (t, w)) (h0 : t = 0 → P (29, [some (.ref 38), some (.ref q), none, some (.int v3), some (.int w.1), none], [], (110, x), w.2)) (h1 : t = 1 → P (112, [some (.ref 38), none, none, none, none, none], [], (110, x), w.2)) : P (106, [some (.ref 38), some (.ref q), none, some (.int v3), some (.int v4), none], [], (110, x), m) := by
  unfold rk_value_j106l29 at h
  rcases hq with rfl | rfl
  all_goals
    refine mj_gcp hC 2 ?_
    show P (29, [some (.ref 38), some (.ref _), none, some (.int v3), some (.int (v4 + 1)), none], [], (110, x), m)
    cases h
    exact mj_less hC (L0 := [some (.ref 38), some (.ref _), none, some (.int v3), some (.int (v4 + 1)), none]) (And.intro rfl (And.intro rfl (And.intro rfl (And.intro rfl trivial)))) (h0 rfl)
set_option maxRecDepth 20000 in
theorem rk_value_l29_x {Ls tp ip x d : Nat} {Z : mj_X} {R : Option Value → mj_G → mj_M → Prop} {P : mj_K → Prop} (hC : mj_cls false (mj_sh Ls) (mj_rf tp ip) mj_dv mj_cd_124 (mj_Ex false (mj_sh Ls) (mj_rf tp ip) Z d) R P) (hd : 2 ≤ d) {q : Nat} (hq : q = 3 ∨ q = 17) {v3 : Int32} (s29 : (Int32 × mj_M)) {t : Nat} {w : (Int32 × mj_M)} (h : rk_value_l29 q v3 s29 = some (t, w)) (h0 : t = 0 → P (29, [some (.ref 38), some (.ref q), none, some (.int v3), some (.int w.1), none], [], (110, x), w.2)) (h1 : t = 1 → P (112, [some (.ref 38), none, none, none, none, none], [], (110, x), w.2)) : P (29, [some (.ref 38), some (.ref q), none, some (.int v3), some (.int s29.1), none], [], (110, x), s29.2) := by
  unfold rk_value_l29 at h
  rcases hq with rfl | rfl
  all_goals
    refine mj_gcp hC 3 ?_
    show P (mj_pick 112 35 (v3 ≤ s29.1), [some (.ref 38), some (.ref _), none, some (.int v3), some (.int s29.1), none], [], (110, x), s29.2)
    refine mj_pbr (fun c1 => ?_) (fun c1 => ?_)
    · rw [if_pos c1] at h
      cases h
      exact mj_less hC (L0 := [some (.ref 38), none, none, none, none, none]) (And.intro rfl trivial) (h1 rfl)
    · rw [if_neg c1] at h
      refine mj_gcp hC 3 ?_
      show P (mj_pick 42 112 ((mj_I (s29.2 38 3)) = 0), [some (.ref 38), some (.ref _), none, some (.int v3), some (.int s29.1), none], [], (110, x), s29.2)
      refine mj_pbr (fun c2 => ?_) (fun c2 => ?_)
      · rw [if_pos c2] at h
        refine mj_gcp hC 3 ?_
        show P (48, [some (.ref 38), some (.ref _), none, some (.int v3), some (.int s29.1), none], [.int s29.1, .ref _], (110, x), s29.2)
        refine mj_pcall hC rfl (bp_at_x (Nat.le_trans (by decide) hd) (by decide)) ?_
        show P (51, [some (.ref 38), some (.ref _), none, some (.int v3), some (.int s29.1), none], [.int (fx_at s29.2 _ s29.1)], (110, x), s29.2)
        refine mj_gcp hC 4 ?_
        show P (mj_pick 71 61 (10000 ≤ (fx_at s29.2 _ s29.1)), [some (.ref 38), some (.ref _), none, some (.int v3), some (.int s29.1), some (.int (fx_at s29.2 _ s29.1))], [], (110, x), s29.2)
        refine mj_pbr (fun c3 => ?_) (fun c3 => ?_)
        · rw [if_pos c3] at h
          refine mj_gcp hC 3 ?_
          show P (mj_pick 96 79 (20000 ≤ (fx_at s29.2 _ s29.1)), [some (.ref 38), some (.ref _), none, some (.int v3), some (.int s29.1), some (.int (fx_at s29.2 _ s29.1))], [], (110, x), s29.2)
          refine mj_pbr (fun c4 => ?_) (fun c4 => ?_)
          · rw [if_pos c4] at h
            refine mj_gcp hC 4 ?_
            show P (103, [some (.ref 38), some (.ref _), none, some (.int v3), some (.int s29.1), some (.int (fx_at s29.2 _ s29.1))], [.int ((fx_at s29.2 _ s29.1) - 20000), .ref 38], (110, x), s29.2)
            obtain ⟨q5, eq5, h⟩ := mj_bnd h
            refine mj_pcall hC rfl (rk_join_x (Nat.le_trans (by decide) hd) eq5) ?_
            show P (106, [some (.ref 38), some (.ref _), none, some (.int v3), some (.int s29.1), some (.int (fx_at s29.2 _ s29.1))], [], (110, x), q5)
            exact mj_less hC (L0 := [some (.ref 38), some (.ref _), none, some (.int v3), some (.int s29.1), none]) (And.intro rfl (And.intro rfl (And.intro rfl (And.intro rfl trivial)))) (rk_value_j106l29_x hC hd (by decide) h h0 h1)
          · rw [if_neg c4] at h
            refine mj_gcp hC 5 ?_
            show P (87, [some (.ref 38), some (.ref _), none, some (.int v3), some (.int s29.1), some (.int (fx_at s29.2 _ s29.1))], [.int ((fx_at s29.2 _ s29.1) - 10000), .ref 38, .ref 38], (110, x), s29.2)
            obtain ⟨q6, eq6, h⟩ := mj_bnd h
            refine mj_pcall hC rfl (rk_nameValue_x (Nat.le_trans (by decide) hd) eq6) ?_
            show P (90, [some (.ref 38), some (.ref _), none, some (.int v3), some (.int s29.1), some (.int (fx_at s29.2 _ s29.1))], [.long q6, .ref 38], (110, x), s29.2)
            obtain ⟨q7, eq7, h⟩ := mj_bnd h
            refine mj_pcall hC rfl (rk_push_x (Nat.le_trans (by decide) hd) eq7) ?_
            show P (93, [some (.ref 38), some (.ref _), none, some (.int v3), some (.int s29.1), some (.int (fx_at s29.2 _ s29.1))], [], (110, x), q7)
            refine mj_gcp hC 1 ?_
            show P (106, [some (.ref 38), some (.ref _), none, some (.int v3), some (.int s29.1), some (.int (fx_at s29.2 _ s29.1))], [], (110, x), q7)
            exact mj_less hC (L0 := [some (.ref 38), some (.ref _), none, some (.int v3), some (.int s29.1), none]) (And.intro rfl (And.intro rfl (And.intro rfl (And.intro rfl trivial)))) (rk_value_j106l29_x hC hd (by decide) h h0 h1)
        · rw [if_neg c3] at h
          refine mj_gcp hC 3 ?_
          show P (65, [some (.ref 38), some (.ref _), none, some (.int v3), some (.int s29.1), some (.int (fx_at s29.2 _ s29.1))], [.long (fx_at s29.2 _ s29.1).toInt64, .ref 38], (110, x), s29.2)
          obtain ⟨q8, eq8, h⟩ := mj_bnd h
          refine mj_pcall hC rfl (rk_push_x (Nat.le_trans (by decide) hd) eq8) ?_
          show P (68, [some (.ref 38), some (.ref _), none, some (.int v3), some (.int s29.1), some (.int (fx_at s29.2 _ s29.1))], [], (110, x), q8)
          refine mj_gcp hC 1 ?_
          show P (106, [some (.ref 38), some (.ref _), none, some (.int v3), some (.int s29.1), some (.int (fx_at s29.2 _ s29.1))], [], (110, x), q8)
          exact mj_less hC (L0 := [some (.ref 38), some (.ref _), none, some (.int v3), some (.int s29.1), none]) (And.intro rfl (And.intro rfl (And.intro rfl (And.intro rfl trivial)))) (rk_value_j106l29_x hC hd (by decide) h h0 h1)
      · rw [if_neg c2] at h
        cases h
        exact mj_less hC (L0 := [some (.ref 38), none, none, none, none, none]) (And.intro rfl trivial) (h1 rfl)
set_option maxRecDepth 20000 in
theorem rk_value_j112_x {Ls tp ip x d : Nat} {Z : mj_X} {R : Option Value → mj_G → mj_M → Prop} {P : mj_K → Prop} (hC : mj_cls false (mj_sh Ls) (mj_rf tp ip) mj_dv mj_cd_124 (mj_Ex false (mj_sh Ls) (mj_rf tp ip) Z d) R P) (hd : 2 ≤ d) {q : Nat} (hq : q = 3 ∨ q = 17)   {m : mj_M} {r : (Int64 × mj_M)} (h : rk_value_j112 q m = some r) (hR : R (some (.long r.1)) (110, x) r.2) : P (112, [some (.ref 38), none, none, none, none, none], [], (110, x), m) := by
  unfold rk_value_j112 at h
  rcases hq with rfl | rfl
  all_goals
    refine mj_gcp hC 1 ?_
    show P (113, [some (.ref 38), none, none, none, none, none], [.ref 38], (110, x), m)
    obtain ⟨q10, eq10, h⟩ := mj_bnd h
    refine mj_pcall hC rfl (rk_pop_x (Nat.le_trans (by decide) hd) eq10) ?_
    show P (116, [some (.ref 38), none, none, none, none, none], [.long q10.1], (110, x), q10.2)
    refine mj_gcp hC 4 ?_
    show P (mj_pick 131 125 ((mj_I (q10.2 38 3)) = 0), [some (.ref 38), none, none, none, some (.long q10.1), none], [], (110, x), q10.2)
    refine mj_pbr (fun c11 => ?_) (fun c11 => ?_)
    · rw [if_pos c11] at h
      refine mj_gcp hC 1 ?_
      show P (133, [some (.ref 38), none, none, none, some (.long q10.1), none], [.long q10.1], (110, x), q10.2)
      cases h
      exact mj_pret hC rfl hR
    · rw [if_neg c11] at h
      refine mj_gcp hC 2 ?_
      show P (133, [some (.ref 38), none, none, none, some (.long q10.1), none], [.long (-9223372036854775808)], (110, x), q10.2)
      cases h
      exact mj_pret hC rfl hR
set_option maxRecDepth 20000 in
theorem rk_value_p {Ls tp ip x d : Nat} {Z : mj_X} {R : Option Value → mj_G → mj_M → Prop} {P : mj_K → Prop} (hC : mj_cls false (mj_sh Ls) (mj_rf tp ip) mj_dv mj_cd_124 (mj_Ex false (mj_sh Ls) (mj_rf tp ip) Z d) R P) (hd : 2 ≤ d) {q : Nat} (hq : q = 3 ∨ q = 17) {v2 : Int32} {m : mj_M} {r : (Int64 × mj_M)} (h : rk_value q v2 m = some r) (hR : R (some (.long r.1)) (110, x) r.2) : P (0, [some (.ref 38), some (.ref q), some (.int v2), none, none, none], [], (110, x), m) := by
  unfold rk_value at h
  rcases hq with rfl | rfl
  all_goals
    refine mj_gcp hC 9 ?_
    show P (15, [some (.ref 38), some (.ref _), some (.int v2), none, none, none], [.int v2, .ref _], (110, x), (mj_up (mj_up m 38 2 (.int 0)) 38 3 (.int 0)))
    refine mj_pcall hC rfl (bp_at_x (Nat.le_trans (by decide) hd) (by decide)) ?_
    show P (18, [some (.ref 38), some (.ref _), some (.int v2), none, none, none], [.int (fx_at (mj_up (mj_up m 38 2 (.int 0)) 38 3 (.int 0)) _ v2)], (110, x), (mj_up (mj_up m 38 2 (.int 0)) 38 3 (.int 0)))
    refine mj_gcp hC 4 ?_
    show P (24, [some (.ref 38), some (.ref _), some (.int v2), some (.int (fx_at (mj_up (mj_up m 38 2 (.int 0)) 38 3 (.int 0)) _ v2)), none, none], [.int v2, .ref _], (110, x), (mj_up (mj_up m 38 2 (.int 0)) 38 3 (.int 0)))
    refine mj_pcall hC rfl (bp_at_x (Nat.le_trans (by decide) hd) (by decide)) ?_
    show P (27, [some (.ref 38), some (.ref _), some (.int v2), some (.int (fx_at (mj_up (mj_up m 38 2 (.int 0)) 38 3 (.int 0)) _ v2)), none, none], [.int (fx_at (mj_up (mj_up m 38 2 (.int 0)) 38 3 (.int 0)) _ v2)], (110, x), (mj_up (mj_up m 38 2 (.int 0)) 38 3 (.int 0)))
    refine mj_gcp hC 1 ?_
    show P (29, [some (.ref 38), some (.ref _), some (.int v2), some (.int (fx_at (mj_up (mj_up m 38 2 (.int 0)) 38 3 (.int 0)) _ v2)), some (.int (fx_at (mj_up (mj_up m 38 2 (.int 0)) 38 3 (.int 0)) _ v2)), none], [], (110, x), (mj_up (mj_up m 38 2 (.int 0)) 38 3 (.int 0)))
    obtain ⟨q9, eq9, h⟩ := mj_bnd h
    refine mj_less hC (L0 := [some (.ref 38), some (.ref _), none, some (.int (fx_at (mj_up (mj_up m 38 2 (.int 0)) 38 3 (.int 0)) _ v2)), some (.int (fx_at (mj_up (mj_up m 38 2 (.int 0)) 38 3 (.int 0)) _ v2)), none]) (And.intro rfl (And.intro rfl (And.intro rfl (And.intro rfl trivial)))) ?_
    refine mj_loop_P (A := fun z29 => P (29, [some (.ref 38), some (.ref _), none, some (.int (fx_at (mj_up (mj_up m 38 2 (.int 0)) 38 3 (.int 0)) _ v2)), some (.int z29.1), none], [], (110, x), z29.2)) (E := fun _ z29 => P (112, [some (.ref 38), none, none, none, none, none], [], (110, x), z29.2)) (fun zz t w hb h0 h1 => rk_value_l29_x hC hd (by decide) zz hb h0 (fun ht => h1 0 ht)) mj_F _ q9 eq9 ?_
    exact mj_less hC (L0 := [some (.ref 38), none, none, none, none, none]) (And.intro rfl trivial) (rk_value_j112_x hC hd (by decide) h hR)
set_option maxRecDepth 20000 in
theorem rk_value_x {Ls tp ip x d : Nat} {Z : mj_X} (hd : 3 ≤ d) {q : Nat} (hq : q = 3 ∨ q = 17) {v2 : Int32} {m : mj_M} {r : (Int64 × mj_M)} (h : rk_value q v2 m = some r) : mj_Ex false (mj_sh Ls) (mj_rf tp ip) Z d 124 [.ref 38, .ref q, .int v2] (110, x) m (some (.long r.1)) (110, x) r.2 := by
  exact mj_Ex_of (cd := mj_cd_124) (L := [some (.ref 38), some (.ref q), some (.int v2), none, none, none]) (by omega) (by decide) rfl (Nat.le_of_ble_eq_true rfl) rfl (fun P hC => rk_value_p hC (by omega) hq h ⟨rfl, rfl, rfl⟩)
def md_lineRead_j231  (v1 : Int32)  (m : mj_M) : Option (Int32 × mj_M) :=
  (if v1 = 0 then some (0, m) else
  (if (md_isSign 59 m) = 0 then (md_wrong 1 m).bind fun q7 =>
  (if q7.1 = 0 ∨ q7.1 = 1 then some (q7.1, q7.2) else none) else
  (md_token m).bind fun q9 =>
  some (1, q9)))
def md_lineRead_j164    (m : mj_M) : Option (Int32 × mj_M) :=
  (md_wrong 1 m).bind fun q25 =>
  (if q25.1 = 0 ∨ q25.1 = 1 then some (q25.1, q25.2) else none)
def md_lineRead_j17    (m : mj_M) : Option (Int32 × mj_M) :=
  (md_wrong 1 m).bind fun q37 =>
  (if q37.1 = 0 ∨ q37.1 = 1 then some (q37.1, q37.2) else none)
def md_lineRead   (m : mj_M) : Option (Int32 × mj_M) :=
  (if (mj_I (m 68 8)) = 1 then (if (mj_I (m 68 9)) ≤ 7 then (if (mj_I (m 68 9)) = 0 then (md_manLine m).bind fun q4 =>
  md_lineRead_j231 q4.1 q4.2 else
  (if (mj_I (m 68 9)) = 1 then (md_tieLine m).bind fun q11 =>
  md_lineRead_j231 q11.1 q11.2 else
  (if (mj_I (m 68 9)) = 2 then (md_workLine m).bind fun q13 =>
  md_lineRead_j231 q13.1 q13.2 else
  (if (mj_I (m 68 9)) = 3 then (md_speedLine m).bind fun q15 =>
  md_lineRead_j231 q15.1 q15.2 else
  (if (mj_I (m 68 9)) = 4 then (md_onceLine 0 999 m).bind fun q17 =>
  md_lineRead_j231 q17.1 q17.2 else
  (if (mj_I (m 68 9)) = 5 then (md_onceLine 1 100 m).bind fun q19 =>
  md_lineRead_j231 q19.1 q19.2 else
  (if (mj_I (m 68 9)) = 6 then (md_onceLine 2 99999 m).bind fun q21 =>
  md_lineRead_j231 q21.1 q21.2 else
  (md_token m).bind fun q22 =>
  (if (mj_I (q22 68 8)) = 1 then (if (mj_I (q22 68 9)) < 8 then md_lineRead_j164 q22 else
  (if (mj_I (q22 68 9)) ≤ 10 then (if ((3 + (mj_I (q22 68 9))) - 8) < 0 ∨ 6 ≤ (((3 + (mj_I (q22 68 9))) - 8) : Int32).toNatClampNeg then none else
  (if (mj_I (q22 83 ((3 + (mj_I (q22 68 9))) - 8).toNatClampNeg)) = 0 then (if ((3 + (mj_I (q22 68 9))) - 8) < 0 ∨ 6 ≤ (((3 + (mj_I (q22 68 9))) - 8) : Int32).toNatClampNeg then none else
  (md_token (mj_up q22 83 ((3 + (mj_I (q22 68 9))) - 8).toNatClampNeg (.int (1 &&& 1)))).bind fun q31 =>
  (if ((3 + (mj_I (q22 68 9))) - 8) < 0 ∨ 6 ≤ (((3 + (mj_I (q22 68 9))) - 8) : Int32).toNatClampNeg then none else
  (md_sumRead (mj_up q31 84 ((3 + (mj_I (q22 68 9))) - 8).toNatClampNeg (.int (mj_I (q31 68 21))))).bind fun q33 =>
  (if ((3 + (mj_I (q22 68 9))) - 8) < 0 ∨ 6 ≤ (((3 + (mj_I (q22 68 9))) - 8) : Int32).toNatClampNeg then none else
  md_lineRead_j231 q33.1 (mj_up q33.2 85 ((3 + (mj_I (q22 68 9))) - 8).toNatClampNeg (.int (mj_I (q33.2 68 21))))))) else
  (md_wrong 3 q22).bind fun q35 =>
  (if q35.1 = 0 ∨ q35.1 = 1 then some (q35.1, q35.2) else none))) else
  md_lineRead_j164 q22)) else
  md_lineRead_j164 q22)))))))) else
  md_lineRead_j17 m) else
  md_lineRead_j17 m)
set_option maxRecDepth 20000 in
theorem md_lineRead_j231_x {Ls tp ip x d : Nat} {Z : mj_X} {R : Option Value → mj_G → mj_M → Prop} {P : mj_K → Prop} (hC : mj_cls false (mj_sh Ls) (mj_rf tp ip) mj_dv mj_cd_179 (mj_Ex false (mj_sh Ls) (mj_rf tp ip) Z d) R P) (hd : 4 ≤ d) {v1 : Int32}  {m : mj_M} {r : (Int32 × mj_M)} (h : md_lineRead_j231 v1 m = some r) (hR : R (some (.int r.1)) (110, x) r.2) : P (231, [some (.ref 68), some (.int v1), none], [], (110, x), m) := by
  unfold md_lineRead_j231 at h
  refine mj_gcp hC 2 ?_
  show P (mj_pick 235 237 (v1 = 0), [some (.ref 68), some (.int v1), none], [], (110, x), m)
  refine mj_pbr (fun c5 => ?_) (fun c5 => ?_)
  · rw [if_pos c5] at h
    refine mj_gcp hC 1 ?_
    show P (236, [some (.ref 68), some (.int v1), none], [.int 0], (110, x), m)
    cases h
    exact mj_pret hC rfl hR
  · rw [if_neg c5] at h
    refine mj_gcp hC 2 ?_
    show P (240, [some (.ref 68), some (.int v1), none], [.int 59, .ref 68], (110, x), m)
    refine mj_pcall hC rfl (md_isSign_x (Nat.le_trans (by decide) hd)) ?_
    show P (243, [some (.ref 68), some (.int v1), none], [.int (md_isSign 59 m)], (110, x), m)
    refine mj_gcp hC 1 ?_
    show P (mj_pick 246 252 ((md_isSign 59 m) = 0), [some (.ref 68), some (.int v1), none], [], (110, x), m)
    refine mj_pbr (fun c6 => ?_) (fun c6 => ?_)
    · rw [if_pos c6] at h
      refine mj_gcp hC 2 ?_
      show P (248, [some (.ref 68), some (.int v1), none], [.int 1, .ref 68], (110, x), m)
      obtain ⟨q7, eq7, h⟩ := mj_bnd h
      refine mj_pcall hC rfl (md_wrong_x (Nat.le_trans (by decide) hd) eq7) ?_
      show P (251, [some (.ref 68), some (.int v1), none], [.int q7.1], (110, x), q7.2)
      obtain ⟨k8, h⟩ := mj_ifs h
      cases h
      exact mj_pretZ hC rfl k8 hR
    · rw [if_neg c6] at h
      refine mj_gcp hC 1 ?_
      show P (253, [some (.ref 68), some (.int v1), none], [.ref 68], (110, x), m)
      obtain ⟨q9, eq9, h⟩ := mj_bnd h
      refine mj_pcall hC rfl (md_token_x (Nat.le_trans (by decide) hd) eq9) ?_
      show P (256, [some (.ref 68), some (.int v1), none], [], (110, x), q9)
      refine mj_gcp hC 1 ?_
      show P (257, [some (.ref 68), some (.int v1), none], [.int 1], (110, x), q9)
      cases h
      exact mj_pret hC rfl hR
set_option maxRecDepth 20000 in
theorem md_lineRead_j164_x {Ls tp ip x d : Nat} {Z : mj_X} {R : Option Value → mj_G → mj_M → Prop} {P : mj_K → Prop} (hC : mj_cls false (mj_sh Ls) (mj_rf tp ip) mj_dv mj_cd_179 (mj_Ex false (mj_sh Ls) (mj_rf tp ip) Z d) R P) (hd : 4 ≤ d)   {m : mj_M} {r : (Int32 × mj_M)} (h : md_lineRead_j164 m = some r) (hR : R (some (.int r.1)) (110, x) r.2) : P (164, [some (.ref 68), none, none], [], (110, x), m) := by
  unfold md_lineRead_j164 at h
  refine mj_gcp hC 2 ?_
  show P (166, [some (.ref 68), none, none], [.int 1, .ref 68], (110, x), m)
  obtain ⟨q25, eq25, h⟩ := mj_bnd h
  refine mj_pcall hC rfl (md_wrong_x (Nat.le_trans (by decide) hd) eq25) ?_
  show P (169, [some (.ref 68), none, none], [.int q25.1], (110, x), q25.2)
  obtain ⟨k26, h⟩ := mj_ifs h
  cases h
  exact mj_pretZ hC rfl k26 hR
set_option maxRecDepth 20000 in
theorem md_lineRead_j17_x {Ls tp ip x d : Nat} {Z : mj_X} {R : Option Value → mj_G → mj_M → Prop} {P : mj_K → Prop} (hC : mj_cls false (mj_sh Ls) (mj_rf tp ip) mj_dv mj_cd_179 (mj_Ex false (mj_sh Ls) (mj_rf tp ip) Z d) R P) (hd : 4 ≤ d)   {m : mj_M} {r : (Int32 × mj_M)} (h : md_lineRead_j17 m = some r) (hR : R (some (.int r.1)) (110, x) r.2) : P (17, [some (.ref 68), none, none], [], (110, x), m) := by
  unfold md_lineRead_j17 at h
  refine mj_gcp hC 2 ?_
  show P (19, [some (.ref 68), none, none], [.int 1, .ref 68], (110, x), m)
  obtain ⟨q37, eq37, h⟩ := mj_bnd h
  refine mj_pcall hC rfl (md_wrong_x (Nat.le_trans (by decide) hd) eq37) ?_
  show P (22, [some (.ref 68), none, none], [.int q37.1], (110, x), q37.2)
  obtain ⟨k38, h⟩ := mj_ifs h
  cases h
  exact mj_pretZ hC rfl k38 hR
set_option maxRecDepth 20000 in
theorem md_lineRead_p {Ls tp ip x d : Nat} {Z : mj_X} {R : Option Value → mj_G → mj_M → Prop} {P : mj_K → Prop} (hC : mj_cls false (mj_sh Ls) (mj_rf tp ip) mj_dv mj_cd_179 (mj_Ex false (mj_sh Ls) (mj_rf tp ip) Z d) R P) (hd : 4 ≤ d)  {m : mj_M} {r : (Int32 × mj_M)} (h : md_lineRead m = some r) (hR : R (some (.int r.1)) (110, x) r.2) : P (0, [some (.ref 68), none, none], [], (110, x), m) := by
  unfold md_lineRead at h
  refine mj_gcp hC 4 ?_
  show P (mj_pick 8 17 ((mj_I (m 68 8)) = 1), [some (.ref 68), none, none], [], (110, x), m)
  refine mj_pbr (fun c1 => ?_) (fun c1 => ?_)
  · rw [if_pos c1] at h
    refine mj_gcp hC 4 ?_
    show P (mj_pick 23 17 ((mj_I (m 68 9)) ≤ 7), [some (.ref 68), none, none], [], (110, x), m)
    refine mj_pbr (fun c2 => ?_) (fun c2 => ?_)
    · rw [if_pos c2] at h
      refine mj_gcp hC 3 ?_
      show P ((mj_sw (mj_I (m 68 9)) [(0, 68), (1, 76), (2, 84), (3, 92), (4, 100), (5, 112), (6, 123)] 134), [some (.ref 68), none, none], [], (110, x), m)
      refine mj_psw (fun c3 => ?_) (fun c3 => ?_)
      · rw [if_pos c3] at h
        refine mj_gcp hC 1 ?_
        show P (69, [some (.ref 68), none, none], [.ref 68], (110, x), m)
        obtain ⟨q4, eq4, h⟩ := mj_bnd h
        refine mj_pcall hC rfl (md_manLine_x (Nat.le_trans (by decide) hd) eq4) ?_
        show P (72, [some (.ref 68), none, none], [.int q4.1], (110, x), q4.2)
        refine mj_gcp hC 2 ?_
        show P (231, [some (.ref 68), some (.int q4.1), none], [], (110, x), q4.2)
        exact mj_less hC (L0 := [some (.ref 68), some (.int q4.1), none]) (And.intro rfl (And.intro rfl trivial)) (md_lineRead_j231_x hC hd h hR)
      · rw [if_neg c3] at h
        refine mj_psw (fun c10 => ?_) (fun c10 => ?_)
        · rw [if_pos c10] at h
          refine mj_gcp hC 1 ?_
          show P (77, [some (.ref 68), none, none], [.ref 68], (110, x), m)
          obtain ⟨q11, eq11, h⟩ := mj_bnd h
          refine mj_pcall hC rfl (md_tieLine_x (Nat.le_trans (by decide) hd) eq11) ?_
          show P (80, [some (.ref 68), none, none], [.int q11.1], (110, x), q11.2)
          refine mj_gcp hC 2 ?_
          show P (231, [some (.ref 68), some (.int q11.1), none], [], (110, x), q11.2)
          exact mj_less hC (L0 := [some (.ref 68), some (.int q11.1), none]) (And.intro rfl (And.intro rfl trivial)) (md_lineRead_j231_x hC hd h hR)
        · rw [if_neg c10] at h
          refine mj_psw (fun c12 => ?_) (fun c12 => ?_)
          · rw [if_pos c12] at h
            refine mj_gcp hC 1 ?_
            show P (85, [some (.ref 68), none, none], [.ref 68], (110, x), m)
            obtain ⟨q13, eq13, h⟩ := mj_bnd h
            refine mj_pcall hC rfl (md_workLine_x (Nat.le_trans (by decide) hd) eq13) ?_
            show P (88, [some (.ref 68), none, none], [.int q13.1], (110, x), q13.2)
            refine mj_gcp hC 2 ?_
            show P (231, [some (.ref 68), some (.int q13.1), none], [], (110, x), q13.2)
            exact mj_less hC (L0 := [some (.ref 68), some (.int q13.1), none]) (And.intro rfl (And.intro rfl trivial)) (md_lineRead_j231_x hC hd h hR)
          · rw [if_neg c12] at h
            refine mj_psw (fun c14 => ?_) (fun c14 => ?_)
            · rw [if_pos c14] at h
              refine mj_gcp hC 1 ?_
              show P (93, [some (.ref 68), none, none], [.ref 68], (110, x), m)
              obtain ⟨q15, eq15, h⟩ := mj_bnd h
              refine mj_pcall hC rfl (md_speedLine_x (Nat.le_trans (by decide) hd) eq15) ?_
              show P (96, [some (.ref 68), none, none], [.int q15.1], (110, x), q15.2)
              refine mj_gcp hC 2 ?_
              show P (231, [some (.ref 68), some (.int q15.1), none], [], (110, x), q15.2)
              exact mj_less hC (L0 := [some (.ref 68), some (.int q15.1), none]) (And.intro rfl (And.intro rfl trivial)) (md_lineRead_j231_x hC hd h hR)
            · rw [if_neg c14] at h
              refine mj_psw (fun c16 => ?_) (fun c16 => ?_)
              · rw [if_pos c16] at h
                refine mj_gcp hC 3 ?_
                show P (105, [some (.ref 68), none, none], [.int 999, .int 0, .ref 68], (110, x), m)
                obtain ⟨q17, eq17, h⟩ := mj_bnd h
                refine mj_pcall hC rfl (md_onceLine_x (Nat.le_trans (by decide) hd) eq17) ?_
                show P (108, [some (.ref 68), none, none], [.int q17.1], (110, x), q17.2)
                refine mj_gcp hC 2 ?_
                show P (231, [some (.ref 68), some (.int q17.1), none], [], (110, x), q17.2)
                exact mj_less hC (L0 := [some (.ref 68), some (.int q17.1), none]) (And.intro rfl (And.intro rfl trivial)) (md_lineRead_j231_x hC hd h hR)
              · rw [if_neg c16] at h
                refine mj_psw (fun c18 => ?_) (fun c18 => ?_)
                · rw [if_pos c18] at h
                  refine mj_gcp hC 3 ?_
                  show P (116, [some (.ref 68), none, none], [.int 100, .int 1, .ref 68], (110, x), m)
                  obtain ⟨q19, eq19, h⟩ := mj_bnd h
                  refine mj_pcall hC rfl (md_onceLine_x (Nat.le_trans (by decide) hd) eq19) ?_
                  show P (119, [some (.ref 68), none, none], [.int q19.1], (110, x), q19.2)
                  refine mj_gcp hC 2 ?_
                  show P (231, [some (.ref 68), some (.int q19.1), none], [], (110, x), q19.2)
                  exact mj_less hC (L0 := [some (.ref 68), some (.int q19.1), none]) (And.intro rfl (And.intro rfl trivial)) (md_lineRead_j231_x hC hd h hR)
                · rw [if_neg c18] at h
                  refine mj_psw (fun c20 => ?_) (fun c20 => ?_)
                  · rw [if_pos c20] at h
                    refine mj_gcp hC 3 ?_
                    show P (127, [some (.ref 68), none, none], [.int 99999, .int 2, .ref 68], (110, x), m)
                    obtain ⟨q21, eq21, h⟩ := mj_bnd h
                    refine mj_pcall hC rfl (md_onceLine_x (Nat.le_trans (by decide) hd) eq21) ?_
                    show P (130, [some (.ref 68), none, none], [.int q21.1], (110, x), q21.2)
                    refine mj_gcp hC 2 ?_
                    show P (231, [some (.ref 68), some (.int q21.1), none], [], (110, x), q21.2)
                    exact mj_less hC (L0 := [some (.ref 68), some (.int q21.1), none]) (And.intro rfl (And.intro rfl trivial)) (md_lineRead_j231_x hC hd h hR)
                  · rw [if_neg c20] at h
                    show P (134, [some (.ref 68), none, none], [], (110, x), m)
                    refine mj_gcp hC 1 ?_
                    show P (135, [some (.ref 68), none, none], [.ref 68], (110, x), m)
                    obtain ⟨q22, eq22, h⟩ := mj_bnd h
                    refine mj_pcall hC rfl (md_token_x (Nat.le_trans (by decide) hd) eq22) ?_
                    show P (138, [some (.ref 68), none, none], [], (110, x), q22)
                    refine mj_gcp hC 4 ?_
                    show P (mj_pick 146 164 ((mj_I (q22 68 8)) = 1), [some (.ref 68), none, none], [], (110, x), q22)
                    refine mj_pbr (fun c23 => ?_) (fun c23 => ?_)
                    · rw [if_pos c23] at h
                      refine mj_gcp hC 4 ?_
                      show P (mj_pick 164 155 ((mj_I (q22 68 9)) < 8), [some (.ref 68), none, none], [], (110, x), q22)
                      refine mj_pbr (fun c24 => ?_) (fun c24 => ?_)
                      · rw [if_pos c24] at h
                        exact mj_less hC (L0 := [some (.ref 68), none, none]) (And.intro rfl trivial) (md_lineRead_j164_x hC hd h hR)
                      · rw [if_neg c24] at h
                        refine mj_gcp hC 4 ?_
                        show P (mj_pick 170 164 ((mj_I (q22 68 9)) ≤ 10), [some (.ref 68), none, none], [], (110, x), q22)
                        refine mj_pbr (fun c27 => ?_) (fun c27 => ?_)
                        · rw [if_pos c27] at h
                          obtain ⟨k28, h⟩ := mj_ifn h
                          refine mj_gcp hC 12 ?_
                          show _ ∧ (P (mj_pick 195 189 ((mj_I (q22 83 ((3 + (mj_I (q22 68 9))) - 8).toNatClampNeg)) = 0), [some (.ref 68), none, some (.int ((3 + (mj_I (q22 68 9))) - 8))], [], (110, x), q22))
                          refine And.intro k28 (?_)
                          refine mj_pbr (fun c29 => ?_) (fun c29 => ?_)
                          · rw [if_pos c29] at h
                            obtain ⟨k30, h⟩ := mj_ifn h
                            refine mj_gcp hC 6 ?_
                            show _ ∧ (P (203, [some (.ref 68), none, some (.int ((3 + (mj_I (q22 68 9))) - 8))], [.ref 68], (110, x), (mj_up q22 83 ((3 + (mj_I (q22 68 9))) - 8).toNatClampNeg (.int (1 &&& 1)))))
                            refine And.intro k30 (?_)
                            obtain ⟨q31, eq31, h⟩ := mj_bnd h
                            refine mj_pcall hC rfl (md_token_x (Nat.le_trans (by decide) hd) eq31) ?_
                            show P (206, [some (.ref 68), none, some (.int ((3 + (mj_I (q22 68 9))) - 8))], [], (110, x), q31)
                            obtain ⟨k32, h⟩ := mj_ifn h
                            refine mj_gcp hC 7 ?_
                            show _ ∧ (P (217, [some (.ref 68), none, some (.int ((3 + (mj_I (q22 68 9))) - 8))], [.ref 68], (110, x), (mj_up q31 84 ((3 + (mj_I (q22 68 9))) - 8).toNatClampNeg (.int (mj_I (q31 68 21))))))
                            refine And.intro k32 (?_)
                            obtain ⟨q33, eq33, h⟩ := mj_bnd h
                            refine mj_pcall hC rfl (md_sumRead_x (Nat.le_trans (by decide) hd) eq33) ?_
                            show P (220, [some (.ref 68), none, some (.int ((3 + (mj_I (q22 68 9))) - 8))], [.int q33.1], (110, x), q33.2)
                            obtain ⟨k34, h⟩ := mj_ifn h
                            refine mj_gcp hC 7 ?_
                            show _ ∧ (P (231, [some (.ref 68), some (.int q33.1), some (.int ((3 + (mj_I (q22 68 9))) - 8))], [], (110, x), (mj_up q33.2 85 ((3 + (mj_I (q22 68 9))) - 8).toNatClampNeg (.int (mj_I (q33.2 68 21))))))
                            refine And.intro k34 (?_)
                            exact mj_less hC (L0 := [some (.ref 68), some (.int q33.1), none]) (And.intro rfl (And.intro rfl trivial)) (md_lineRead_j231_x hC hd h hR)
                          · rw [if_neg c29] at h
                            refine mj_gcp hC 2 ?_
                            show P (191, [some (.ref 68), none, some (.int ((3 + (mj_I (q22 68 9))) - 8))], [.int 3, .ref 68], (110, x), q22)
                            obtain ⟨q35, eq35, h⟩ := mj_bnd h
                            refine mj_pcall hC rfl (md_wrong_x (Nat.le_trans (by decide) hd) eq35) ?_
                            show P (194, [some (.ref 68), none, some (.int ((3 + (mj_I (q22 68 9))) - 8))], [.int q35.1], (110, x), q35.2)
                            obtain ⟨k36, h⟩ := mj_ifs h
                            cases h
                            exact mj_pretZ hC rfl k36 hR
                        · rw [if_neg c27] at h
                          exact mj_less hC (L0 := [some (.ref 68), none, none]) (And.intro rfl trivial) (md_lineRead_j164_x hC hd h hR)
                    · rw [if_neg c23] at h
                      exact mj_less hC (L0 := [some (.ref 68), none, none]) (And.intro rfl trivial) (md_lineRead_j164_x hC hd h hR)
    · rw [if_neg c2] at h
      exact mj_less hC (L0 := [some (.ref 68), none, none]) (And.intro rfl trivial) (md_lineRead_j17_x hC hd h hR)
  · rw [if_neg c1] at h
    exact mj_less hC (L0 := [some (.ref 68), none, none]) (And.intro rfl trivial) (md_lineRead_j17_x hC hd h hR)
set_option maxRecDepth 20000 in
theorem md_lineRead_x {Ls tp ip x d : Nat} {Z : mj_X} (hd : 5 ≤ d)  {m : mj_M} {r : (Int32 × mj_M)} (h : md_lineRead m = some r) : mj_Ex false (mj_sh Ls) (mj_rf tp ip) Z d 179 [.ref 68] (110, x) m (some (.int r.1)) (110, x) r.2 := by
  exact mj_Ex_of (cd := mj_cd_179) (L := [some (.ref 68), none, none]) (by omega) (by decide) rfl (Nat.le_of_ble_eq_true rfl) rfl (fun P hC => md_lineRead_p hC (by omega) h ⟨rfl, rfl, rfl⟩)
def bp_law_j77 (tp : Nat) (v1 : Int32) (v3 : Int32) (v4 : Int32)  (m : mj_M) : Option (Int64 × mj_M) :=
  (ck_plainBeat tp 42 m).bind fun q3 =>
  (ck_name tp 42 q3 v3 v4 m).bind fun q4 =>
  (rk_value tp v1 q4).bind fun q5 =>
  some (q5.1, q5.2)
def bp_law (tp : Nat) (v1 : Int32) (v2 : Int32) (m : mj_M) : Option (Int64 × mj_M) :=
  (if v1 = 0 then (if (to_isWork tp v2 m) = 0 then some ((-9223372036854775808), m) else
  bp_law_j77 tp v1 (fx_at m (tp + 6) v2) v2 m) else
  (if v1 = 2 then (if (to_isMan tp v2 m) = 0 then some ((-9223372036854775808), m) else
  bp_law_j77 tp v1 v2 (-1) m) else
  (if v1 = 1 then bp_law_j77 tp v1 (-1) (-1) m else
  some ((-9223372036854775808), m))))
set_option maxRecDepth 20000 in
theorem bp_law_j77_x {Ls tp ip x d : Nat} {Z : mj_X} {R : Option Value → mj_G → mj_M → Prop} {P : mj_K → Prop} (hC : mj_cls false (mj_sh Ls) (mj_rf tp ip) mj_dv mj_cd_11 (mj_Ex false (mj_sh Ls) (mj_rf tp ip) Z d) R P) (hd : 3 ≤ d) (htp : tp = 3 ∨ tp = 17) {v1 : Int32} {v3 : Int32} {v4 : Int32}  {m : mj_M} {r : (Int64 × mj_M)} (h : bp_law_j77 tp v1 v3 v4 m = some r) (hR : R (some (.long r.1)) (110, x) r.2) : P (77, [some (.ref 1), some (.int v1), none, some (.int v3), some (.int v4)], [], (110, x), m) := by
  unfold bp_law_j77 at h
  rcases htp with rfl | rfl
  all_goals
    refine mj_gcp hC 8 ?_
    show P (93, [some (.ref 1), some (.int v1), none, some (.int v3), some (.int v4)], [.ref 42, .ref 37, .ref 42, .ref 37], (110, x), m)
    obtain ⟨q3, eq3, h⟩ := mj_bnd h
    refine mj_pcall hC rfl (ck_plainBeat_x (Nat.le_trans (by decide) hd) (by decide) (by decide) eq3) ?_
    show P (96, [some (.ref 1), some (.int v1), none, some (.int v3), some (.int v4)], [.int q3, .ref 42, .ref 37], (110, x), m)
    refine mj_gcp hC 2 ?_
    show P (99, [some (.ref 1), some (.int v1), none, some (.int v3), some (.int v4)], [.int v4, .int v3, .int q3, .ref 42, .ref 37], (110, x), m)
    obtain ⟨q4, eq4, h⟩ := mj_bnd h
    refine mj_pcall hC rfl (ck_name_x (Nat.le_trans (by decide) hd) (by decide) (by decide) eq4) ?_
    show P (102, [some (.ref 1), some (.int v1), none, some (.int v3), some (.int v4)], [], (110, x), q4)
    refine mj_gcp hC 6 ?_
    show P (114, [some (.ref 1), some (.int v1), none, some (.int v3), some (.int v4)], [.int v1, .ref _, .ref 38], (110, x), q4)
    obtain ⟨q5, eq5, h⟩ := mj_bnd h
    refine mj_pcall hC rfl (rk_value_x (Nat.le_trans (by decide) hd) (by decide) eq5) ?_
    show P (117, [some (.ref 1), some (.int v1), none, some (.int v3), some (.int v4)], [.long q5.1], (110, x), q5.2)
    cases h
    exact mj_pret hC rfl hR
set_option maxRecDepth 20000 in
theorem bp_law_p {Ls tp ip x d : Nat} {Z : mj_X} {R : Option Value → mj_G → mj_M → Prop} {P : mj_K → Prop} (hC : mj_cls false (mj_sh Ls) (mj_rf tp ip) mj_dv mj_cd_11 (mj_Ex false (mj_sh Ls) (mj_rf tp ip) Z d) R P) (hd : 3 ≤ d) (htp : tp = 3 ∨ tp = 17) {v1 : Int32} {v2 : Int32} {m : mj_M} {r : (Int64 × mj_M)} (h : bp_law tp v1 v2 m = some r) (hR : R (some (.long r.1)) (110, x) r.2) : P (0, [some (.ref 1), some (.int v1), some (.int v2), none, none], [], (110, x), m) := by
  unfold bp_law at h
  rcases htp with rfl | rfl
  all_goals
    refine mj_gcp hC 6 ?_
    show P (mj_pick 9 43 (v1 = 0), [some (.ref 1), some (.int v1), some (.int v2), some (.int (-1)), some (.int (-1))], [], (110, x), m)
    refine mj_pbr (fun c1 => ?_) (fun c1 => ?_)
    · rw [if_pos c1] at h
      refine mj_gcp hC 3 ?_
      show P (14, [some (.ref 1), some (.int v1), some (.int v2), some (.int (-1)), some (.int (-1))], [.int v2, .ref _], (110, x), m)
      refine mj_pcall hC rfl (to_isWork_x (Nat.le_trans (by decide) hd) (by decide)) ?_
      show P (17, [some (.ref 1), some (.int v1), some (.int v2), some (.int (-1)), some (.int (-1))], [.int (to_isWork _ v2 m)], (110, x), m)
      refine mj_gcp hC 1 ?_
      show P (mj_pick 20 24 ((to_isWork _ v2 m) = 0), [some (.ref 1), some (.int v1), some (.int v2), some (.int (-1)), some (.int (-1))], [], (110, x), m)
      refine mj_pbr (fun c2 => ?_) (fun c2 => ?_)
      · rw [if_pos c2] at h
        refine mj_gcp hC 1 ?_
        show P (23, [some (.ref 1), some (.int v1), some (.int v2), some (.int (-1)), some (.int (-1))], [.long (-9223372036854775808)], (110, x), m)
        cases h
        exact mj_pret hC rfl hR
      · rw [if_neg c2] at h
        refine mj_gcp hC 6 ?_
        show P (36, [some (.ref 1), some (.int v1), some (.int v2), some (.int (-1)), some (.int v2)], [.int v2, .ref _], (110, x), m)
        refine mj_pcall hC rfl (bp_at_x (Nat.le_trans (by decide) hd) (by decide)) ?_
        show P (39, [some (.ref 1), some (.int v1), some (.int v2), some (.int (-1)), some (.int v2)], [.int (fx_at m _ v2)], (110, x), m)
        refine mj_gcp hC 2 ?_
        show P (77, [some (.ref 1), some (.int v1), some (.int v2), some (.int (fx_at m _ v2)), some (.int v2)], [], (110, x), m)
        exact mj_less hC (L0 := [some (.ref 1), some (.int v1), none, some (.int (fx_at m _ v2)), some (.int v2)]) (And.intro rfl (And.intro rfl (And.intro rfl (And.intro rfl trivial)))) (bp_law_j77_x hC hd (by decide) h hR)
    · rw [if_neg c1] at h
      refine mj_gcp hC 3 ?_
      show P (mj_pick 48 68 (v1 = 2), [some (.ref 1), some (.int v1), some (.int v2), some (.int (-1)), some (.int (-1))], [], (110, x), m)
      refine mj_pbr (fun c6 => ?_) (fun c6 => ?_)
      · rw [if_pos c6] at h
        refine mj_gcp hC 3 ?_
        show P (53, [some (.ref 1), some (.int v1), some (.int v2), some (.int (-1)), some (.int (-1))], [.int v2, .ref _], (110, x), m)
        refine mj_pcall hC rfl (to_isMan_x (Nat.le_trans (by decide) hd) (by decide)) ?_
        show P (56, [some (.ref 1), some (.int v1), some (.int v2), some (.int (-1)), some (.int (-1))], [.int (to_isMan _ v2 m)], (110, x), m)
        refine mj_gcp hC 1 ?_
        show P (mj_pick 59 63 ((to_isMan _ v2 m) = 0), [some (.ref 1), some (.int v1), some (.int v2), some (.int (-1)), some (.int (-1))], [], (110, x), m)
        refine mj_pbr (fun c7 => ?_) (fun c7 => ?_)
        · rw [if_pos c7] at h
          refine mj_gcp hC 1 ?_
          show P (62, [some (.ref 1), some (.int v1), some (.int v2), some (.int (-1)), some (.int (-1))], [.long (-9223372036854775808)], (110, x), m)
          cases h
          exact mj_pret hC rfl hR
        · rw [if_neg c7] at h
          refine mj_gcp hC 3 ?_
          show P (77, [some (.ref 1), some (.int v1), some (.int v2), some (.int v2), some (.int (-1))], [], (110, x), m)
          exact mj_less hC (L0 := [some (.ref 1), some (.int v1), none, some (.int v2), some (.int (-1))]) (And.intro rfl (And.intro rfl (And.intro rfl (And.intro rfl trivial)))) (bp_law_j77_x hC hd (by decide) h hR)
      · rw [if_neg c6] at h
        refine mj_gcp hC 3 ?_
        show P (mj_pick 77 73 (v1 = 1), [some (.ref 1), some (.int v1), some (.int v2), some (.int (-1)), some (.int (-1))], [], (110, x), m)
        refine mj_pbr (fun c8 => ?_) (fun c8 => ?_)
        · rw [if_pos c8] at h
          exact mj_less hC (L0 := [some (.ref 1), some (.int v1), none, some (.int (-1)), some (.int (-1))]) (And.intro rfl (And.intro rfl (And.intro rfl (And.intro rfl trivial)))) (bp_law_j77_x hC hd (by decide) h hR)
        · rw [if_neg c8] at h
          refine mj_gcp hC 1 ?_
          show P (76, [some (.ref 1), some (.int v1), some (.int v2), some (.int (-1)), some (.int (-1))], [.long (-9223372036854775808)], (110, x), m)
          cases h
          exact mj_pret hC rfl hR
set_option maxRecDepth 20000 in
theorem bp_law_x {Ls tp ip x d : Nat} {Z : mj_X} (hd : 4 ≤ d) (htp : tp = 3 ∨ tp = 17) {v1 : Int32} {v2 : Int32} {m : mj_M} {r : (Int64 × mj_M)} (h : bp_law tp v1 v2 m = some r) : mj_Ex false (mj_sh Ls) (mj_rf tp ip) Z d 11 [.ref 1, .int v1, .int v2] (110, x) m (some (.long r.1)) (110, x) r.2 := by
  exact mj_Ex_of (cd := mj_cd_11) (L := [some (.ref 1), some (.int v1), some (.int v2), none, none]) (by omega) (by decide) rfl (Nat.le_of_ble_eq_true rfl) rfl (fun P hC => bp_law_p hC (by omega) htp h ⟨rfl, rfl, rfl⟩)
def bp_rests_j79l34 (tp : Nat)  (v1 : Int32) (v2 : Int32) (v3 : Int32) (v4 : Int32)  (m : mj_M) : Option (Nat × (Int32 × Int32)) :=
  some (0, (v3, (v4 + 1)))
def bp_rests_l34 (tp : Nat) (v1 : Int32) (v2 : Int32) (m : mj_M) (s34 : (Int32 × Int32)) : Option (Nat × (Int32 × Int32)) :=
  (if 4 ≤ s34.2 then some (1, (s34.1, s34.2)) else
  (if (bp_isRest (fx_at m (tp + 2) v1) (fx_at m (tp + 2) v2) (s34.2 >>> (1 &&& 31)) (s34.2 &&& 1) m) = 0 then bp_rests_j79l34 tp v1 v2 s34.1 s34.2 m else
  bp_rests_j79l34 tp v1 v2 (s34.1 + 1) s34.2 m))
def bp_rests (tp : Nat) (v1 : Int32) (v2 : Int32) (m : mj_M) : Option Int32 :=
  (if (to_isMan tp v1 m) = 0 then some (-1) else
  (if (to_isMan tp v2 m) = 0 then some (-1) else
  (if v1 = v2 then some (-1) else
  (mj_loop (bp_rests_l34 tp v1 v2 m) mj_F (0, 0)).bind fun q6 =>
  some q6.2.1)))
set_option maxRecDepth 20000 in
theorem bp_rests_j79l34_x {Ls tp ip x d : Nat} {Z : mj_X} {R : Option Value → mj_G → mj_M → Prop} {P : mj_K → Prop} (hC : mj_cls false (mj_sh Ls) (mj_rf tp ip) mj_dv mj_cd_28 (mj_Ex false (mj_sh Ls) (mj_rf tp ip) Z d) R P) (hd : 3 ≤ d) (htp : tp = 3 ∨ tp = 17)  {v1 : Int32} {v2 : Int32} {v3 : Int32} {v4 : Int32}  {m : mj_M} {t : Nat} {w : (Int32 × Int32)} (h : bp_rests_j79l34 tp  v1 v2 v3 v4 m = some (t, w)) (h0 : t = 0 → P (34, [some (.ref 1), some (.int v1), some (.int v2), some (.int w.1), some (.int w.2)], [], (110, x), m)) (h1 : t = 1 → P (85, [none, none, none, some (.int w.1), none], [], (110, x), m)) : P (79, [some (.ref 1), some (.int v1), some (.int v2), some (.int v3), some (.int v4)], [], (110, x), m) := by
  unfold bp_rests_j79l34 at h
  rcases htp with rfl | rfl
  all_goals
    refine mj_gcp hC 2 ?_
    show P (34, [some (.ref 1), some (.int v1), some (.int v2), some (.int v3), some (.int (v4 + 1))], [], (110, x), m)
    cases h
    exact mj_less hC (L0 := [some (.ref 1), some (.int v1), some (.int v2), some (.int v3), some (.int (v4 + 1))]) (And.intro rfl (And.intro rfl (And.intro rfl (And.intro rfl (And.intro rfl trivial))))) (h0 rfl)
set_option maxRecDepth 20000 in
theorem bp_rests_l34_x {Ls tp ip x d : Nat} {Z : mj_X} {R : Option Value → mj_G → mj_M → Prop} {P : mj_K → Prop} (hC : mj_cls false (mj_sh Ls) (mj_rf tp ip) mj_dv mj_cd_28 (mj_Ex false (mj_sh Ls) (mj_rf tp ip) Z d) R P) (hd : 3 ≤ d) (htp : tp = 3 ∨ tp = 17) {v1 : Int32} {v2 : Int32} {m : mj_M} (s34 : (Int32 × Int32)) {t : Nat} {w : (Int32 × Int32)} (h : bp_rests_l34 tp v1 v2 m s34 = some (t, w)) (h0 : t = 0 → P (34, [some (.ref 1), some (.int v1), some (.int v2), some (.int w.1), some (.int w.2)], [], (110, x), m)) (h1 : t = 1 → P (85, [none, none, none, some (.int w.1), none], [], (110, x), m)) : P (34, [some (.ref 1), some (.int v1), some (.int v2), some (.int s34.1), some (.int s34.2)], [], (110, x), m) := by
  unfold bp_rests_l34 at h
  rcases htp with rfl | rfl
  all_goals
    refine mj_gcp hC 3 ?_
    show P (mj_pick 85 40 (4 ≤ s34.2), [some (.ref 1), some (.int v1), some (.int v2), some (.int s34.1), some (.int s34.2)], [], (110, x), m)
    refine mj_pbr (fun c4 => ?_) (fun c4 => ?_)
    · rw [if_pos c4] at h
      cases h
      exact mj_less hC (L0 := [none, none, none, some (.int s34.1), none]) (And.intro rfl trivial) (h1 rfl)
    · rw [if_neg c4] at h
      refine mj_gcp hC 4 ?_
      show P (48, [some (.ref 1), some (.int v1), some (.int v2), some (.int s34.1), some (.int s34.2)], [.int v1, .ref _], (110, x), m)
      refine mj_pcall hC rfl (bp_at_x (Nat.le_trans (by decide) hd) (by decide)) ?_
      show P (51, [some (.ref 1), some (.int v1), some (.int v2), some (.int s34.1), some (.int s34.2)], [.int (fx_at m _ v1)], (110, x), m)
      refine mj_gcp hC 4 ?_
      show P (59, [some (.ref 1), some (.int v1), some (.int v2), some (.int s34.1), some (.int s34.2)], [.int v2, .ref _, .int (fx_at m _ v1)], (110, x), m)
      refine mj_pcall hC rfl (bp_at_x (Nat.le_trans (by decide) hd) (by decide)) ?_
      show P (62, [some (.ref 1), some (.int v1), some (.int v2), some (.int s34.1), some (.int s34.2)], [.int (fx_at m _ v2), .int (fx_at m _ v1)], (110, x), m)
      refine mj_gcp hC 6 ?_
      show P (70, [some (.ref 1), some (.int v1), some (.int v2), some (.int s34.1), some (.int s34.2)], [.int (s34.2 &&& 1), .int (s34.2 >>> (1 &&& 31)), .int (fx_at m _ v2), .int (fx_at m _ v1)], (110, x), m)
      refine mj_pcall hC rfl (bp_isRest_x (Nat.le_trans (by decide) hd)) ?_
      show P (73, [some (.ref 1), some (.int v1), some (.int v2), some (.int s34.1), some (.int s34.2)], [.int (bp_isRest (fx_at m _ v1) (fx_at m _ v2) (s34.2 >>> (1 &&& 31)) (s34.2 &&& 1) m)], (110, x), m)
      refine mj_gcp hC 1 ?_
      show P (mj_pick 79 76 ((bp_isRest (fx_at m _ v1) (fx_at m _ v2) (s34.2 >>> (1 &&& 31)) (s34.2 &&& 1) m) = 0), [some (.ref 1), some (.int v1), some (.int v2), some (.int s34.1), some (.int s34.2)], [], (110, x), m)
      refine mj_pbr (fun c5 => ?_) (fun c5 => ?_)
      · rw [if_pos c5] at h
        exact mj_less hC (L0 := [some (.ref 1), some (.int v1), some (.int v2), some (.int s34.1), some (.int s34.2)]) (And.intro rfl (And.intro rfl (And.intro rfl (And.intro rfl (And.intro rfl trivial))))) (bp_rests_j79l34_x hC hd (by decide) h h0 h1)
      · rw [if_neg c5] at h
        refine mj_gcp hC 1 ?_
        show P (79, [some (.ref 1), some (.int v1), some (.int v2), some (.int (s34.1 + 1)), some (.int s34.2)], [], (110, x), m)
        exact mj_less hC (L0 := [some (.ref 1), some (.int v1), some (.int v2), some (.int (s34.1 + 1)), some (.int s34.2)]) (And.intro rfl (And.intro rfl (And.intro rfl (And.intro rfl (And.intro rfl trivial))))) (bp_rests_j79l34_x hC hd (by decide) h h0 h1)
set_option maxRecDepth 20000 in
theorem bp_rests_p {Ls tp ip x d : Nat} {Z : mj_X} {R : Option Value → mj_G → mj_M → Prop} {P : mj_K → Prop} (hC : mj_cls false (mj_sh Ls) (mj_rf tp ip) mj_dv mj_cd_28 (mj_Ex false (mj_sh Ls) (mj_rf tp ip) Z d) R P) (hd : 3 ≤ d) (htp : tp = 3 ∨ tp = 17) {v1 : Int32} {v2 : Int32} {m : mj_M} {r : Int32} (h : bp_rests tp v1 v2 m = some r) (hR : R (some (.int r)) (110, x) m) : P (0, [some (.ref 1), some (.int v1), some (.int v2), none, none], [], (110, x), m) := by
  unfold bp_rests at h
  rcases htp with rfl | rfl
  all_goals
    refine mj_gcp hC 3 ?_
    show P (5, [some (.ref 1), some (.int v1), some (.int v2), none, none], [.int v1, .ref _], (110, x), m)
    refine mj_pcall hC rfl (to_isMan_x (Nat.le_trans (by decide) hd) (by decide)) ?_
    show P (8, [some (.ref 1), some (.int v1), some (.int v2), none, none], [.int (to_isMan _ v1 m)], (110, x), m)
    refine mj_gcp hC 1 ?_
    show P (mj_pick 27 11 ((to_isMan _ v1 m) = 0), [some (.ref 1), some (.int v1), some (.int v2), none, none], [], (110, x), m)
    refine mj_pbr (fun c1 => ?_) (fun c1 => ?_)
    · rw [if_pos c1] at h
      refine mj_gcp hC 1 ?_
      show P (28, [some (.ref 1), some (.int v1), some (.int v2), none, none], [.int (-1)], (110, x), m)
      cases h
      exact mj_pret hC rfl hR
    · rw [if_neg c1] at h
      refine mj_gcp hC 3 ?_
      show P (16, [some (.ref 1), some (.int v1), some (.int v2), none, none], [.int v2, .ref _], (110, x), m)
      refine mj_pcall hC rfl (to_isMan_x (Nat.le_trans (by decide) hd) (by decide)) ?_
      show P (19, [some (.ref 1), some (.int v1), some (.int v2), none, none], [.int (to_isMan _ v2 m)], (110, x), m)
      refine mj_gcp hC 1 ?_
      show P (mj_pick 27 22 ((to_isMan _ v2 m) = 0), [some (.ref 1), some (.int v1), some (.int v2), none, none], [], (110, x), m)
      refine mj_pbr (fun c2 => ?_) (fun c2 => ?_)
      · rw [if_pos c2] at h
        refine mj_gcp hC 1 ?_
        show P (28, [some (.ref 1), some (.int v1), some (.int v2), none, none], [.int (-1)], (110, x), m)
        cases h
        exact mj_pret hC rfl hR
      · rw [if_neg c2] at h
        refine mj_gcp hC 3 ?_
        show P (mj_pick 27 29 (v1 = v2), [some (.ref 1), some (.int v1), some (.int v2), none, none], [], (110, x), m)
        refine mj_pbr (fun c3 => ?_) (fun c3 => ?_)
        · rw [if_pos c3] at h
          refine mj_gcp hC 1 ?_
          show P (28, [some (.ref 1), some (.int v1), some (.int v2), none, none], [.int (-1)], (110, x), m)
          cases h
          exact mj_pret hC rfl hR
        · rw [if_neg c3] at h
          refine mj_gcp hC 4 ?_
          show P (34, [some (.ref 1), some (.int v1), some (.int v2), some (.int 0), some (.int 0)], [], (110, x), m)
          obtain ⟨q6, eq6, h⟩ := mj_bnd h
          refine mj_less hC (L0 := [some (.ref 1), some (.int v1), some (.int v2), some (.int 0), some (.int 0)]) (And.intro rfl (And.intro rfl (And.intro rfl (And.intro rfl (And.intro rfl trivial))))) ?_
          refine mj_loop_P (A := fun z34 => P (34, [some (.ref 1), some (.int v1), some (.int v2), some (.int z34.1), some (.int z34.2)], [], (110, x), m)) (E := fun _ z34 => P (85, [none, none, none, some (.int z34.1), none], [], (110, x), m)) (fun zz t w hb h0 h1 => bp_rests_l34_x hC hd (by decide) zz hb h0 (fun ht => h1 0 ht)) mj_F _ q6 eq6 ?_
          refine mj_gcp hC 1 ?_
          show P (86, [none, none, none, some (.int q6.2.1), none], [.int q6.2.1], (110, x), m)
          cases h
          exact mj_pret hC rfl hR
set_option maxRecDepth 20000 in
theorem bp_rests_x {Ls tp ip x d : Nat} {Z : mj_X} (hd : 4 ≤ d) (htp : tp = 3 ∨ tp = 17) {v1 : Int32} {v2 : Int32} {m : mj_M} {r : Int32} (h : bp_rests tp v1 v2 m = some r) : mj_Ex false (mj_sh Ls) (mj_rf tp ip) Z d 28 [.ref 1, .int v1, .int v2] (110, x) m (some (.int r)) (110, x) m := by
  exact mj_Ex_of (cd := mj_cd_28) (L := [some (.ref 1), some (.int v1), some (.int v2), none, none]) (by omega) (by decide) rfl (Nat.le_of_ble_eq_true rfl) rfl (fun P hC => bp_rests_p hC (by omega) htp h ⟨rfl, rfl, rfl⟩)
def bp_rest_j103l39 (tp : Nat)  (v1 : Int32) (v2 : Int32) (v3 : Int32) (v4 : Int32) (v5 : Int32)  (m : mj_M) : Option (Nat × (Int32 × Int32)) :=
  some (0, (v4, (v5 + 1)))
def bp_rest_l39 (tp : Nat) (v1 : Int32) (v2 : Int32) (v3 : Int32) (m : mj_M) (s39 : (Int32 × Int32)) : Option (Nat × (Int32 × Int32)) :=
  (if 4 ≤ s39.2 then some (2, (s39.1, s39.2)) else
  (if (bp_isRest (fx_at m (tp + 2) v1) (fx_at m (tp + 2) v2) (s39.2 >>> (1 &&& 31)) (s39.2 &&& 1) m) = 0 then bp_rest_j103l39 tp v1 v2 v3 s39.1 s39.2 m else
  (if s39.1 = v3 then some (1, (s39.1, s39.2)) else
  bp_rest_j103l39 tp v1 v2 v3 (s39.1 + 1) s39.2 m)))
def bp_rest (tp : Nat) (v1 : Int32) (v2 : Int32) (v3 : Int32) (m : mj_M) : Option Int32 :=
  (if (to_isMan tp v1 m) = 0 then some (-1) else
  (if (to_isMan tp v2 m) = 0 then some (-1) else
  (if v1 = v2 then some (-1) else
  (if 0 ≤ v3 then (mj_loop (bp_rest_l39 tp v1 v2 v3 m) mj_F (0, 0)).bind fun q8 =>
  (if q8.1 = 0 then some ((10 * (q8.2.2 >>> (1 &&& 31))) + (q8.2.2 &&& 1)) else some (-2)) else
  some (-1)))))
set_option maxRecDepth 20000 in
theorem bp_rest_j103l39_x {Ls tp ip x d : Nat} {Z : mj_X} {R : Option Value → mj_G → mj_M → Prop} {P : mj_K → Prop} (hC : mj_cls false (mj_sh Ls) (mj_rf tp ip) mj_dv mj_cd_29 (mj_Ex false (mj_sh Ls) (mj_rf tp ip) Z d) R P) (hd : 3 ≤ d) (htp : tp = 3 ∨ tp = 17)  {v1 : Int32} {v2 : Int32} {v3 : Int32} {v4 : Int32} {v5 : Int32}  {m : mj_M} {t : Nat} {w : (Int32 × Int32)} (h : bp_rest_j103l39 tp  v1 v2 v3 v4 v5 m = some (t, w)) (h0 : t = 0 → P (39, [some (.ref 1), some (.int v1), some (.int v2), some (.int v3), some (.int w.1), some (.int w.2)], [], (110, x), m)) (h1 : t = 1 → P (87, [none, none, none, none, none, some (.int w.2)], [], (110, x), m)) (h2 : t = 2 → P (109, [none, none, none, none, none, none], [], (110, x), m)) : P (103, [some (.ref 1), some (.int v1), some (.int v2), some (.int v3), some (.int v4), some (.int v5)], [], (110, x), m) := by
  unfold bp_rest_j103l39 at h
  rcases htp with rfl | rfl
  all_goals
    refine mj_gcp hC 2 ?_
    show P (39, [some (.ref 1), some (.int v1), some (.int v2), some (.int v3), some (.int v4), some (.int (v5 + 1))], [], (110, x), m)
    cases h
    exact mj_less hC (L0 := [some (.ref 1), some (.int v1), some (.int v2), some (.int v3), some (.int v4), some (.int (v5 + 1))]) (And.intro rfl (And.intro rfl (And.intro rfl (And.intro rfl (And.intro rfl (And.intro rfl trivial)))))) (h0 rfl)
set_option maxRecDepth 20000 in
theorem bp_rest_l39_x {Ls tp ip x d : Nat} {Z : mj_X} {R : Option Value → mj_G → mj_M → Prop} {P : mj_K → Prop} (hC : mj_cls false (mj_sh Ls) (mj_rf tp ip) mj_dv mj_cd_29 (mj_Ex false (mj_sh Ls) (mj_rf tp ip) Z d) R P) (hd : 3 ≤ d) (htp : tp = 3 ∨ tp = 17) {v1 : Int32} {v2 : Int32} {v3 : Int32} {m : mj_M} (s39 : (Int32 × Int32)) {t : Nat} {w : (Int32 × Int32)} (h : bp_rest_l39 tp v1 v2 v3 m s39 = some (t, w)) (h0 : t = 0 → P (39, [some (.ref 1), some (.int v1), some (.int v2), some (.int v3), some (.int w.1), some (.int w.2)], [], (110, x), m)) (h1 : t = 1 → P (87, [none, none, none, none, none, some (.int w.2)], [], (110, x), m)) (h2 : t = 2 → P (109, [none, none, none, none, none, none], [], (110, x), m)) : P (39, [some (.ref 1), some (.int v1), some (.int v2), some (.int v3), some (.int s39.1), some (.int s39.2)], [], (110, x), m) := by
  unfold bp_rest_l39 at h
  rcases htp with rfl | rfl
  all_goals
    refine mj_gcp hC 3 ?_
    show P (mj_pick 109 45 (4 ≤ s39.2), [some (.ref 1), some (.int v1), some (.int v2), some (.int v3), some (.int s39.1), some (.int s39.2)], [], (110, x), m)
    refine mj_pbr (fun c5 => ?_) (fun c5 => ?_)
    · rw [if_pos c5] at h
      cases h
      exact mj_less hC (L0 := [none, none, none, none, none, none]) trivial (h2 rfl)
    · rw [if_neg c5] at h
      refine mj_gcp hC 4 ?_
      show P (53, [some (.ref 1), some (.int v1), some (.int v2), some (.int v3), some (.int s39.1), some (.int s39.2)], [.int v1, .ref _], (110, x), m)
      refine mj_pcall hC rfl (bp_at_x (Nat.le_trans (by decide) hd) (by decide)) ?_
      show P (56, [some (.ref 1), some (.int v1), some (.int v2), some (.int v3), some (.int s39.1), some (.int s39.2)], [.int (fx_at m _ v1)], (110, x), m)
      refine mj_gcp hC 4 ?_
      show P (64, [some (.ref 1), some (.int v1), some (.int v2), some (.int v3), some (.int s39.1), some (.int s39.2)], [.int v2, .ref _, .int (fx_at m _ v1)], (110, x), m)
      refine mj_pcall hC rfl (bp_at_x (Nat.le_trans (by decide) hd) (by decide)) ?_
      show P (67, [some (.ref 1), some (.int v1), some (.int v2), some (.int v3), some (.int s39.1), some (.int s39.2)], [.int (fx_at m _ v2), .int (fx_at m _ v1)], (110, x), m)
      refine mj_gcp hC 6 ?_
      show P (75, [some (.ref 1), some (.int v1), some (.int v2), some (.int v3), some (.int s39.1), some (.int s39.2)], [.int (s39.2 &&& 1), .int (s39.2 >>> (1 &&& 31)), .int (fx_at m _ v2), .int (fx_at m _ v1)], (110, x), m)
      refine mj_pcall hC rfl (bp_isRest_x (Nat.le_trans (by decide) hd)) ?_
      show P (78, [some (.ref 1), some (.int v1), some (.int v2), some (.int v3), some (.int s39.1), some (.int s39.2)], [.int (bp_isRest (fx_at m _ v1) (fx_at m _ v2) (s39.2 >>> (1 &&& 31)) (s39.2 &&& 1) m)], (110, x), m)
      refine mj_gcp hC 1 ?_
      show P (mj_pick 103 81 ((bp_isRest (fx_at m _ v1) (fx_at m _ v2) (s39.2 >>> (1 &&& 31)) (s39.2 &&& 1) m) = 0), [some (.ref 1), some (.int v1), some (.int v2), some (.int v3), some (.int s39.1), some (.int s39.2)], [], (110, x), m)
      refine mj_pbr (fun c6 => ?_) (fun c6 => ?_)
      · rw [if_pos c6] at h
        exact mj_less hC (L0 := [some (.ref 1), some (.int v1), some (.int v2), some (.int v3), some (.int s39.1), some (.int s39.2)]) (And.intro rfl (And.intro rfl (And.intro rfl (And.intro rfl (And.intro rfl (And.intro rfl trivial)))))) (bp_rest_j103l39_x hC hd (by decide) h h0 h1 h2)
      · rw [if_neg c6] at h
        refine mj_gcp hC 3 ?_
        show P (mj_pick 87 100 (s39.1 = v3), [some (.ref 1), some (.int v1), some (.int v2), some (.int v3), some (.int s39.1), some (.int s39.2)], [], (110, x), m)
        refine mj_pbr (fun c7 => ?_) (fun c7 => ?_)
        · rw [if_pos c7] at h
          cases h
          exact mj_less hC (L0 := [none, none, none, none, none, some (.int s39.2)]) (And.intro rfl trivial) (h1 rfl)
        · rw [if_neg c7] at h
          refine mj_gcp hC 1 ?_
          show P (103, [some (.ref 1), some (.int v1), some (.int v2), some (.int v3), some (.int (s39.1 + 1)), some (.int s39.2)], [], (110, x), m)
          exact mj_less hC (L0 := [some (.ref 1), some (.int v1), some (.int v2), some (.int v3), some (.int (s39.1 + 1)), some (.int s39.2)]) (And.intro rfl (And.intro rfl (And.intro rfl (And.intro rfl (And.intro rfl (And.intro rfl trivial)))))) (bp_rest_j103l39_x hC hd (by decide) h h0 h1 h2)
set_option maxRecDepth 20000 in
theorem bp_rest_p {Ls tp ip x d : Nat} {Z : mj_X} {R : Option Value → mj_G → mj_M → Prop} {P : mj_K → Prop} (hC : mj_cls false (mj_sh Ls) (mj_rf tp ip) mj_dv mj_cd_29 (mj_Ex false (mj_sh Ls) (mj_rf tp ip) Z d) R P) (hd : 3 ≤ d) (htp : tp = 3 ∨ tp = 17) {v1 : Int32} {v2 : Int32} {v3 : Int32} {m : mj_M} {r : Int32} (h : bp_rest tp v1 v2 v3 m = some r) (hR : R (some (.int r)) (110, x) m) : P (0, [some (.ref 1), some (.int v1), some (.int v2), some (.int v3), none, none], [], (110, x), m) := by
  unfold bp_rest at h
  rcases htp with rfl | rfl
  all_goals
    refine mj_gcp hC 3 ?_
    show P (5, [some (.ref 1), some (.int v1), some (.int v2), some (.int v3), none, none], [.int v1, .ref _], (110, x), m)
    refine mj_pcall hC rfl (to_isMan_x (Nat.le_trans (by decide) hd) (by decide)) ?_
    show P (8, [some (.ref 1), some (.int v1), some (.int v2), some (.int v3), none, none], [.int (to_isMan _ v1 m)], (110, x), m)
    refine mj_gcp hC 1 ?_
    show P (mj_pick 31 11 ((to_isMan _ v1 m) = 0), [some (.ref 1), some (.int v1), some (.int v2), some (.int v3), none, none], [], (110, x), m)
    refine mj_pbr (fun c1 => ?_) (fun c1 => ?_)
    · rw [if_pos c1] at h
      refine mj_gcp hC 1 ?_
      show P (32, [some (.ref 1), some (.int v1), some (.int v2), some (.int v3), none, none], [.int (-1)], (110, x), m)
      cases h
      exact mj_pret hC rfl hR
    · rw [if_neg c1] at h
      refine mj_gcp hC 3 ?_
      show P (16, [some (.ref 1), some (.int v1), some (.int v2), some (.int v3), none, none], [.int v2, .ref _], (110, x), m)
      refine mj_pcall hC rfl (to_isMan_x (Nat.le_trans (by decide) hd) (by decide)) ?_
      show P (19, [some (.ref 1), some (.int v1), some (.int v2), some (.int v3), none, none], [.int (to_isMan _ v2 m)], (110, x), m)
      refine mj_gcp hC 1 ?_
      show P (mj_pick 31 22 ((to_isMan _ v2 m) = 0), [some (.ref 1), some (.int v1), some (.int v2), some (.int v3), none, none], [], (110, x), m)
      refine mj_pbr (fun c2 => ?_) (fun c2 => ?_)
      · rw [if_pos c2] at h
        refine mj_gcp hC 1 ?_
        show P (32, [some (.ref 1), some (.int v1), some (.int v2), some (.int v3), none, none], [.int (-1)], (110, x), m)
        cases h
        exact mj_pret hC rfl hR
      · rw [if_neg c2] at h
        refine mj_gcp hC 3 ?_
        show P (mj_pick 31 27 (v1 = v2), [some (.ref 1), some (.int v1), some (.int v2), some (.int v3), none, none], [], (110, x), m)
        refine mj_pbr (fun c3 => ?_) (fun c3 => ?_)
        · rw [if_pos c3] at h
          refine mj_gcp hC 1 ?_
          show P (32, [some (.ref 1), some (.int v1), some (.int v2), some (.int v3), none, none], [.int (-1)], (110, x), m)
          cases h
          exact mj_pret hC rfl hR
        · rw [if_neg c3] at h
          refine mj_gcp hC 2 ?_
          show P (mj_pick 33 31 (0 ≤ v3), [some (.ref 1), some (.int v1), some (.int v2), some (.int v3), none, none], [], (110, x), m)
          refine mj_pbr (fun c4 => ?_) (fun c4 => ?_)
          · rw [if_pos c4] at h
            refine mj_gcp hC 4 ?_
            show P (39, [some (.ref 1), some (.int v1), some (.int v2), some (.int v3), some (.int 0), some (.int 0)], [], (110, x), m)
            obtain ⟨q8, eq8, h⟩ := mj_bnd h
            refine mj_less hC (L0 := [some (.ref 1), some (.int v1), some (.int v2), some (.int v3), some (.int 0), some (.int 0)]) (And.intro rfl (And.intro rfl (And.intro rfl (And.intro rfl (And.intro rfl (And.intro rfl trivial)))))) ?_
            refine mj_loop_P (A := fun z39 => P (39, [some (.ref 1), some (.int v1), some (.int v2), some (.int v3), some (.int z39.1), some (.int z39.2)], [], (110, x), m)) (E := fun j z39 => (j = 0 → P (87, [none, none, none, none, none, some (.int z39.2)], [], (110, x), m)) ∧ (¬ j = 0 → P (109, [none, none, none, none, none, none], [], (110, x), m))) (fun zz t w hb h0 h1 => bp_rest_l39_x hC hd (by decide) zz hb h0 (fun ht => (h1 0 ht).1 rfl) (fun ht => (h1 1 ht).2 (by decide))) mj_F _ q8 eq8 ⟨fun hj => ?_, fun hj => ?_⟩
            · rw [if_pos hj] at h
              refine mj_gcp hC 9 ?_
              show P (99, [none, none, none, none, none, some (.int q8.2.2)], [.int ((10 * (q8.2.2 >>> (1 &&& 31))) + (q8.2.2 &&& 1))], (110, x), m)
              cases h
              exact mj_pret hC rfl hR
            · rw [if_neg hj] at h
              refine mj_gcp hC 1 ?_
              show P (111, [none, none, none, none, none, none], [.int (-2)], (110, x), m)
              cases h
              exact mj_pret hC rfl hR
          · rw [if_neg c4] at h
            refine mj_gcp hC 1 ?_
            show P (32, [some (.ref 1), some (.int v1), some (.int v2), some (.int v3), none, none], [.int (-1)], (110, x), m)
            cases h
            exact mj_pret hC rfl hR
set_option maxRecDepth 20000 in
theorem bp_rest_x {Ls tp ip x d : Nat} {Z : mj_X} (hd : 4 ≤ d) (htp : tp = 3 ∨ tp = 17) {v1 : Int32} {v2 : Int32} {v3 : Int32} {m : mj_M} {r : Int32} (h : bp_rest tp v1 v2 v3 m = some r) : mj_Ex false (mj_sh Ls) (mj_rf tp ip) Z d 29 [.ref 1, .int v1, .int v2, .int v3] (110, x) m (some (.int r)) (110, x) m := by
  exact mj_Ex_of (cd := mj_cd_29) (L := [some (.ref 1), some (.int v1), some (.int v2), some (.int v3), none, none]) (by omega) (by decide) rfl (Nat.le_of_ble_eq_true rfl) rfl (fun P hC => bp_rest_p hC (by omega) htp h ⟨rfl, rfl, rfl⟩)
def rd_readMan (ip : Nat)  (m : mj_M) : Option mj_M :=
  (rd_takeUnless (mj_I (m ip 0)) 6 m).bind fun q1 =>
  (rd_readNewName (ip + 1) (mj_I (q1 ip 0)) q1).bind fun q2 =>
  (rd_readNumber 1 199 q2.2).bind fun q3 =>
  (rd_readNumber 0 99 q3.2).bind fun q4 =>
  (if (mj_I (q4.2 31 4)) = 0 then some (mj_up (fx_put (fx_put (fx_put q4.2 (ip + 1) (mj_I (q4.2 ip 0)) q2.1) (ip + 2) (mj_I (q4.2 ip 0)) q3.1) (ip + 3) (mj_I (q4.2 ip 0)) q4.1) ip 0 (.int ((mj_I (q4.2 ip 0)) + 1))) else
  some q4.2)
set_option maxRecDepth 20000 in
theorem rd_readMan_p {Ls tp ip x d : Nat} {Z : mj_X} {R : Option Value → mj_G → mj_M → Prop} {P : mj_K → Prop} (hC : mj_cls false (mj_sh Ls) (mj_rf tp ip) mj_dv mj_cd_79 (mj_Ex false (mj_sh Ls) (mj_rf tp ip) Z d) R P) (hd : 4 ≤ d) (hip : ip = 3 ∨ ip = 17)  {m : mj_M} {r : mj_M} (h : rd_readMan ip m = some r) (hR : R none (110, x) r) : P (0, [some (.ref 31), none, none, none], [], (110, x), m) := by
  unfold rd_readMan at h
  rcases hip with rfl | rfl
  all_goals
    refine mj_gcp hC 5 ?_
    show P (10, [some (.ref 31), none, none, none], [.int 6, .int (mj_I (m _ 0)), .ref 31], (110, x), m)
    obtain ⟨q1, eq1, h⟩ := mj_bnd h
    refine mj_pcall hC rfl (rd_takeUnless_x (Nat.le_trans (by decide) hd) eq1) ?_
    show P (13, [some (.ref 31), none, none, none], [], (110, x), q1)
    refine mj_gcp hC 7 ?_
    show P (28, [some (.ref 31), none, none, none], [.int (mj_I (q1 _ 0)), .ref _, .ref 31], (110, x), q1)
    obtain ⟨q2, eq2, h⟩ := mj_bnd h
    refine mj_pcall hC rfl (rd_readNewName_x (Nat.le_trans (by decide) hd) (by decide) eq2) ?_
    show P (31, [some (.ref 31), none, none, none], [.int q2.1], (110, x), q2.2)
    refine mj_gcp hC 4 ?_
    show P (37, [some (.ref 31), some (.int q2.1), none, none], [.int 199, .int 1, .ref 31], (110, x), q2.2)
    obtain ⟨q3, eq3, h⟩ := mj_bnd h
    refine mj_pcall hC rfl (rd_readNumber_x (Nat.le_trans (by decide) hd) eq3) ?_
    show P (40, [some (.ref 31), some (.int q2.1), none, none], [.int q3.1], (110, x), q3.2)
    refine mj_gcp hC 4 ?_
    show P (45, [some (.ref 31), some (.int q2.1), some (.int q3.1), none], [.int 99, .int 0, .ref 31], (110, x), q3.2)
    obtain ⟨q4, eq4, h⟩ := mj_bnd h
    refine mj_pcall hC rfl (rd_readNumber_x (Nat.le_trans (by decide) hd) eq4) ?_
    show P (48, [some (.ref 31), some (.int q2.1), some (.int q3.1), none], [.int q4.1], (110, x), q4.2)
    refine mj_gcp hC 4 ?_
    show P (mj_pick 56 123 ((mj_I (q4.2 31 4)) = 0), [some (.ref 31), some (.int q2.1), some (.int q3.1), some (.int q4.1)], [], (110, x), q4.2)
    refine mj_pbr (fun c5 => ?_) (fun c5 => ?_)
    · rw [if_pos c5] at h
      refine mj_gcp hC 7 ?_
      show P (71, [some (.ref 31), some (.int q2.1), some (.int q3.1), some (.int q4.1)], [.int q2.1, .int (mj_I (q4.2 _ 0)), .ref _], (110, x), q4.2)
      refine mj_pcall hC rfl (bp_put_x (Nat.le_trans (by decide) hd) (by decide)) ?_
      show P (74, [some (.ref 31), some (.int q2.1), some (.int q3.1), some (.int q4.1)], [], (110, x), (fx_put q4.2 _ (mj_I (q4.2 _ 0)) q2.1))
      refine mj_gcp hC 7 ?_
      show P (89, [some (.ref 31), some (.int q2.1), some (.int q3.1), some (.int q4.1)], [.int q3.1, .int (mj_I (q4.2 _ 0)), .ref _], (110, x), (fx_put q4.2 _ (mj_I (q4.2 _ 0)) q2.1))
      refine mj_pcall hC rfl (bp_put_x (Nat.le_trans (by decide) hd) (by decide)) ?_
      show P (92, [some (.ref 31), some (.int q2.1), some (.int q3.1), some (.int q4.1)], [], (110, x), (fx_put (fx_put q4.2 _ (mj_I (q4.2 _ 0)) q2.1) _ (mj_I (q4.2 _ 0)) q3.1))
      refine mj_gcp hC 7 ?_
      show P (107, [some (.ref 31), some (.int q2.1), some (.int q3.1), some (.int q4.1)], [.int q4.1, .int (mj_I (q4.2 _ 0)), .ref _], (110, x), (fx_put (fx_put q4.2 _ (mj_I (q4.2 _ 0)) q2.1) _ (mj_I (q4.2 _ 0)) q3.1))
      refine mj_pcall hC rfl (bp_put_x (Nat.le_trans (by decide) hd) (by decide)) ?_
      show P (110, [some (.ref 31), some (.int q2.1), some (.int q3.1), some (.int q4.1)], [], (110, x), (fx_put (fx_put (fx_put q4.2 _ (mj_I (q4.2 _ 0)) q2.1) _ (mj_I (q4.2 _ 0)) q3.1) _ (mj_I (q4.2 _ 0)) q4.1))
      refine mj_gcp hC 7 ?_
      show P (123, [some (.ref 31), some (.int q2.1), some (.int q3.1), some (.int q4.1)], [], (110, x), (mj_up (fx_put (fx_put (fx_put q4.2 _ (mj_I (q4.2 _ 0)) q2.1) _ (mj_I (q4.2 _ 0)) q3.1) _ (mj_I (q4.2 _ 0)) q4.1) _ 0 (.int ((mj_I (q4.2 _ 0)) + 1))))
      cases h
      exact mj_pret hC rfl hR
    · rw [if_neg c5] at h
      cases h
      exact mj_pret hC rfl hR
set_option maxRecDepth 20000 in
theorem rd_readMan_x {Ls tp ip x d : Nat} {Z : mj_X} (hd : 5 ≤ d) (hip : ip = 3 ∨ ip = 17)  {m : mj_M} {r : mj_M} (h : rd_readMan ip m = some r) : mj_Ex false (mj_sh Ls) (mj_rf tp ip) Z d 79 [.ref 31] (110, x) m none (110, x) r := by
  exact mj_Ex_of (cd := mj_cd_79) (L := [some (.ref 31), none, none, none]) (by omega) (by decide) rfl (Nat.le_of_ble_eq_true rfl) rfl (fun P hC => rd_readMan_p hC (by omega) hip h ⟨rfl, rfl, rfl⟩)
def rd_readWork (ip : Nat)  (m : mj_M) : Option mj_M :=
  (rd_takeUnless (mj_I (m ip 5)) 8 m).bind fun q1 =>
  (rd_readNewName (ip + 5) (mj_I (q1 ip 5)) q1).bind fun q2 =>
  (rd_findPerson ip q2.2).bind fun q3 =>
  (rd_take 21 q3.2).bind fun q4 =>
  (rd_readNumber 1 999 q4).bind fun q5 =>
  (rd_readNumber 1 12 q5.2).bind fun q6 =>
  (rd_readNumber 0 99 q6.2).bind fun q7 =>
  (if (mj_I (q7.2 31 4)) = 0 then some (mj_up (fx_put (fx_put (fx_put (fx_put (fx_put q7.2 (ip + 5) (mj_I (q7.2 ip 5)) q2.1) (ip + 6) (mj_I (q7.2 ip 5)) q3.1) (ip + 7) (mj_I (q7.2 ip 5)) q5.1) (ip + 8) (mj_I (q7.2 ip 5)) q6.1) (ip + 9) (mj_I (q7.2 ip 5)) q7.1) ip 5 (.int ((mj_I (q7.2 ip 5)) + 1))) else
  some q7.2)
set_option maxRecDepth 20000 in
theorem rd_readWork_p {Ls tp ip x d : Nat} {Z : mj_X} {R : Option Value → mj_G → mj_M → Prop} {P : mj_K → Prop} (hC : mj_cls false (mj_sh Ls) (mj_rf tp ip) mj_dv mj_cd_81 (mj_Ex false (mj_sh Ls) (mj_rf tp ip) Z d) R P) (hd : 4 ≤ d) (hip : ip = 3 ∨ ip = 17)  {m : mj_M} {r : mj_M} (h : rd_readWork ip m = some r) (hR : R none (110, x) r) : P (0, [some (.ref 31), none, none, none, none, none], [], (110, x), m) := by
  unfold rd_readWork at h
  rcases hip with rfl | rfl
  all_goals
    refine mj_gcp hC 5 ?_
    show P (10, [some (.ref 31), none, none, none, none, none], [.int 8, .int (mj_I (m _ 5)), .ref 31], (110, x), m)
    obtain ⟨q1, eq1, h⟩ := mj_bnd h
    refine mj_pcall hC rfl (rd_takeUnless_x (Nat.le_trans (by decide) hd) eq1) ?_
    show P (13, [some (.ref 31), none, none, none, none, none], [], (110, x), q1)
    refine mj_gcp hC 7 ?_
    show P (28, [some (.ref 31), none, none, none, none, none], [.int (mj_I (q1 _ 5)), .ref _, .ref 31], (110, x), q1)
    obtain ⟨q2, eq2, h⟩ := mj_bnd h
    refine mj_pcall hC rfl (rd_readNewName_x (Nat.le_trans (by decide) hd) (by decide) eq2) ?_
    show P (31, [some (.ref 31), none, none, none, none, none], [.int q2.1], (110, x), q2.2)
    refine mj_gcp hC 2 ?_
    show P (33, [some (.ref 31), some (.int q2.1), none, none, none, none], [.ref 31], (110, x), q2.2)
    obtain ⟨q3, eq3, h⟩ := mj_bnd h
    refine mj_pcall hC rfl (rd_findPerson_x (Nat.le_trans (by decide) hd) (by decide) eq3) ?_
    show P (36, [some (.ref 31), some (.int q2.1), none, none, none, none], [.int q3.1], (110, x), q3.2)
    refine mj_gcp hC 3 ?_
    show P (40, [some (.ref 31), some (.int q2.1), some (.int q3.1), none, none, none], [.int 21, .ref 31], (110, x), q3.2)
    obtain ⟨q4, eq4, h⟩ := mj_bnd h
    refine mj_pcall hC rfl (rd_take_x (Nat.le_trans (by decide) hd) eq4) ?_
    show P (43, [some (.ref 31), some (.int q2.1), some (.int q3.1), none, none, none], [], (110, x), q4)
    refine mj_gcp hC 3 ?_
    show P (48, [some (.ref 31), some (.int q2.1), some (.int q3.1), none, none, none], [.int 999, .int 1, .ref 31], (110, x), q4)
    obtain ⟨q5, eq5, h⟩ := mj_bnd h
    refine mj_pcall hC rfl (rd_readNumber_x (Nat.le_trans (by decide) hd) eq5) ?_
    show P (51, [some (.ref 31), some (.int q2.1), some (.int q3.1), none, none, none], [.int q5.1], (110, x), q5.2)
    refine mj_gcp hC 4 ?_
    show P (56, [some (.ref 31), some (.int q2.1), some (.int q3.1), some (.int q5.1), none, none], [.int 12, .int 1, .ref 31], (110, x), q5.2)
    obtain ⟨q6, eq6, h⟩ := mj_bnd h
    refine mj_pcall hC rfl (rd_readNumber_x (Nat.le_trans (by decide) hd) eq6) ?_
    show P (59, [some (.ref 31), some (.int q2.1), some (.int q3.1), some (.int q5.1), none, none], [.int q6.1], (110, x), q6.2)
    refine mj_gcp hC 4 ?_
    show P (65, [some (.ref 31), some (.int q2.1), some (.int q3.1), some (.int q5.1), some (.int q6.1), none], [.int 99, .int 0, .ref 31], (110, x), q6.2)
    obtain ⟨q7, eq7, h⟩ := mj_bnd h
    refine mj_pcall hC rfl (rd_readNumber_x (Nat.le_trans (by decide) hd) eq7) ?_
    show P (68, [some (.ref 31), some (.int q2.1), some (.int q3.1), some (.int q5.1), some (.int q6.1), none], [.int q7.1], (110, x), q7.2)
    refine mj_gcp hC 4 ?_
    show P (mj_pick 77 182 ((mj_I (q7.2 31 4)) = 0), [some (.ref 31), some (.int q2.1), some (.int q3.1), some (.int q5.1), some (.int q6.1), some (.int q7.1)], [], (110, x), q7.2)
    refine mj_pbr (fun c8 => ?_) (fun c8 => ?_)
    · rw [if_pos c8] at h
      refine mj_gcp hC 7 ?_
      show P (92, [some (.ref 31), some (.int q2.1), some (.int q3.1), some (.int q5.1), some (.int q6.1), some (.int q7.1)], [.int q2.1, .int (mj_I (q7.2 _ 5)), .ref _], (110, x), q7.2)
      refine mj_pcall hC rfl (bp_put_x (Nat.le_trans (by decide) hd) (by decide)) ?_
      show P (95, [some (.ref 31), some (.int q2.1), some (.int q3.1), some (.int q5.1), some (.int q6.1), some (.int q7.1)], [], (110, x), (fx_put q7.2 _ (mj_I (q7.2 _ 5)) q2.1))
      refine mj_gcp hC 7 ?_
      show P (110, [some (.ref 31), some (.int q2.1), some (.int q3.1), some (.int q5.1), some (.int q6.1), some (.int q7.1)], [.int q3.1, .int (mj_I (q7.2 _ 5)), .ref _], (110, x), (fx_put q7.2 _ (mj_I (q7.2 _ 5)) q2.1))
      refine mj_pcall hC rfl (bp_put_x (Nat.le_trans (by decide) hd) (by decide)) ?_
      show P (113, [some (.ref 31), some (.int q2.1), some (.int q3.1), some (.int q5.1), some (.int q6.1), some (.int q7.1)], [], (110, x), (fx_put (fx_put q7.2 _ (mj_I (q7.2 _ 5)) q2.1) _ (mj_I (q7.2 _ 5)) q3.1))
      refine mj_gcp hC 7 ?_
      show P (128, [some (.ref 31), some (.int q2.1), some (.int q3.1), some (.int q5.1), some (.int q6.1), some (.int q7.1)], [.int q5.1, .int (mj_I (q7.2 _ 5)), .ref _], (110, x), (fx_put (fx_put q7.2 _ (mj_I (q7.2 _ 5)) q2.1) _ (mj_I (q7.2 _ 5)) q3.1))
      refine mj_pcall hC rfl (bp_put_x (Nat.le_trans (by decide) hd) (by decide)) ?_
      show P (131, [some (.ref 31), some (.int q2.1), some (.int q3.1), some (.int q5.1), some (.int q6.1), some (.int q7.1)], [], (110, x), (fx_put (fx_put (fx_put q7.2 _ (mj_I (q7.2 _ 5)) q2.1) _ (mj_I (q7.2 _ 5)) q3.1) _ (mj_I (q7.2 _ 5)) q5.1))
      refine mj_gcp hC 7 ?_
      show P (147, [some (.ref 31), some (.int q2.1), some (.int q3.1), some (.int q5.1), some (.int q6.1), some (.int q7.1)], [.int q6.1, .int (mj_I (q7.2 _ 5)), .ref _], (110, x), (fx_put (fx_put (fx_put q7.2 _ (mj_I (q7.2 _ 5)) q2.1) _ (mj_I (q7.2 _ 5)) q3.1) _ (mj_I (q7.2 _ 5)) q5.1))
      refine mj_pcall hC rfl (bp_put_x (Nat.le_trans (by decide) hd) (by decide)) ?_
      show P (150, [some (.ref 31), some (.int q2.1), some (.int q3.1), some (.int q5.1), some (.int q6.1), some (.int q7.1)], [], (110, x), (fx_put (fx_put (fx_put (fx_put q7.2 _ (mj_I (q7.2 _ 5)) q2.1) _ (mj_I (q7.2 _ 5)) q3.1) _ (mj_I (q7.2 _ 5)) q5.1) _ (mj_I (q7.2 _ 5)) q6.1))
      refine mj_gcp hC 7 ?_
      show P (166, [some (.ref 31), some (.int q2.1), some (.int q3.1), some (.int q5.1), some (.int q6.1), some (.int q7.1)], [.int q7.1, .int (mj_I (q7.2 _ 5)), .ref _], (110, x), (fx_put (fx_put (fx_put (fx_put q7.2 _ (mj_I (q7.2 _ 5)) q2.1) _ (mj_I (q7.2 _ 5)) q3.1) _ (mj_I (q7.2 _ 5)) q5.1) _ (mj_I (q7.2 _ 5)) q6.1))
      refine mj_pcall hC rfl (bp_put_x (Nat.le_trans (by decide) hd) (by decide)) ?_
      show P (169, [some (.ref 31), some (.int q2.1), some (.int q3.1), some (.int q5.1), some (.int q6.1), some (.int q7.1)], [], (110, x), (fx_put (fx_put (fx_put (fx_put (fx_put q7.2 _ (mj_I (q7.2 _ 5)) q2.1) _ (mj_I (q7.2 _ 5)) q3.1) _ (mj_I (q7.2 _ 5)) q5.1) _ (mj_I (q7.2 _ 5)) q6.1) _ (mj_I (q7.2 _ 5)) q7.1))
      refine mj_gcp hC 7 ?_
      show P (182, [some (.ref 31), some (.int q2.1), some (.int q3.1), some (.int q5.1), some (.int q6.1), some (.int q7.1)], [], (110, x), (mj_up (fx_put (fx_put (fx_put (fx_put (fx_put q7.2 _ (mj_I (q7.2 _ 5)) q2.1) _ (mj_I (q7.2 _ 5)) q3.1) _ (mj_I (q7.2 _ 5)) q5.1) _ (mj_I (q7.2 _ 5)) q6.1) _ (mj_I (q7.2 _ 5)) q7.1) _ 5 (.int ((mj_I (q7.2 _ 5)) + 1))))
      cases h
      exact mj_pret hC rfl hR
    · rw [if_neg c8] at h
      cases h
      exact mj_pret hC rfl hR
set_option maxRecDepth 20000 in
theorem rd_readWork_x {Ls tp ip x d : Nat} {Z : mj_X} (hd : 5 ≤ d) (hip : ip = 3 ∨ ip = 17)  {m : mj_M} {r : mj_M} (h : rd_readWork ip m = some r) : mj_Ex false (mj_sh Ls) (mj_rf tp ip) Z d 81 [.ref 31] (110, x) m none (110, x) r := by
  exact mj_Ex_of (cd := mj_cd_81) (L := [some (.ref 31), none, none, none, none, none]) (by omega) (by decide) rfl (Nat.le_of_ble_eq_true rfl) rfl (fun P hC => rd_readWork_p hC (by omega) hip h ⟨rfl, rfl, rfl⟩)
def rd_readSpeed (ip : Nat)  (m : mj_M) : Option mj_M :=
  (rd_takeUnless (mj_I (m ip 11)) 8 m).bind fun q1 =>
  (rd_readNumber 1 199 q1).bind fun q2 =>
  (if (mj_I (q2.2 31 4)) = 0 then some (mj_up (fx_put q2.2 (ip + 10) (mj_I (q2.2 ip 11)) q2.1) ip 11 (.int ((mj_I (q2.2 ip 11)) + 1))) else
  some q2.2)
set_option maxRecDepth 20000 in
theorem rd_readSpeed_p {Ls tp ip x d : Nat} {Z : mj_X} {R : Option Value → mj_G → mj_M → Prop} {P : mj_K → Prop} (hC : mj_cls false (mj_sh Ls) (mj_rf tp ip) mj_dv mj_cd_82 (mj_Ex false (mj_sh Ls) (mj_rf tp ip) Z d) R P) (hd : 4 ≤ d) (hip : ip = 3 ∨ ip = 17)  {m : mj_M} {r : mj_M} (h : rd_readSpeed ip m = some r) (hR : R none (110, x) r) : P (0, [some (.ref 31), none], [], (110, x), m) := by
  unfold rd_readSpeed at h
  rcases hip with rfl | rfl
  all_goals
    refine mj_gcp hC 5 ?_
    show P (10, [some (.ref 31), none], [.int 8, .int (mj_I (m _ 11)), .ref 31], (110, x), m)
    obtain ⟨q1, eq1, h⟩ := mj_bnd h
    refine mj_pcall hC rfl (rd_takeUnless_x (Nat.le_trans (by decide) hd) eq1) ?_
    show P (13, [some (.ref 31), none], [], (110, x), q1)
    refine mj_gcp hC 3 ?_
    show P (18, [some (.ref 31), none], [.int 199, .int 1, .ref 31], (110, x), q1)
    obtain ⟨q2, eq2, h⟩ := mj_bnd h
    refine mj_pcall hC rfl (rd_readNumber_x (Nat.le_trans (by decide) hd) eq2) ?_
    show P (21, [some (.ref 31), none], [.int q2.1], (110, x), q2.2)
    refine mj_gcp hC 4 ?_
    show P (mj_pick 29 60 ((mj_I (q2.2 31 4)) = 0), [some (.ref 31), some (.int q2.1)], [], (110, x), q2.2)
    refine mj_pbr (fun c3 => ?_) (fun c3 => ?_)
    · rw [if_pos c3] at h
      refine mj_gcp hC 7 ?_
      show P (44, [some (.ref 31), some (.int q2.1)], [.int q2.1, .int (mj_I (q2.2 _ 11)), .ref _], (110, x), q2.2)
      refine mj_pcall hC rfl (bp_put_x (Nat.le_trans (by decide) hd) (by decide)) ?_
      show P (47, [some (.ref 31), some (.int q2.1)], [], (110, x), (fx_put q2.2 _ (mj_I (q2.2 _ 11)) q2.1))
      refine mj_gcp hC 7 ?_
      show P (60, [some (.ref 31), some (.int q2.1)], [], (110, x), (mj_up (fx_put q2.2 _ (mj_I (q2.2 _ 11)) q2.1) _ 11 (.int ((mj_I (q2.2 _ 11)) + 1))))
      cases h
      exact mj_pret hC rfl hR
    · rw [if_neg c3] at h
      cases h
      exact mj_pret hC rfl hR
set_option maxRecDepth 20000 in
theorem rd_readSpeed_x {Ls tp ip x d : Nat} {Z : mj_X} (hd : 5 ≤ d) (hip : ip = 3 ∨ ip = 17)  {m : mj_M} {r : mj_M} (h : rd_readSpeed ip m = some r) : mj_Ex false (mj_sh Ls) (mj_rf tp ip) Z d 82 [.ref 31] (110, x) m none (110, x) r := by
  exact mj_Ex_of (cd := mj_cd_82) (L := [some (.ref 31), none]) (by omega) (by decide) rfl (Nat.le_of_ble_eq_true rfl) rfl (fun P hC => rd_readSpeed_p hC (by omega) hip h ⟨rfl, rfl, rfl⟩)
def rd_readOnce  (v1 : Int32) (m : mj_M) : Option (Int32 × mj_M) :=
  (rd_takeOnce m).bind fun q1 =>
  (rd_readNumber 0 v1 q1).bind fun q2 =>
  some (q2.1, q2.2)
set_option maxRecDepth 20000 in
theorem rd_readOnce_p {Ls tp ip x d : Nat} {Z : mj_X} {R : Option Value → mj_G → mj_M → Prop} {P : mj_K → Prop} (hC : mj_cls false (mj_sh Ls) (mj_rf tp ip) mj_dv mj_cd_83 (mj_Ex false (mj_sh Ls) (mj_rf tp ip) Z d) R P) (hd : 4 ≤ d) {v1 : Int32} {m : mj_M} {r : (Int32 × mj_M)} (h : rd_readOnce v1 m = some r) (hR : R (some (.int r.1)) (110, x) r.2) : P (0, [some (.ref 31), some (.int v1)], [], (110, x), m) := by
  unfold rd_readOnce at h
  refine mj_gcp hC 1 ?_
  show P (1, [some (.ref 31), some (.int v1)], [.ref 31], (110, x), m)
  obtain ⟨q1, eq1, h⟩ := mj_bnd h
  refine mj_pcall hC rfl (rd_takeOnce_x (Nat.le_trans (by decide) hd) eq1) ?_
  show P (4, [some (.ref 31), some (.int v1)], [], (110, x), q1)
  refine mj_gcp hC 3 ?_
  show P (7, [some (.ref 31), some (.int v1)], [.int v1, .int 0, .ref 31], (110, x), q1)
  obtain ⟨q2, eq2, h⟩ := mj_bnd h
  refine mj_pcall hC rfl (rd_readNumber_x (Nat.le_trans (by decide) hd) eq2) ?_
  show P (10, [some (.ref 31), some (.int v1)], [.int q2.1], (110, x), q2.2)
  cases h
  exact mj_pret hC rfl hR
set_option maxRecDepth 20000 in
theorem rd_readOnce_x {Ls tp ip x d : Nat} {Z : mj_X} (hd : 5 ≤ d) {v1 : Int32} {m : mj_M} {r : (Int32 × mj_M)} (h : rd_readOnce v1 m = some r) : mj_Ex false (mj_sh Ls) (mj_rf tp ip) Z d 83 [.ref 31, .int v1] (110, x) m (some (.int r.1)) (110, x) r.2 := by
  exact mj_Ex_of (cd := mj_cd_83) (L := [some (.ref 31), some (.int v1)]) (by omega) (by decide) rfl (Nat.le_of_ble_eq_true rfl) rfl (fun P hC => rd_readOnce_p hC (by omega) h ⟨rfl, rfl, rfl⟩)
def ck_lawWithin (tp : Nat) (v1 : Int32) (v2 : Int32) (v3 : Int32) (v4 : Int32) (m : mj_M) : Option (Int32 × mj_M) :=
  (rk_value tp v1 m).bind fun q1 =>
  (if (lg_cmp q1.1 (-9223372036854775808)) = 0 then some (v4, q1.2) else
  some ((ma_maxJ (v2.toInt64) (ma_minJ (v3.toInt64) q1.1 q1.2) q1.2).toInt32, q1.2))
set_option maxRecDepth 20000 in
theorem ck_lawWithin_p {Ls tp ip x d : Nat} {Z : mj_X} {R : Option Value → mj_G → mj_M → Prop} {P : mj_K → Prop} (hC : mj_cls false (mj_sh Ls) (mj_rf tp ip) mj_dv mj_cd_121 (mj_Ex false (mj_sh Ls) (mj_rf tp ip) Z d) R P) (hd : 3 ≤ d) (htp : tp = 3 ∨ tp = 17) {v1 : Int32} {v2 : Int32} {v3 : Int32} {v4 : Int32} {m : mj_M} {r : (Int32 × mj_M)} (h : ck_lawWithin tp v1 v2 v3 v4 m = some r) (hR : R (some (.int r.1)) (110, x) r.2) : P (0, [some (.ref 37), some (.int v1), some (.int v2), some (.int v3), some (.int v4), none, none], [], (110, x), m) := by
  unfold ck_lawWithin at h
  rcases htp with rfl | rfl
  all_goals
    refine mj_gcp hC 5 ?_
    show P (9, [some (.ref 37), some (.int v1), some (.int v2), some (.int v3), some (.int v4), none, none], [.int v1, .ref _, .ref 38], (110, x), m)
    obtain ⟨q1, eq1, h⟩ := mj_bnd h
    refine mj_pcall hC rfl (rk_value_x (Nat.le_trans (by decide) hd) (by decide) eq1) ?_
    show P (12, [some (.ref 37), some (.int v1), some (.int v2), some (.int v3), some (.int v4), none, none], [.long q1.1], (110, x), q1.2)
    refine mj_gcp hC 5 ?_
    show P (mj_pick 23 26 ((lg_cmp q1.1 (-9223372036854775808)) = 0), [some (.ref 37), some (.int v1), some (.int v2), some (.int v3), some (.int v4), some (.long q1.1), none], [], (110, x), q1.2)
    refine mj_pbr (fun c2 => ?_) (fun c2 => ?_)
    · rw [if_pos c2] at h
      refine mj_gcp hC 1 ?_
      show P (25, [some (.ref 37), some (.int v1), some (.int v2), some (.int v3), some (.int v4), some (.long q1.1), none], [.int v4], (110, x), q1.2)
      cases h
      exact mj_pret hC rfl hR
    · rw [if_neg c2] at h
      refine mj_gcp hC 5 ?_
      show P (32, [some (.ref 37), some (.int v1), some (.int v2), some (.int v3), some (.int v4), some (.long q1.1), none], [.long q1.1, .long (v3.toInt64), .long (v2.toInt64)], (110, x), q1.2)
      refine mj_pcall hC rfl (ma_minJ_x (Nat.le_trans (by decide) hd)) ?_
      show P (35, [some (.ref 37), some (.int v1), some (.int v2), some (.int v3), some (.int v4), some (.long q1.1), none], [.long (ma_minJ (v3.toInt64) q1.1 q1.2), .long (v2.toInt64)], (110, x), q1.2)
      refine mj_pcall hC rfl (ma_maxJ_x (Nat.le_trans (by decide) hd)) ?_
      show P (38, [some (.ref 37), some (.int v1), some (.int v2), some (.int v3), some (.int v4), some (.long q1.1), none], [.long (ma_maxJ (v2.toInt64) (ma_minJ (v3.toInt64) q1.1 q1.2) q1.2)], (110, x), q1.2)
      refine mj_gcp hC 1 ?_
      show P (39, [some (.ref 37), some (.int v1), some (.int v2), some (.int v3), some (.int v4), some (.long q1.1), none], [.int (ma_maxJ (v2.toInt64) (ma_minJ (v3.toInt64) q1.1 q1.2) q1.2).toInt32], (110, x), q1.2)
      cases h
      exact mj_pret hC rfl hR
set_option maxRecDepth 20000 in
theorem ck_lawWithin_x {Ls tp ip x d : Nat} {Z : mj_X} (hd : 4 ≤ d) (htp : tp = 3 ∨ tp = 17) {v1 : Int32} {v2 : Int32} {v3 : Int32} {v4 : Int32} {m : mj_M} {r : (Int32 × mj_M)} (h : ck_lawWithin tp v1 v2 v3 v4 m = some r) : mj_Ex false (mj_sh Ls) (mj_rf tp ip) Z d 121 [.ref 37, .int v1, .int v2, .int v3, .int v4] (110, x) m (some (.int r.1)) (110, x) r.2 := by
  exact mj_Ex_of (cd := mj_cd_121) (L := [some (.ref 37), some (.int v1), some (.int v2), some (.int v3), some (.int v4), none, none]) (by omega) (by decide) rfl (Nat.le_of_ble_eq_true rfl) rfl (fun P hC => ck_lawWithin_p hC (by omega) htp h ⟨rfl, rfl, rfl⟩)
def ck_goOnWith_j92 (tp : Nat) (sp : Nat) (v2 : Int32) (v3 : Int32)  (m : mj_M) : Option mj_M :=
  (if (sa_isDone sp v3 (fx_put m (sp + 3) v3 (ma_max 0 ((fx_at m (sp + 3) v3) - v2) m))) = 0 then some (fx_put m (sp + 3) v3 (ma_max 0 ((fx_at m (sp + 3) v3) - v2) m)) else
  some (fx_put (fx_put m (sp + 3) v3 (ma_max 0 ((fx_at m (sp + 3) v3) - v2) m)) (sp + 4) v3 (mj_I (m sp 0))))
def ck_goOnWith (tp : Nat) (sp : Nat) (v2 : Int32) (v3 : Int32) (m : mj_M) : Option mj_M :=
  (ck_name tp sp v2 (fx_at m (tp + 6) v3) v3 m).bind fun q1 =>
  (ck_lawWithin tp 0 0 99 ((ma_max 0 (v2 - (fx_at q1 (tp + 2) (fx_at m (tp + 6) v3))) q1) / 10) q1).bind fun q2 =>
  (if q2.1 ≤ 0 then ck_goOnWith_j92 tp sp v2 v3 (fx_put q2.2 (sp + 1) (fx_at m (tp + 6) v3) ((fx_at q2.2 (sp + 1) (fx_at m (tp + 6) v3)) + q2.1)) else
  ck_goOnWith_j92 tp sp v2 v3 (mj_up (fx_put q2.2 (sp + 1) (fx_at m (tp + 6) v3) ((fx_at q2.2 (sp + 1) (fx_at m (tp + 6) v3)) + q2.1)) sp 10 (.int ((mj_I (q2.2 sp 10)) ||| (1 <<< ((fx_at m (tp + 6) v3) &&& 31))))))
set_option maxRecDepth 20000 in
theorem ck_goOnWith_j92_x {Ls tp ip x d : Nat} {Z : mj_X} {R : Option Value → mj_G → mj_M → Prop} {P : mj_K → Prop} (hC : mj_cls false (mj_sh Ls) (mj_rf tp ip) mj_dv mj_cd_118 (mj_Ex false (mj_sh Ls) (mj_rf tp ip) Z d) R P) (hd : 4 ≤ d) {sp : Nat} (htp : tp = 3 ∨ tp = 17) (hsp : sp = 42 ∨ sp = 47 ∨ sp = 52) {v2 : Int32} {v3 : Int32}  {m : mj_M} {r : mj_M} (h : ck_goOnWith_j92 tp sp v2 v3 m = some r) (hR : R none (110, x) r) : P (92, [none, some (.ref sp), some (.int v2), some (.int v3), none, none], [], (110, x), m) := by
  unfold ck_goOnWith_j92 at h
  rcases htp with rfl | rfl <;> rcases hsp with rfl | rfl | rfl
  all_goals
    refine mj_gcp hC 7 ?_
    show P (103, [none, some (.ref _), some (.int v2), some (.int v3), none, none], [.int v3, .ref _, .int 0, .int v3, .ref _], (110, x), m)
    refine mj_pcall hC rfl (bp_at_x (Nat.le_trans (by decide) hd) (by decide)) ?_
    show P (106, [none, some (.ref _), some (.int v2), some (.int v3), none, none], [.int (fx_at m _ v3), .int 0, .int v3, .ref _], (110, x), m)
    refine mj_gcp hC 2 ?_
    show P (108, [none, some (.ref _), some (.int v2), some (.int v3), none, none], [.int ((fx_at m _ v3) - v2), .int 0, .int v3, .ref _], (110, x), m)
    refine mj_pcall hC rfl (ma_max_x (Nat.le_trans (by decide) hd)) ?_
    show P (111, [none, some (.ref _), some (.int v2), some (.int v3), none, none], [.int (ma_max 0 ((fx_at m _ v3) - v2) m), .int v3, .ref _], (110, x), m)
    refine mj_pcall hC rfl (bp_put_x (Nat.le_trans (by decide) hd) (by decide)) ?_
    show P (114, [none, some (.ref _), some (.int v2), some (.int v3), none, none], [], (110, x), (fx_put m _ v3 (ma_max 0 ((fx_at m _ v3) - v2) m)))
    refine mj_gcp hC 2 ?_
    show P (116, [none, some (.ref _), some (.int v2), some (.int v3), none, none], [.int v3, .ref _], (110, x), (fx_put m _ v3 (ma_max 0 ((fx_at m _ v3) - v2) m)))
    refine mj_pcall hC rfl (sa_isDone_x (Nat.le_trans (by decide) hd) (by decide)) ?_
    show P (119, [none, some (.ref _), some (.int v2), some (.int v3), none, none], [.int (sa_isDone _ v3 (fx_put m _ v3 (ma_max 0 ((fx_at m _ v3) - v2) m)))], (110, x), (fx_put m _ v3 (ma_max 0 ((fx_at m _ v3) - v2) m)))
    refine mj_gcp hC 1 ?_
    show P (mj_pick 134 122 ((sa_isDone _ v3 (fx_put m _ v3 (ma_max 0 ((fx_at m _ v3) - v2) m))) = 0), [none, some (.ref _), some (.int v2), some (.int v3), none, none], [], (110, x), (fx_put m _ v3 (ma_max 0 ((fx_at m _ v3) - v2) m)))
    refine mj_pbr (fun c4 => ?_) (fun c4 => ?_)
    · rw [if_pos c4] at h
      cases h
      exact mj_pret hC rfl hR
    · rw [if_neg c4] at h
      refine mj_gcp hC 5 ?_
      show P (131, [none, some (.ref _), some (.int v2), some (.int v3), none, none], [.int (mj_I (m _ 0)), .int v3, .ref _], (110, x), (fx_put m _ v3 (ma_max 0 ((fx_at m _ v3) - v2) m)))
      refine mj_pcall hC rfl (bp_put_x (Nat.le_trans (by decide) hd) (by decide)) ?_
      show P (134, [none, some (.ref _), some (.int v2), some (.int v3), none, none], [], (110, x), (fx_put (fx_put m _ v3 (ma_max 0 ((fx_at m _ v3) - v2) m)) _ v3 (mj_I (m _ 0))))
      cases h
      exact mj_pret hC rfl hR
set_option maxRecDepth 20000 in
theorem ck_goOnWith_p {Ls tp ip x d : Nat} {Z : mj_X} {R : Option Value → mj_G → mj_M → Prop} {P : mj_K → Prop} (hC : mj_cls false (mj_sh Ls) (mj_rf tp ip) mj_dv mj_cd_118 (mj_Ex false (mj_sh Ls) (mj_rf tp ip) Z d) R P) (hd : 4 ≤ d) {sp : Nat} (htp : tp = 3 ∨ tp = 17) (hsp : sp = 42 ∨ sp = 47 ∨ sp = 52) {v2 : Int32} {v3 : Int32} {m : mj_M} {r : mj_M} (h : ck_goOnWith tp sp v2 v3 m = some r) (hR : R none (110, x) r) : P (0, [some (.ref 37), some (.ref sp), some (.int v2), some (.int v3), none, none], [], (110, x), m) := by
  unfold ck_goOnWith at h
  rcases htp with rfl | rfl <;> rcases hsp with rfl | rfl | rfl
  all_goals
    refine mj_gcp hC 4 ?_
    show P (8, [some (.ref 37), some (.ref _), some (.int v2), some (.int v3), none, none], [.int v3, .ref _], (110, x), m)
    refine mj_pcall hC rfl (bp_at_x (Nat.le_trans (by decide) hd) (by decide)) ?_
    show P (11, [some (.ref 37), some (.ref _), some (.int v2), some (.int v3), none, none], [.int (fx_at m _ v3)], (110, x), m)
    refine mj_gcp hC 6 ?_
    show P (19, [some (.ref 37), some (.ref _), some (.int v2), some (.int v3), some (.int (fx_at m _ v3)), none], [.int v3, .int (fx_at m _ v3), .int v2, .ref _, .ref 37], (110, x), m)
    obtain ⟨q1, eq1, h⟩ := mj_bnd h
    refine mj_pcall hC rfl (ck_name_x (Nat.le_trans (by decide) hd) (by decide) (by decide) eq1) ?_
    show P (22, [some (.ref 37), some (.ref _), some (.int v2), some (.int v3), some (.int (fx_at m _ v3)), none], [], (110, x), q1)
    refine mj_gcp hC 10 ?_
    show P (38, [some (.ref 37), some (.ref _), some (.int v2), some (.int v3), some (.int (fx_at m _ v3)), none], [.int (fx_at m _ v3), .ref _, .int v2, .int 0, .int 99, .int 0, .int 0, .ref 37], (110, x), q1)
    refine mj_pcall hC rfl (bp_at_x (Nat.le_trans (by decide) hd) (by decide)) ?_
    show P (41, [some (.ref 37), some (.ref _), some (.int v2), some (.int v3), some (.int (fx_at m _ v3)), none], [.int (fx_at q1 _ (fx_at m _ v3)), .int v2, .int 0, .int 99, .int 0, .int 0, .ref 37], (110, x), q1)
    refine mj_gcp hC 1 ?_
    show P (42, [some (.ref 37), some (.ref _), some (.int v2), some (.int v3), some (.int (fx_at m _ v3)), none], [.int (v2 - (fx_at q1 _ (fx_at m _ v3))), .int 0, .int 99, .int 0, .int 0, .ref 37], (110, x), q1)
    refine mj_pcall hC rfl (ma_max_x (Nat.le_trans (by decide) hd)) ?_
    show P (45, [some (.ref 37), some (.ref _), some (.int v2), some (.int v3), some (.int (fx_at m _ v3)), none], [.int (ma_max 0 (v2 - (fx_at q1 _ (fx_at m _ v3))) q1), .int 99, .int 0, .int 0, .ref 37], (110, x), q1)
    refine mj_gcp hC 2 ?_
    show _ ∧ (P (48, [some (.ref 37), some (.ref _), some (.int v2), some (.int v3), some (.int (fx_at m _ v3)), none], [.int ((ma_max 0 (v2 - (fx_at q1 _ (fx_at m _ v3))) q1) / 10), .int 99, .int 0, .int 0, .ref 37], (110, x), q1))
    refine And.intro (show ¬ ((10 : Int32) = 0) by decide) (?_)
    obtain ⟨q2, eq2, h⟩ := mj_bnd h
    refine mj_pcall hC rfl (ck_lawWithin_x (Nat.le_trans (by decide) hd) (by decide) eq2) ?_
    show P (51, [some (.ref 37), some (.ref _), some (.int v2), some (.int v3), some (.int (fx_at m _ v3)), none], [.int q2.1], (110, x), q2.2)
    refine mj_gcp hC 7 ?_
    show P (65, [some (.ref 37), some (.ref _), some (.int v2), some (.int v3), some (.int (fx_at m _ v3)), some (.int q2.1)], [.int (fx_at m _ v3), .ref _, .int (fx_at m _ v3), .ref _], (110, x), q2.2)
    refine mj_pcall hC rfl (bp_at_x (Nat.le_trans (by decide) hd) (by decide)) ?_
    show P (68, [some (.ref 37), some (.ref _), some (.int v2), some (.int v3), some (.int (fx_at m _ v3)), some (.int q2.1)], [.int (fx_at q2.2 _ (fx_at m _ v3)), .int (fx_at m _ v3), .ref _], (110, x), q2.2)
    refine mj_gcp hC 2 ?_
    show P (71, [some (.ref 37), some (.ref _), some (.int v2), some (.int v3), some (.int (fx_at m _ v3)), some (.int q2.1)], [.int ((fx_at q2.2 _ (fx_at m _ v3)) + q2.1), .int (fx_at m _ v3), .ref _], (110, x), q2.2)
    refine mj_pcall hC rfl (bp_put_x (Nat.le_trans (by decide) hd) (by decide)) ?_
    show P (74, [some (.ref 37), some (.ref _), some (.int v2), some (.int v3), some (.int (fx_at m _ v3)), some (.int q2.1)], [], (110, x), (fx_put q2.2 _ (fx_at m _ v3) ((fx_at q2.2 _ (fx_at m _ v3)) + q2.1)))
    refine mj_gcp hC 2 ?_
    show P (mj_pick 92 79 (q2.1 ≤ 0), [some (.ref 37), some (.ref _), some (.int v2), some (.int v3), some (.int (fx_at m _ v3)), some (.int q2.1)], [], (110, x), (fx_put q2.2 _ (fx_at m _ v3) ((fx_at q2.2 _ (fx_at m _ v3)) + q2.1)))
    refine mj_pbr (fun c3 => ?_) (fun c3 => ?_)
    · rw [if_pos c3] at h
      exact mj_less hC (L0 := [none, some (.ref _), some (.int v2), some (.int v3), none, none]) (And.intro rfl (And.intro rfl (And.intro rfl trivial))) (ck_goOnWith_j92_x hC hd (by decide) (by decide) h hR)
    · rw [if_neg c3] at h
      refine mj_gcp hC 8 ?_
      show P (92, [some (.ref 37), some (.ref _), some (.int v2), some (.int v3), some (.int (fx_at m _ v3)), some (.int q2.1)], [], (110, x), (mj_up (fx_put q2.2 _ (fx_at m _ v3) ((fx_at q2.2 _ (fx_at m _ v3)) + q2.1)) _ 10 (.int ((mj_I (q2.2 _ 10)) ||| (1 <<< ((fx_at m _ v3) &&& 31))))))
      exact mj_less hC (L0 := [none, some (.ref _), some (.int v2), some (.int v3), none, none]) (And.intro rfl (And.intro rfl (And.intro rfl trivial))) (ck_goOnWith_j92_x hC hd (by decide) (by decide) h hR)
set_option maxRecDepth 20000 in
theorem ck_goOnWith_x {Ls tp ip x d : Nat} {Z : mj_X} (hd : 5 ≤ d) {sp : Nat} (htp : tp = 3 ∨ tp = 17) (hsp : sp = 42 ∨ sp = 47 ∨ sp = 52) {v2 : Int32} {v3 : Int32} {m : mj_M} {r : mj_M} (h : ck_goOnWith tp sp v2 v3 m = some r) : mj_Ex false (mj_sh Ls) (mj_rf tp ip) Z d 118 [.ref 37, .ref sp, .int v2, .int v3] (110, x) m none (110, x) r := by
  exact mj_Ex_of (cd := mj_cd_118) (L := [some (.ref 37), some (.ref sp), some (.int v2), some (.int v3), none, none]) (by omega) (by decide) rfl (Nat.le_of_ble_eq_true rfl) rfl (fun P hC => ck_goOnWith_p hC (by omega) htp hsp h ⟨rfl, rfl, rfl⟩)
def ck_spread_j55l16 (tp : Nat) (sp : Nat)  (v2 : Int32) (v3 : Int32) (v4 : Int32)  (m : mj_M) : Option (Nat × (Int32 × Int32 × mj_M)) :=
  some (0, (v3, (v4 + 1), m))
def ck_spread_l16 (tp : Nat) (sp : Nat) (v2 : Int32) (s16 : (Int32 × Int32 × mj_M)) : Option (Nat × (Int32 × Int32 × mj_M)) :=
  (if (mj_I (s16.2.2 tp 0)) ≤ s16.2.1 then some (1, (s16.1, s16.2.1, s16.2.2)) else
  (if (fx_at s16.2.2 41 s16.2.1) ≤ 0 then ck_spread_j55l16 tp sp v2 s16.1 s16.2.1 s16.2.2 else
  ck_spread_j55l16 tp sp v2 (s16.1 ||| (fx_at s16.2.2 (tp + 4) s16.2.1)) s16.2.1 s16.2.2))
def ck_spread_j168l64 (tp : Nat) (sp : Nat)  (v2 : Int32) (v3 : Int32) (v4 : Int32)  (m : mj_M) : Option (Nat × (Int32 × mj_M)) :=
  some (0, ((v4 + 1), m))
def ck_spread_l64 (tp : Nat) (sp : Nat) (v2 : Int32) (v3 : Int32) (s64 : (Int32 × mj_M)) : Option (Nat × (Int32 × mj_M)) :=
  (if (mj_I (s64.2 tp 0)) ≤ s64.1 then some (1, (s64.1, s64.2)) else
  (if (fx_at s64.2 41 s64.1) ≤ 0 then (if (bp_has (v3 &&& (mj_I (s64.2 sp 4))) s64.1 s64.2) = 0 then ck_spread_j168l64 tp sp v2 v3 s64.1 s64.2 else
  (ck_name tp sp v2 s64.1 (-1) s64.2).bind fun q7 =>
  (ck_lawWithin tp 2 1 9 (1 + ((fx_at q7 (tp + 3) s64.1) / 20)) q7).bind fun q8 =>
  ck_spread_j168l64 tp sp v2 v3 s64.1 (fx_put q8.2 (sp + 2) s64.1 q8.1)) else
  ck_spread_j168l64 tp sp v2 v3 s64.1 (fx_put s64.2 (sp + 2) s64.1 ((fx_at s64.2 41 s64.1) - 1))))
def ck_spread (tp : Nat) (sp : Nat) (v2 : Int32) (m : mj_M) : Option mj_M :=
  (mj_loop (ck_spread_l16 tp sp v2) mj_F (0, 0, (fx_copy m (sp + 2) 41))).bind fun q3 =>
  (mj_loop (ck_spread_l64 tp sp v2 q3.2.1) mj_F (0, q3.2.2.2)).bind fun q9 =>
  some q9.2.2
set_option maxRecDepth 20000 in
theorem ck_spread_j55l16_x {Ls tp ip x d : Nat} {Z : mj_X} {R : Option Value → mj_G → mj_M → Prop} {P : mj_K → Prop} (hC : mj_cls false (mj_sh Ls) (mj_rf tp ip) mj_dv mj_cd_119 (mj_Ex false (mj_sh Ls) (mj_rf tp ip) Z d) R P) (hd : 4 ≤ d) {sp : Nat} (htp : tp = 3 ∨ tp = 17) (hsp : sp = 42 ∨ sp = 47 ∨ sp = 52)  {v2 : Int32} {v3 : Int32} {v4 : Int32}  {m : mj_M} {t : Nat} {w : (Int32 × Int32 × mj_M)} (h : ck_spread_j55l16 tp sp  v2 v3 v4 m = some (t, w)) (h0 : t = 0 → P (16, [some (.ref 37), some (.ref sp), some (.int v2), some (.int w.1), some (.int w.2.1)], [], (110, x), w.2.2)) (h1 : t = 1 → P (61, [some (.ref 37), some (.ref sp), some (.int v2), some (.int w.1), none], [], (110, x), w.2.2)) : P (55, [some (.ref 37), some (.ref sp), some (.int v2), some (.int v3), some (.int v4)], [], (110, x), m) := by
  unfold ck_spread_j55l16 at h
  rcases htp with rfl | rfl <;> rcases hsp with rfl | rfl | rfl
  all_goals
    refine mj_gcp hC 2 ?_
    show P (16, [some (.ref 37), some (.ref _), some (.int v2), some (.int v3), some (.int (v4 + 1))], [], (110, x), m)
    cases h
    exact mj_less hC (L0 := [some (.ref 37), some (.ref _), some (.int v2), some (.int v3), some (.int (v4 + 1))]) (And.intro rfl (And.intro rfl (And.intro rfl (And.intro rfl (And.intro rfl trivial))))) (h0 rfl)
set_option maxRecDepth 20000 in
theorem ck_spread_l16_x {Ls tp ip x d : Nat} {Z : mj_X} {R : Option Value → mj_G → mj_M → Prop} {P : mj_K → Prop} (hC : mj_cls false (mj_sh Ls) (mj_rf tp ip) mj_dv mj_cd_119 (mj_Ex false (mj_sh Ls) (mj_rf tp ip) Z d) R P) (hd : 4 ≤ d) {sp : Nat} (htp : tp = 3 ∨ tp = 17) (hsp : sp = 42 ∨ sp = 47 ∨ sp = 52) {v2 : Int32} (s16 : (Int32 × Int32 × mj_M)) {t : Nat} {w : (Int32 × Int32 × mj_M)} (h : ck_spread_l16 tp sp v2 s16 = some (t, w)) (h0 : t = 0 → P (16, [some (.ref 37), some (.ref sp), some (.int v2), some (.int w.1), some (.int w.2.1)], [], (110, x), w.2.2)) (h1 : t = 1 → P (61, [some (.ref 37), some (.ref sp), some (.int v2), some (.int w.1), none], [], (110, x), w.2.2)) : P (16, [some (.ref 37), some (.ref sp), some (.int v2), some (.int s16.1), some (.int s16.2.1)], [], (110, x), s16.2.2) := by
  unfold ck_spread_l16 at h
  rcases htp with rfl | rfl <;> rcases hsp with rfl | rfl | rfl
  all_goals
    refine mj_gcp hC 5 ?_
    show P (mj_pick 61 28 ((mj_I (s16.2.2 _ 0)) ≤ s16.2.1), [some (.ref 37), some (.ref _), some (.int v2), some (.int s16.1), some (.int s16.2.1)], [], (110, x), s16.2.2)
    refine mj_pbr (fun c1 => ?_) (fun c1 => ?_)
    · rw [if_pos c1] at h
      cases h
      exact mj_less hC (L0 := [some (.ref 37), some (.ref _), some (.int v2), some (.int s16.1), none]) (And.intro rfl (And.intro rfl (And.intro rfl (And.intro rfl trivial)))) (h1 rfl)
    · rw [if_neg c1] at h
      refine mj_gcp hC 3 ?_
      show P (34, [some (.ref 37), some (.ref _), some (.int v2), some (.int s16.1), some (.int s16.2.1)], [.int s16.2.1, .ref 41], (110, x), s16.2.2)
      refine mj_pcall hC rfl (bp_at_x (Nat.le_trans (by decide) hd) (by decide)) ?_
      show P (37, [some (.ref 37), some (.ref _), some (.int v2), some (.int s16.1), some (.int s16.2.1)], [.int (fx_at s16.2.2 41 s16.2.1)], (110, x), s16.2.2)
      refine mj_gcp hC 1 ?_
      show P (mj_pick 55 40 ((fx_at s16.2.2 41 s16.2.1) ≤ 0), [some (.ref 37), some (.ref _), some (.int v2), some (.int s16.1), some (.int s16.2.1)], [], (110, x), s16.2.2)
      refine mj_pbr (fun c2 => ?_) (fun c2 => ?_)
      · rw [if_pos c2] at h
        exact mj_less hC (L0 := [some (.ref 37), some (.ref _), some (.int v2), some (.int s16.1), some (.int s16.2.1)]) (And.intro rfl (And.intro rfl (And.intro rfl (And.intro rfl (And.intro rfl trivial))))) (ck_spread_j55l16_x hC hd (by decide) (by decide) h h0 h1)
      · rw [if_neg c2] at h
        refine mj_gcp hC 5 ?_
        show P (50, [some (.ref 37), some (.ref _), some (.int v2), some (.int s16.1), some (.int s16.2.1)], [.int s16.2.1, .ref _, .int s16.1], (110, x), s16.2.2)
        refine mj_pcall hC rfl (bp_at_x (Nat.le_trans (by decide) hd) (by decide)) ?_
        show P (53, [some (.ref 37), some (.ref _), some (.int v2), some (.int s16.1), some (.int s16.2.1)], [.int (fx_at s16.2.2 _ s16.2.1), .int s16.1], (110, x), s16.2.2)
        refine mj_gcp hC 2 ?_
        show P (55, [some (.ref 37), some (.ref _), some (.int v2), some (.int (s16.1 ||| (fx_at s16.2.2 _ s16.2.1))), some (.int s16.2.1)], [], (110, x), s16.2.2)
        exact mj_less hC (L0 := [some (.ref 37), some (.ref _), some (.int v2), some (.int (s16.1 ||| (fx_at s16.2.2 _ s16.2.1))), some (.int s16.2.1)]) (And.intro rfl (And.intro rfl (And.intro rfl (And.intro rfl (And.intro rfl trivial))))) (ck_spread_j55l16_x hC hd (by decide) (by decide) h h0 h1)
set_option maxRecDepth 20000 in
theorem ck_spread_j168l64_x {Ls tp ip x d : Nat} {Z : mj_X} {R : Option Value → mj_G → mj_M → Prop} {P : mj_K → Prop} (hC : mj_cls false (mj_sh Ls) (mj_rf tp ip) mj_dv mj_cd_119 (mj_Ex false (mj_sh Ls) (mj_rf tp ip) Z d) R P) (hd : 4 ≤ d) {sp : Nat} (htp : tp = 3 ∨ tp = 17) (hsp : sp = 42 ∨ sp = 47 ∨ sp = 52)  {v2 : Int32} {v3 : Int32} {v4 : Int32}  {m : mj_M} {t : Nat} {w : (Int32 × mj_M)} (h : ck_spread_j168l64 tp sp  v2 v3 v4 m = some (t, w)) (h0 : t = 0 → P (64, [some (.ref 37), some (.ref sp), some (.int v2), some (.int v3), some (.int w.1)], [], (110, x), w.2)) (h1 : t = 1 → P (174, [none, none, none, none, none], [], (110, x), w.2)) : P (168, [some (.ref 37), some (.ref sp), some (.int v2), some (.int v3), some (.int v4)], [], (110, x), m) := by
  unfold ck_spread_j168l64 at h
  rcases htp with rfl | rfl <;> rcases hsp with rfl | rfl | rfl
  all_goals
    refine mj_gcp hC 2 ?_
    show P (64, [some (.ref 37), some (.ref _), some (.int v2), some (.int v3), some (.int (v4 + 1))], [], (110, x), m)
    cases h
    exact mj_less hC (L0 := [some (.ref 37), some (.ref _), some (.int v2), some (.int v3), some (.int (v4 + 1))]) (And.intro rfl (And.intro rfl (And.intro rfl (And.intro rfl (And.intro rfl trivial))))) (h0 rfl)
set_option maxRecDepth 20000 in
theorem ck_spread_l64_x {Ls tp ip x d : Nat} {Z : mj_X} {R : Option Value → mj_G → mj_M → Prop} {P : mj_K → Prop} (hC : mj_cls false (mj_sh Ls) (mj_rf tp ip) mj_dv mj_cd_119 (mj_Ex false (mj_sh Ls) (mj_rf tp ip) Z d) R P) (hd : 4 ≤ d) {sp : Nat} (htp : tp = 3 ∨ tp = 17) (hsp : sp = 42 ∨ sp = 47 ∨ sp = 52) {v2 : Int32} {v3 : Int32} (s64 : (Int32 × mj_M)) {t : Nat} {w : (Int32 × mj_M)} (h : ck_spread_l64 tp sp v2 v3 s64 = some (t, w)) (h0 : t = 0 → P (64, [some (.ref 37), some (.ref sp), some (.int v2), some (.int v3), some (.int w.1)], [], (110, x), w.2)) (h1 : t = 1 → P (174, [none, none, none, none, none], [], (110, x), w.2)) : P (64, [some (.ref 37), some (.ref sp), some (.int v2), some (.int v3), some (.int s64.1)], [], (110, x), s64.2) := by
  unfold ck_spread_l64 at h
  rcases htp with rfl | rfl <;> rcases hsp with rfl | rfl | rfl
  all_goals
    refine mj_gcp hC 5 ?_
    show P (mj_pick 174 76 ((mj_I (s64.2 _ 0)) ≤ s64.1), [some (.ref 37), some (.ref _), some (.int v2), some (.int v3), some (.int s64.1)], [], (110, x), s64.2)
    refine mj_pbr (fun c4 => ?_) (fun c4 => ?_)
    · rw [if_pos c4] at h
      cases h
      exact mj_less hC (L0 := [none, none, none, none, none]) trivial (h1 rfl)
    · rw [if_neg c4] at h
      refine mj_gcp hC 3 ?_
      show P (82, [some (.ref 37), some (.ref _), some (.int v2), some (.int v3), some (.int s64.1)], [.int s64.1, .ref 41], (110, x), s64.2)
      refine mj_pcall hC rfl (bp_at_x (Nat.le_trans (by decide) hd) (by decide)) ?_
      show P (85, [some (.ref 37), some (.ref _), some (.int v2), some (.int v3), some (.int s64.1)], [.int (fx_at s64.2 41 s64.1)], (110, x), s64.2)
      refine mj_gcp hC 1 ?_
      show P (mj_pick 111 88 ((fx_at s64.2 41 s64.1) ≤ 0), [some (.ref 37), some (.ref _), some (.int v2), some (.int v3), some (.int s64.1)], [], (110, x), s64.2)
      refine mj_pbr (fun c5 => ?_) (fun c5 => ?_)
      · rw [if_pos c5] at h
        refine mj_gcp hC 5 ?_
        show P (119, [some (.ref 37), some (.ref _), some (.int v2), some (.int v3), some (.int s64.1)], [.int s64.1, .int (v3 &&& (mj_I (s64.2 _ 4)))], (110, x), s64.2)
        refine mj_pcall hC rfl (bp_has_x (Nat.le_trans (by decide) hd)) ?_
        show P (122, [some (.ref 37), some (.ref _), some (.int v2), some (.int v3), some (.int s64.1)], [.int (bp_has (v3 &&& (mj_I (s64.2 _ 4))) s64.1 s64.2)], (110, x), s64.2)
        refine mj_gcp hC 1 ?_
        show P (mj_pick 168 125 ((bp_has (v3 &&& (mj_I (s64.2 _ 4))) s64.1 s64.2) = 0), [some (.ref 37), some (.ref _), some (.int v2), some (.int v3), some (.int s64.1)], [], (110, x), s64.2)
        refine mj_pbr (fun c6 => ?_) (fun c6 => ?_)
        · rw [if_pos c6] at h
          exact mj_less hC (L0 := [some (.ref 37), some (.ref _), some (.int v2), some (.int v3), some (.int s64.1)]) (And.intro rfl (And.intro rfl (And.intro rfl (And.intro rfl (And.intro rfl trivial))))) (ck_spread_j168l64_x hC hd (by decide) (by decide) h h0 h1)
        · rw [if_neg c6] at h
          refine mj_gcp hC 5 ?_
          show P (131, [some (.ref 37), some (.ref _), some (.int v2), some (.int v3), some (.int s64.1)], [.int (-1), .int s64.1, .int v2, .ref _, .ref 37], (110, x), s64.2)
          obtain ⟨q7, eq7, h⟩ := mj_bnd h
          refine mj_pcall hC rfl (ck_name_x (Nat.le_trans (by decide) hd) (by decide) (by decide) eq7) ?_
          show P (134, [some (.ref 37), some (.ref _), some (.int v2), some (.int v3), some (.int s64.1)], [], (110, x), q7)
          refine mj_gcp hC 12 ?_
          show P (155, [some (.ref 37), some (.ref _), some (.int v2), some (.int v3), some (.int s64.1)], [.int s64.1, .ref _, .int 1, .int 9, .int 1, .int 2, .ref 37, .int s64.1, .ref _], (110, x), q7)
          refine mj_pcall hC rfl (bp_at_x (Nat.le_trans (by decide) hd) (by decide)) ?_
          show P (158, [some (.ref 37), some (.ref _), some (.int v2), some (.int v3), some (.int s64.1)], [.int (fx_at q7 _ s64.1), .int 1, .int 9, .int 1, .int 2, .ref 37, .int s64.1, .ref _], (110, x), q7)
          refine mj_gcp hC 3 ?_
          show _ ∧ (P (162, [some (.ref 37), some (.ref _), some (.int v2), some (.int v3), some (.int s64.1)], [.int (1 + ((fx_at q7 _ s64.1) / 20)), .int 9, .int 1, .int 2, .ref 37, .int s64.1, .ref _], (110, x), q7))
          refine And.intro (show ¬ ((20 : Int32) = 0) by decide) (?_)
          obtain ⟨q8, eq8, h⟩ := mj_bnd h
          refine mj_pcall hC rfl (ck_lawWithin_x (Nat.le_trans (by decide) hd) (by decide) eq8) ?_
          show P (165, [some (.ref 37), some (.ref _), some (.int v2), some (.int v3), some (.int s64.1)], [.int q8.1, .int s64.1, .ref _], (110, x), q8.2)
          refine mj_pcall hC rfl (bp_put_x (Nat.le_trans (by decide) hd) (by decide)) ?_
          show P (168, [some (.ref 37), some (.ref _), some (.int v2), some (.int v3), some (.int s64.1)], [], (110, x), (fx_put q8.2 _ s64.1 q8.1))
          exact mj_less hC (L0 := [some (.ref 37), some (.ref _), some (.int v2), some (.int v3), some (.int s64.1)]) (And.intro rfl (And.intro rfl (And.intro rfl (And.intro rfl (And.intro rfl trivial))))) (ck_spread_j168l64_x hC hd (by decide) (by decide) h h0 h1)
      · rw [if_neg c5] at h
        refine mj_gcp hC 6 ?_
        show P (100, [some (.ref 37), some (.ref _), some (.int v2), some (.int v3), some (.int s64.1)], [.int s64.1, .ref 41, .int s64.1, .ref _], (110, x), s64.2)
        refine mj_pcall hC rfl (bp_at_x (Nat.le_trans (by decide) hd) (by decide)) ?_
        show P (103, [some (.ref 37), some (.ref _), some (.int v2), some (.int v3), some (.int s64.1)], [.int (fx_at s64.2 41 s64.1), .int s64.1, .ref _], (110, x), s64.2)
        refine mj_gcp hC 2 ?_
        show P (105, [some (.ref 37), some (.ref _), some (.int v2), some (.int v3), some (.int s64.1)], [.int ((fx_at s64.2 41 s64.1) - 1), .int s64.1, .ref _], (110, x), s64.2)
        refine mj_pcall hC rfl (bp_put_x (Nat.le_trans (by decide) hd) (by decide)) ?_
        show P (108, [some (.ref 37), some (.ref _), some (.int v2), some (.int v3), some (.int s64.1)], [], (110, x), (fx_put s64.2 _ s64.1 ((fx_at s64.2 41 s64.1) - 1)))
        refine mj_gcp hC 1 ?_
        show P (168, [some (.ref 37), some (.ref _), some (.int v2), some (.int v3), some (.int s64.1)], [], (110, x), (fx_put s64.2 _ s64.1 ((fx_at s64.2 41 s64.1) - 1)))
        exact mj_less hC (L0 := [some (.ref 37), some (.ref _), some (.int v2), some (.int v3), some (.int s64.1)]) (And.intro rfl (And.intro rfl (And.intro rfl (And.intro rfl (And.intro rfl trivial))))) (ck_spread_j168l64_x hC hd (by decide) (by decide) h h0 h1)
set_option maxRecDepth 20000 in
theorem ck_spread_p {Ls tp ip x d : Nat} {Z : mj_X} {R : Option Value → mj_G → mj_M → Prop} {P : mj_K → Prop} (hC : mj_cls false (mj_sh Ls) (mj_rf tp ip) mj_dv mj_cd_119 (mj_Ex false (mj_sh Ls) (mj_rf tp ip) Z d) R P) (hd : 4 ≤ d) {sp : Nat} (htp : tp = 3 ∨ tp = 17) (hsp : sp = 42 ∨ sp = 47 ∨ sp = 52) {v2 : Int32} {m : mj_M} {r : mj_M} (h : ck_spread tp sp v2 m = some r) (hR : R none (110, x) r) : P (0, [some (.ref 37), some (.ref sp), some (.int v2), none, none], [], (110, x), m) := by
  unfold ck_spread at h
  rcases htp with rfl | rfl <;> rcases hsp with rfl | rfl | rfl
  all_goals
    refine mj_gcp hC 4 ?_
    show P (8, [some (.ref 37), some (.ref _), some (.int v2), none, none], [.ref 41, .ref _], (110, x), m)
    refine mj_pcall hC rfl (bp_copyRow_x (Nat.le_trans (by decide) hd) (by decide) (by decide)) ?_
    show P (11, [some (.ref 37), some (.ref _), some (.int v2), none, none], [], (110, x), (fx_copy m _ 41))
    refine mj_gcp hC 4 ?_
    show P (16, [some (.ref 37), some (.ref _), some (.int v2), some (.int 0), some (.int 0)], [], (110, x), (fx_copy m _ 41))
    obtain ⟨q3, eq3, h⟩ := mj_bnd h
    refine mj_less hC (L0 := [some (.ref 37), some (.ref _), some (.int v2), some (.int 0), some (.int 0)]) (And.intro rfl (And.intro rfl (And.intro rfl (And.intro rfl (And.intro rfl trivial))))) ?_
    refine mj_loop_P (A := fun z16 => P (16, [some (.ref 37), some (.ref _), some (.int v2), some (.int z16.1), some (.int z16.2.1)], [], (110, x), z16.2.2)) (E := fun _ z16 => P (61, [some (.ref 37), some (.ref _), some (.int v2), some (.int z16.1), none], [], (110, x), z16.2.2)) (fun zz t w hb h0 h1 => ck_spread_l16_x hC hd (by decide) (by decide) zz hb h0 (fun ht => h1 0 ht)) mj_F _ q3 eq3 ?_
    refine mj_gcp hC 2 ?_
    show P (64, [some (.ref 37), some (.ref _), some (.int v2), some (.int q3.2.1), some (.int 0)], [], (110, x), q3.2.2.2)
    obtain ⟨q9, eq9, h⟩ := mj_bnd h
    refine mj_less hC (L0 := [some (.ref 37), some (.ref _), some (.int v2), some (.int q3.2.1), some (.int 0)]) (And.intro rfl (And.intro rfl (And.intro rfl (And.intro rfl (And.intro rfl trivial))))) ?_
    refine mj_loop_P (A := fun z64 => P (64, [some (.ref 37), some (.ref _), some (.int v2), some (.int q3.2.1), some (.int z64.1)], [], (110, x), z64.2)) (E := fun _ z64 => P (174, [none, none, none, none, none], [], (110, x), z64.2)) (fun zz t w hb h0 h1 => ck_spread_l64_x hC hd (by decide) (by decide) zz hb h0 (fun ht => h1 0 ht)) mj_F _ q9 eq9 ?_
    cases h
    exact mj_pret hC rfl hR
set_option maxRecDepth 20000 in
theorem ck_spread_x {Ls tp ip x d : Nat} {Z : mj_X} (hd : 5 ≤ d) {sp : Nat} (htp : tp = 3 ∨ tp = 17) (hsp : sp = 42 ∨ sp = 47 ∨ sp = 52) {v2 : Int32} {m : mj_M} {r : mj_M} (h : ck_spread tp sp v2 m = some r) : mj_Ex false (mj_sh Ls) (mj_rf tp ip) Z d 119 [.ref 37, .ref sp, .int v2] (110, x) m none (110, x) r := by
  exact mj_Ex_of (cd := mj_cd_119) (L := [some (.ref 37), some (.ref sp), some (.int v2), none, none]) (by omega) (by decide) rfl (Nat.le_of_ble_eq_true rfl) rfl (fun P hC => ck_spread_p hC (by omega) htp hsp h ⟨rfl, rfl, rfl⟩)
def ck_pass_j57l25 (tp : Nat) (sp : Nat)  (v3 : Int32) (v4 : Int32)  (m : mj_M) : Option (Nat × (Int32 × mj_M)) :=
  some (0, ((v4 + 1), m))
def ck_pass_l25 (tp : Nat) (sp : Nat) (v3 : Int32) (s25 : (Int32 × mj_M)) : Option (Nat × (Int32 × mj_M)) :=
  (if (mj_I (s25.2 tp 5)) ≤ s25.1 then some (1, (s25.1, s25.2)) else
  (if (bp_has (mj_I (s25.2 sp 9)) s25.1 s25.2) = 0 then ck_pass_j57l25 tp sp v3 s25.1 s25.2 else
  (ck_goOnWith tp sp v3 s25.1 s25.2).bind fun q5 =>
  ck_pass_j57l25 tp sp v3 s25.1 q5))
def ck_pass (tp : Nat) (sp : Nat) (v2 : Int32) (m : mj_M) : Option mj_M :=
  (ck_beatOf tp sp v2 m).bind fun q1 =>
  (ck_goingOn tp sp q1.1 q1.2).bind fun q2 =>
  (mj_loop (ck_pass_l25 tp sp q1.1) mj_F (0, (mj_up (mj_up q1.2 sp 9 (.int q2)) sp 10 (.int 0)))).bind fun q6 =>
  (ck_spread tp sp q1.1 q6.2.2).bind fun q7 =>
  (ck_name tp sp q1.1 (-1) (-1) q7).bind fun q8 =>
  (ck_lawWithin tp 1 0 99 1 q8).bind fun q9 =>
  some (mj_up (mj_up q9.2 sp 1 (.int (ma_max 0 ((mj_I (q8 sp 1)) - q9.1) q9.2))) sp 0 (.int ((mj_I (q9.2 sp 0)) + 1)))
set_option maxRecDepth 20000 in
theorem ck_pass_j57l25_x {Ls tp ip x d : Nat} {Z : mj_X} {R : Option Value → mj_G → mj_M → Prop} {P : mj_K → Prop} (hC : mj_cls false (mj_sh Ls) (mj_rf tp ip) mj_dv mj_cd_116 (mj_Ex false (mj_sh Ls) (mj_rf tp ip) Z d) R P) (hd : 5 ≤ d) {sp : Nat} (htp : tp = 3 ∨ tp = 17) (hsp : sp = 42 ∨ sp = 47 ∨ sp = 52)  {v3 : Int32} {v4 : Int32}  {m : mj_M} {t : Nat} {w : (Int32 × mj_M)} (h : ck_pass_j57l25 tp sp  v3 v4 m = some (t, w)) (h0 : t = 0 → P (25, [some (.ref 37), some (.ref sp), none, some (.int v3), some (.int w.1)], [], (110, x), w.2)) (h1 : t = 1 → P (63, [some (.ref 37), some (.ref sp), none, some (.int v3), none], [], (110, x), w.2)) : P (57, [some (.ref 37), some (.ref sp), none, some (.int v3), some (.int v4)], [], (110, x), m) := by
  unfold ck_pass_j57l25 at h
  rcases htp with rfl | rfl <;> rcases hsp with rfl | rfl | rfl
  all_goals
    refine mj_gcp hC 2 ?_
    show P (25, [some (.ref 37), some (.ref _), none, some (.int v3), some (.int (v4 + 1))], [], (110, x), m)
    cases h
    exact mj_less hC (L0 := [some (.ref 37), some (.ref _), none, some (.int v3), some (.int (v4 + 1))]) (And.intro rfl (And.intro rfl (And.intro rfl (And.intro rfl trivial)))) (h0 rfl)
set_option maxRecDepth 20000 in
theorem ck_pass_l25_x {Ls tp ip x d : Nat} {Z : mj_X} {R : Option Value → mj_G → mj_M → Prop} {P : mj_K → Prop} (hC : mj_cls false (mj_sh Ls) (mj_rf tp ip) mj_dv mj_cd_116 (mj_Ex false (mj_sh Ls) (mj_rf tp ip) Z d) R P) (hd : 5 ≤ d) {sp : Nat} (htp : tp = 3 ∨ tp = 17) (hsp : sp = 42 ∨ sp = 47 ∨ sp = 52) {v3 : Int32} (s25 : (Int32 × mj_M)) {t : Nat} {w : (Int32 × mj_M)} (h : ck_pass_l25 tp sp v3 s25 = some (t, w)) (h0 : t = 0 → P (25, [some (.ref 37), some (.ref sp), none, some (.int v3), some (.int w.1)], [], (110, x), w.2)) (h1 : t = 1 → P (63, [some (.ref 37), some (.ref sp), none, some (.int v3), none], [], (110, x), w.2)) : P (25, [some (.ref 37), some (.ref sp), none, some (.int v3), some (.int s25.1)], [], (110, x), s25.2) := by
  unfold ck_pass_l25 at h
  rcases htp with rfl | rfl <;> rcases hsp with rfl | rfl | rfl
  all_goals
    refine mj_gcp hC 5 ?_
    show P (mj_pick 63 37 ((mj_I (s25.2 _ 5)) ≤ s25.1), [some (.ref 37), some (.ref _), none, some (.int v3), some (.int s25.1)], [], (110, x), s25.2)
    refine mj_pbr (fun c3 => ?_) (fun c3 => ?_)
    · rw [if_pos c3] at h
      cases h
      exact mj_less hC (L0 := [some (.ref 37), some (.ref _), none, some (.int v3), none]) (And.intro rfl (And.intro rfl (And.intro rfl trivial))) (h1 rfl)
    · rw [if_neg c3] at h
      refine mj_gcp hC 3 ?_
      show P (43, [some (.ref 37), some (.ref _), none, some (.int v3), some (.int s25.1)], [.int s25.1, .int (mj_I (s25.2 _ 9))], (110, x), s25.2)
      refine mj_pcall hC rfl (bp_has_x (Nat.le_trans (by decide) hd)) ?_
      show P (46, [some (.ref 37), some (.ref _), none, some (.int v3), some (.int s25.1)], [.int (bp_has (mj_I (s25.2 _ 9)) s25.1 s25.2)], (110, x), s25.2)
      refine mj_gcp hC 1 ?_
      show P (mj_pick 57 49 ((bp_has (mj_I (s25.2 _ 9)) s25.1 s25.2) = 0), [some (.ref 37), some (.ref _), none, some (.int v3), some (.int s25.1)], [], (110, x), s25.2)
      refine mj_pbr (fun c4 => ?_) (fun c4 => ?_)
      · rw [if_pos c4] at h
        exact mj_less hC (L0 := [some (.ref 37), some (.ref _), none, some (.int v3), some (.int s25.1)]) (And.intro rfl (And.intro rfl (And.intro rfl (And.intro rfl trivial)))) (ck_pass_j57l25_x hC hd (by decide) (by decide) h h0 h1)
      · rw [if_neg c4] at h
        refine mj_gcp hC 4 ?_
        show P (54, [some (.ref 37), some (.ref _), none, some (.int v3), some (.int s25.1)], [.int s25.1, .int v3, .ref _, .ref 37], (110, x), s25.2)
        obtain ⟨q5, eq5, h⟩ := mj_bnd h
        refine mj_pcall hC rfl (ck_goOnWith_x (Nat.le_trans (by decide) hd) (by decide) (by decide) eq5) ?_
        show P (57, [some (.ref 37), some (.ref _), none, some (.int v3), some (.int s25.1)], [], (110, x), q5)
        exact mj_less hC (L0 := [some (.ref 37), some (.ref _), none, some (.int v3), some (.int s25.1)]) (And.intro rfl (And.intro rfl (And.intro rfl (And.intro rfl trivial)))) (ck_pass_j57l25_x hC hd (by decide) (by decide) h h0 h1)
set_option maxRecDepth 20000 in
theorem ck_pass_p {Ls tp ip x d : Nat} {Z : mj_X} {R : Option Value → mj_G → mj_M → Prop} {P : mj_K → Prop} (hC : mj_cls false (mj_sh Ls) (mj_rf tp ip) mj_dv mj_cd_116 (mj_Ex false (mj_sh Ls) (mj_rf tp ip) Z d) R P) (hd : 5 ≤ d) {sp : Nat} (htp : tp = 3 ∨ tp = 17) (hsp : sp = 42 ∨ sp = 47 ∨ sp = 52) {v2 : Int32} {m : mj_M} {r : mj_M} (h : ck_pass tp sp v2 m = some r) (hR : R none (110, x) r) : P (0, [some (.ref 37), some (.ref sp), some (.int v2), none, none], [], (110, x), m) := by
  unfold ck_pass at h
  rcases htp with rfl | rfl <;> rcases hsp with rfl | rfl | rfl
  all_goals
    refine mj_gcp hC 3 ?_
    show P (3, [some (.ref 37), some (.ref _), some (.int v2), none, none], [.int v2, .ref _, .ref 37], (110, x), m)
    obtain ⟨q1, eq1, h⟩ := mj_bnd h
    refine mj_pcall hC rfl (ck_beatOf_x (Nat.le_trans (by decide) hd) (by decide) (by decide) eq1) ?_
    show P (6, [some (.ref 37), some (.ref _), some (.int v2), none, none], [.int q1.1], (110, x), q1.2)
    refine mj_gcp hC 5 ?_
    show P (11, [some (.ref 37), some (.ref _), some (.int v2), some (.int q1.1), none], [.int q1.1, .ref _, .ref 37, .ref _], (110, x), q1.2)
    obtain ⟨q2, eq2, h⟩ := mj_bnd h
    refine mj_pcall hC rfl (ck_goingOn_x (Nat.le_trans (by decide) hd) (by decide) (by decide) eq2) ?_
    show P (14, [some (.ref 37), some (.ref _), some (.int v2), some (.int q1.1), none], [.int q2, .ref _], (110, x), q1.2)
    refine mj_gcp hC 6 ?_
    show P (25, [some (.ref 37), some (.ref _), some (.int v2), some (.int q1.1), some (.int 0)], [], (110, x), (mj_up (mj_up q1.2 _ 9 (.int q2)) _ 10 (.int 0)))
    obtain ⟨q6, eq6, h⟩ := mj_bnd h
    refine mj_less hC (L0 := [some (.ref 37), some (.ref _), none, some (.int q1.1), some (.int 0)]) (And.intro rfl (And.intro rfl (And.intro rfl (And.intro rfl trivial)))) ?_
    refine mj_loop_P (A := fun z25 => P (25, [some (.ref 37), some (.ref _), none, some (.int q1.1), some (.int z25.1)], [], (110, x), z25.2)) (E := fun _ z25 => P (63, [some (.ref 37), some (.ref _), none, some (.int q1.1), none], [], (110, x), z25.2)) (fun zz t w hb h0 h1 => ck_pass_l25_x hC hd (by decide) (by decide) zz hb h0 (fun ht => h1 0 ht)) mj_F _ q6 eq6 ?_
    refine mj_gcp hC 3 ?_
    show P (66, [some (.ref 37), some (.ref _), none, some (.int q1.1), none], [.int q1.1, .ref _, .ref 37], (110, x), q6.2.2)
    obtain ⟨q7, eq7, h⟩ := mj_bnd h
    refine mj_pcall hC rfl (ck_spread_x (Nat.le_trans (by decide) hd) (by decide) (by decide) eq7) ?_
    show P (69, [some (.ref 37), some (.ref _), none, some (.int q1.1), none], [], (110, x), q7)
    refine mj_gcp hC 5 ?_
    show P (74, [some (.ref 37), some (.ref _), none, some (.int q1.1), none], [.int (-1), .int (-1), .int q1.1, .ref _, .ref 37], (110, x), q7)
    obtain ⟨q8, eq8, h⟩ := mj_bnd h
    refine mj_pcall hC rfl (ck_name_x (Nat.le_trans (by decide) hd) (by decide) (by decide) eq8) ?_
    show P (77, [some (.ref 37), some (.ref _), none, some (.int q1.1), none], [], (110, x), q8)
    refine mj_gcp hC 9 ?_
    show P (89, [some (.ref 37), some (.ref _), none, some (.int q1.1), none], [.int 1, .int 99, .int 0, .int 1, .ref 37, .int (mj_I (q8 _ 1)), .int 0, .ref _], (110, x), q8)
    obtain ⟨q9, eq9, h⟩ := mj_bnd h
    refine mj_pcall hC rfl (ck_lawWithin_x (Nat.le_trans (by decide) hd) (by decide) eq9) ?_
    show P (92, [some (.ref 37), some (.ref _), none, some (.int q1.1), none], [.int q9.1, .int (mj_I (q8 _ 1)), .int 0, .ref _], (110, x), q9.2)
    refine mj_gcp hC 1 ?_
    show P (93, [some (.ref 37), some (.ref _), none, some (.int q1.1), none], [.int ((mj_I (q8 _ 1)) - q9.1), .int 0, .ref _], (110, x), q9.2)
    refine mj_pcall hC rfl (ma_max_x (Nat.le_trans (by decide) hd)) ?_
    show P (96, [some (.ref 37), some (.ref _), none, some (.int q1.1), none], [.int (ma_max 0 ((mj_I (q8 _ 1)) - q9.1) q9.2), .ref _], (110, x), q9.2)
    refine mj_gcp hC 7 ?_
    show P (109, [some (.ref 37), some (.ref _), none, some (.int q1.1), none], [], (110, x), (mj_up (mj_up q9.2 _ 1 (.int (ma_max 0 ((mj_I (q8 _ 1)) - q9.1) q9.2))) _ 0 (.int ((mj_I (q9.2 _ 0)) + 1))))
    cases h
    exact mj_pret hC rfl hR
set_option maxRecDepth 20000 in
theorem ck_pass_x {Ls tp ip x d : Nat} {Z : mj_X} (hd : 6 ≤ d) {sp : Nat} (htp : tp = 3 ∨ tp = 17) (hsp : sp = 42 ∨ sp = 47 ∨ sp = 52) {v2 : Int32} {m : mj_M} {r : mj_M} (h : ck_pass tp sp v2 m = some r) : mj_Ex false (mj_sh Ls) (mj_rf tp ip) Z d 116 [.ref 37, .ref sp, .int v2] (110, x) m none (110, x) r := by
  exact mj_Ex_of (cd := mj_cd_116) (L := [some (.ref 37), some (.ref sp), some (.int v2), none, none]) (by omega) (by decide) rfl (Nat.le_of_ble_eq_true rfl) rfl (fun P hC => ck_pass_p hC (by omega) htp hsp h ⟨rfl, rfl, rfl⟩)
def bp_go_l29 (tp : Nat) (v1 : Int32) (s29 : (Int32 × mj_M)) : Option (Nat × (Int32 × mj_M)) :=
  (if v1 ≤ s29.1 then some (1, (s29.1, s29.2)) else
  (ck_pass tp 42 0 s29.2).bind fun q5 =>
  some (0, ((s29.1 + 1), q5)))
def bp_go (tp : Nat) (v1 : Int32) (m : mj_M) : Option (Int32 × mj_M) :=
  (if v1 < 0 then some ((-1), m) else
  (if 99 < v1 then some ((-1), m) else
  (if ((mj_I (m 42 0)) + v1) ≤ 9900 then (mj_loop (bp_go_l29 tp v1) mj_F (0, m)).bind fun q6 =>
  (if v1 ≤ 0 then some ((mj_I (q6.2.2 42 0)), q6.2.2) else
  (de_forget q6.2.2).bind fun q8 =>
  some ((mj_I (q8 42 0)), q8)) else
  some ((-1), m))))
set_option maxRecDepth 20000 in
theorem bp_go_l29_x {Ls tp ip x d : Nat} {Z : mj_X} {R : Option Value → mj_G → mj_M → Prop} {P : mj_K → Prop} (hC : mj_cls false (mj_sh Ls) (mj_rf tp ip) mj_dv mj_cd_16 (mj_Ex false (mj_sh Ls) (mj_rf tp ip) Z d) R P) (hd : 6 ≤ d) (htp : tp = 3 ∨ tp = 17) {v1 : Int32} (s29 : (Int32 × mj_M)) {t : Nat} {w : (Int32 × mj_M)} (h : bp_go_l29 tp v1 s29 = some (t, w)) (h0 : t = 0 → P (29, [some (.ref 1), some (.int v1), some (.int w.1)], [], (110, x), w.2)) (h1 : t = 1 → P (52, [some (.ref 1), some (.int v1), none], [], (110, x), w.2)) : P (29, [some (.ref 1), some (.int v1), some (.int s29.1)], [], (110, x), s29.2) := by
  unfold bp_go_l29 at h
  rcases htp with rfl | rfl
  all_goals
    refine mj_gcp hC 3 ?_
    show P (mj_pick 52 34 (v1 ≤ s29.1), [some (.ref 1), some (.int v1), some (.int s29.1)], [], (110, x), s29.2)
    refine mj_pbr (fun c4 => ?_) (fun c4 => ?_)
    · rw [if_pos c4] at h
      cases h
      exact mj_less hC (L0 := [some (.ref 1), some (.int v1), none]) (And.intro rfl (And.intro rfl trivial)) (h1 rfl)
    · rw [if_neg c4] at h
      refine mj_gcp hC 5 ?_
      show P (43, [some (.ref 1), some (.int v1), some (.int s29.1)], [.int 0, .ref 42, .ref 37], (110, x), s29.2)
      obtain ⟨q5, eq5, h⟩ := mj_bnd h
      refine mj_pcall hC rfl (ck_pass_x (Nat.le_trans (by decide) hd) (by decide) (by decide) eq5) ?_
      show P (46, [some (.ref 1), some (.int v1), some (.int s29.1)], [], (110, x), q5)
      refine mj_gcp hC 2 ?_
      show P (29, [some (.ref 1), some (.int v1), some (.int (s29.1 + 1))], [], (110, x), q5)
      cases h
      exact mj_less hC (L0 := [some (.ref 1), some (.int v1), some (.int (s29.1 + 1))]) (And.intro rfl (And.intro rfl (And.intro rfl trivial))) (h0 rfl)
set_option maxRecDepth 20000 in
theorem bp_go_p {Ls tp ip x d : Nat} {Z : mj_X} {R : Option Value → mj_G → mj_M → Prop} {P : mj_K → Prop} (hC : mj_cls false (mj_sh Ls) (mj_rf tp ip) mj_dv mj_cd_16 (mj_Ex false (mj_sh Ls) (mj_rf tp ip) Z d) R P) (hd : 6 ≤ d) (htp : tp = 3 ∨ tp = 17) {v1 : Int32} {m : mj_M} {r : (Int32 × mj_M)} (h : bp_go tp v1 m = some r) (hR : R (some (.int r.1)) (110, x) r.2) : P (0, [some (.ref 1), some (.int v1), none], [], (110, x), m) := by
  unfold bp_go at h
  rcases htp with rfl | rfl
  all_goals
    refine mj_gcp hC 2 ?_
    show P (mj_pick 25 4 (v1 < 0), [some (.ref 1), some (.int v1), none], [], (110, x), m)
    refine mj_pbr (fun c1 => ?_) (fun c1 => ?_)
    · rw [if_pos c1] at h
      refine mj_gcp hC 1 ?_
      show P (26, [some (.ref 1), some (.int v1), none], [.int (-1)], (110, x), m)
      cases h
      exact mj_pret hC rfl hR
    · rw [if_neg c1] at h
      refine mj_gcp hC 3 ?_
      show P (mj_pick 25 10 (99 < v1), [some (.ref 1), some (.int v1), none], [], (110, x), m)
      refine mj_pbr (fun c2 => ?_) (fun c2 => ?_)
      · rw [if_pos c2] at h
        refine mj_gcp hC 1 ?_
        show P (26, [some (.ref 1), some (.int v1), none], [.int (-1)], (110, x), m)
        cases h
        exact mj_pret hC rfl hR
      · rw [if_neg c2] at h
        refine mj_gcp hC 7 ?_
        show P (mj_pick 27 25 (((mj_I (m 42 0)) + v1) ≤ 9900), [some (.ref 1), some (.int v1), none], [], (110, x), m)
        refine mj_pbr (fun c3 => ?_) (fun c3 => ?_)
        · rw [if_pos c3] at h
          refine mj_gcp hC 2 ?_
          show P (29, [some (.ref 1), some (.int v1), some (.int 0)], [], (110, x), m)
          obtain ⟨q6, eq6, h⟩ := mj_bnd h
          refine mj_less hC (L0 := [some (.ref 1), some (.int v1), some (.int 0)]) (And.intro rfl (And.intro rfl (And.intro rfl trivial))) ?_
          refine mj_loop_P (A := fun z29 => P (29, [some (.ref 1), some (.int v1), some (.int z29.1)], [], (110, x), z29.2)) (E := fun _ z29 => P (52, [some (.ref 1), some (.int v1), none], [], (110, x), z29.2)) (fun zz t w hb h0 h1 => bp_go_l29_x hC hd (by decide) zz hb h0 (fun ht => h1 0 ht)) mj_F _ q6 eq6 ?_
          refine mj_gcp hC 2 ?_
          show P (mj_pick 63 56 (v1 ≤ 0), [some (.ref 1), some (.int v1), none], [], (110, x), q6.2.2)
          refine mj_pbr (fun c7 => ?_) (fun c7 => ?_)
          · rw [if_pos c7] at h
            refine mj_gcp hC 3 ?_
            show P (70, [some (.ref 1), some (.int v1), none], [.int (mj_I (q6.2.2 42 0))], (110, x), q6.2.2)
            cases h
            exact mj_pret hC rfl hR
          · rw [if_neg c7] at h
            refine mj_gcp hC 2 ?_
            show P (60, [some (.ref 1), some (.int v1), none], [.ref 57], (110, x), q6.2.2)
            obtain ⟨q8, eq8, h⟩ := mj_bnd h
            refine mj_pcall hC rfl (de_forget_x (Nat.le_trans (by decide) hd) eq8) ?_
            show P (63, [some (.ref 1), some (.int v1), none], [], (110, x), q8)
            refine mj_gcp hC 3 ?_
            show P (70, [some (.ref 1), some (.int v1), none], [.int (mj_I (q8 42 0))], (110, x), q8)
            cases h
            exact mj_pret hC rfl hR
        · rw [if_neg c3] at h
          refine mj_gcp hC 1 ?_
          show P (26, [some (.ref 1), some (.int v1), none], [.int (-1)], (110, x), m)
          cases h
          exact mj_pret hC rfl hR
set_option maxRecDepth 20000 in
theorem bp_go_x {Ls tp ip x d : Nat} {Z : mj_X} (hd : 7 ≤ d) (htp : tp = 3 ∨ tp = 17) {v1 : Int32} {m : mj_M} {r : (Int32 × mj_M)} (h : bp_go tp v1 m = some r) : mj_Ex false (mj_sh Ls) (mj_rf tp ip) Z d 16 [.ref 1, .int v1] (110, x) m (some (.int r.1)) (110, x) r.2 := by
  exact mj_Ex_of (cd := mj_cd_16) (L := [some (.ref 1), some (.int v1), none]) (by omega) (by decide) rfl (Nat.le_of_ble_eq_true rfl) rfl (fun P hC => bp_go_p hC (by omega) htp h ⟨rfl, rfl, rfl⟩)
def bp_tryHours_l2 (tp : Nat) (v1 : Int32) (v2 : Int32) (s2 : (Int32 × mj_M)) : Option (Nat × (Int32 × mj_M)) :=
  (if v1 ≤ s2.1 then some (1, (s2.1, s2.2)) else
  (ck_pass tp 47 v2 s2.2).bind fun q2 =>
  some (0, ((s2.1 + 1), q2)))
def bp_tryHours (tp : Nat) (v1 : Int32) (v2 : Int32) (m : mj_M) : Option mj_M :=
  (mj_loop (bp_tryHours_l2 tp v1 v2) mj_F (0, m)).bind fun q3 =>
  some q3.2.2
set_option maxRecDepth 20000 in
theorem bp_tryHours_l2_x {Ls tp ip x d : Nat} {Z : mj_X} {R : Option Value → mj_G → mj_M → Prop} {P : mj_K → Prop} (hC : mj_cls false (mj_sh Ls) (mj_rf tp ip) mj_dv mj_cd_18 (mj_Ex false (mj_sh Ls) (mj_rf tp ip) Z d) R P) (hd : 6 ≤ d) (htp : tp = 3 ∨ tp = 17) {v1 : Int32} {v2 : Int32} (s2 : (Int32 × mj_M)) {t : Nat} {w : (Int32 × mj_M)} (h : bp_tryHours_l2 tp v1 v2 s2 = some (t, w)) (h0 : t = 0 → P (2, [some (.ref 1), some (.int v1), some (.int v2), some (.int w.1)], [], (110, x), w.2)) (h1 : t = 1 → P (25, [none, none, none, none], [], (110, x), w.2)) : P (2, [some (.ref 1), some (.int v1), some (.int v2), some (.int s2.1)], [], (110, x), s2.2) := by
  unfold bp_tryHours_l2 at h
  rcases htp with rfl | rfl
  all_goals
    refine mj_gcp hC 3 ?_
    show P (mj_pick 25 7 (v1 ≤ s2.1), [some (.ref 1), some (.int v1), some (.int v2), some (.int s2.1)], [], (110, x), s2.2)
    refine mj_pbr (fun c1 => ?_) (fun c1 => ?_)
    · rw [if_pos c1] at h
      cases h
      exact mj_less hC (L0 := [none, none, none, none]) trivial (h1 rfl)
    · rw [if_neg c1] at h
      refine mj_gcp hC 5 ?_
      show P (16, [some (.ref 1), some (.int v1), some (.int v2), some (.int s2.1)], [.int v2, .ref 47, .ref 37], (110, x), s2.2)
      obtain ⟨q2, eq2, h⟩ := mj_bnd h
      refine mj_pcall hC rfl (ck_pass_x (Nat.le_trans (by decide) hd) (by decide) (by decide) eq2) ?_
      show P (19, [some (.ref 1), some (.int v1), some (.int v2), some (.int s2.1)], [], (110, x), q2)
      refine mj_gcp hC 2 ?_
      show P (2, [some (.ref 1), some (.int v1), some (.int v2), some (.int (s2.1 + 1))], [], (110, x), q2)
      cases h
      exact mj_less hC (L0 := [some (.ref 1), some (.int v1), some (.int v2), some (.int (s2.1 + 1))]) (And.intro rfl (And.intro rfl (And.intro rfl (And.intro rfl trivial)))) (h0 rfl)
set_option maxRecDepth 20000 in
theorem bp_tryHours_p {Ls tp ip x d : Nat} {Z : mj_X} {R : Option Value → mj_G → mj_M → Prop} {P : mj_K → Prop} (hC : mj_cls false (mj_sh Ls) (mj_rf tp ip) mj_dv mj_cd_18 (mj_Ex false (mj_sh Ls) (mj_rf tp ip) Z d) R P) (hd : 6 ≤ d) (htp : tp = 3 ∨ tp = 17) {v1 : Int32} {v2 : Int32} {m : mj_M} {r : mj_M} (h : bp_tryHours tp v1 v2 m = some r) (hR : R none (110, x) r) : P (0, [some (.ref 1), some (.int v1), some (.int v2), none], [], (110, x), m) := by
  unfold bp_tryHours at h
  rcases htp with rfl | rfl
  all_goals
    refine mj_gcp hC 2 ?_
    show P (2, [some (.ref 1), some (.int v1), some (.int v2), some (.int 0)], [], (110, x), m)
    obtain ⟨q3, eq3, h⟩ := mj_bnd h
    refine mj_less hC (L0 := [some (.ref 1), some (.int v1), some (.int v2), some (.int 0)]) (And.intro rfl (And.intro rfl (And.intro rfl (And.intro rfl trivial)))) ?_
    refine mj_loop_P (A := fun z2 => P (2, [some (.ref 1), some (.int v1), some (.int v2), some (.int z2.1)], [], (110, x), z2.2)) (E := fun _ z2 => P (25, [none, none, none, none], [], (110, x), z2.2)) (fun zz t w hb h0 h1 => bp_tryHours_l2_x hC hd (by decide) zz hb h0 (fun ht => h1 0 ht)) mj_F _ q3 eq3 ?_
    cases h
    exact mj_pret hC rfl hR
set_option maxRecDepth 20000 in
theorem bp_tryHours_x {Ls tp ip x d : Nat} {Z : mj_X} (hd : 7 ≤ d) (htp : tp = 3 ∨ tp = 17) {v1 : Int32} {v2 : Int32} {m : mj_M} {r : mj_M} (h : bp_tryHours tp v1 v2 m = some r) : mj_Ex false (mj_sh Ls) (mj_rf tp ip) Z d 18 [.ref 1, .int v1, .int v2] (110, x) m none (110, x) r := by
  exact mj_Ex_of (cd := mj_cd_18) (L := [some (.ref 1), some (.int v1), some (.int v2), none]) (by omega) (by decide) rfl (Nat.le_of_ble_eq_true rfl) rfl (fun P hC => bp_tryHours_p hC (by omega) htp h ⟨rfl, rfl, rfl⟩)
def bp_done_l26 (tp : Nat) (v1 : Int32) (s26 : (Int32 × mj_M)) : Option (Nat × (Int32 × mj_M)) :=
  (if 200 < s26.1 then some (2, (s26.1, s26.2)) else
  (if (sa_isDone 47 v1 s26.2) = 0 then (ck_pass tp 47 1 s26.2).bind fun q5 =>
  some (0, ((s26.1 + 1), q5)) else
  some (1, (s26.1, s26.2))))
def bp_done (tp : Nat) (v1 : Int32) (m : mj_M) : Option (Int32 × mj_M) :=
  (if (to_isWork tp v1 m) = 0 then some ((-1), m) else
  (sa_copy 47 42 m).bind fun q2 =>
  (mj_loop (bp_done_l26 tp v1) mj_F (0, q2)).bind fun q6 =>
  (if q6.1 = 0 then some (q6.2.1, q6.2.2) else some ((-2), q6.2.2)))
set_option maxRecDepth 20000 in
theorem bp_done_l26_x {Ls tp ip x d : Nat} {Z : mj_X} {R : Option Value → mj_G → mj_M → Prop} {P : mj_K → Prop} (hC : mj_cls false (mj_sh Ls) (mj_rf tp ip) mj_dv mj_cd_19 (mj_Ex false (mj_sh Ls) (mj_rf tp ip) Z d) R P) (hd : 6 ≤ d) (htp : tp = 3 ∨ tp = 17) {v1 : Int32} (s26 : (Int32 × mj_M)) {t : Nat} {w : (Int32 × mj_M)} (h : bp_done_l26 tp v1 s26 = some (t, w)) (h0 : t = 0 → P (26, [some (.ref 1), some (.int v1), some (.int w.1)], [], (110, x), w.2)) (h1 : t = 1 → P (44, [none, none, some (.int w.1)], [], (110, x), w.2)) (h2 : t = 2 → P (64, [none, none, none], [], (110, x), w.2)) : P (26, [some (.ref 1), some (.int v1), some (.int s26.1)], [], (110, x), s26.2) := by
  unfold bp_done_l26 at h
  rcases htp with rfl | rfl
  all_goals
    refine mj_gcp hC 3 ?_
    show P (mj_pick 64 33 (200 < s26.1), [some (.ref 1), some (.int v1), some (.int s26.1)], [], (110, x), s26.2)
    refine mj_pbr (fun c3 => ?_) (fun c3 => ?_)
    · rw [if_pos c3] at h
      cases h
      exact mj_less hC (L0 := [none, none, none]) trivial (h2 rfl)
    · rw [if_neg c3] at h
      refine mj_gcp hC 3 ?_
      show P (38, [some (.ref 1), some (.int v1), some (.int s26.1)], [.int v1, .ref 47], (110, x), s26.2)
      refine mj_pcall hC rfl (sa_isDone_x (Nat.le_trans (by decide) hd) (by decide)) ?_
      show P (41, [some (.ref 1), some (.int v1), some (.int s26.1)], [.int (sa_isDone 47 v1 s26.2)], (110, x), s26.2)
      refine mj_gcp hC 1 ?_
      show P (mj_pick 46 44 ((sa_isDone 47 v1 s26.2) = 0), [some (.ref 1), some (.int v1), some (.int s26.1)], [], (110, x), s26.2)
      refine mj_pbr (fun c4 => ?_) (fun c4 => ?_)
      · rw [if_pos c4] at h
        refine mj_gcp hC 5 ?_
        show P (55, [some (.ref 1), some (.int v1), some (.int s26.1)], [.int 1, .ref 47, .ref 37], (110, x), s26.2)
        obtain ⟨q5, eq5, h⟩ := mj_bnd h
        refine mj_pcall hC rfl (ck_pass_x (Nat.le_trans (by decide) hd) (by decide) (by decide) eq5) ?_
        show P (58, [some (.ref 1), some (.int v1), some (.int s26.1)], [], (110, x), q5)
        refine mj_gcp hC 2 ?_
        show P (26, [some (.ref 1), some (.int v1), some (.int (s26.1 + 1))], [], (110, x), q5)
        cases h
        exact mj_less hC (L0 := [some (.ref 1), some (.int v1), some (.int (s26.1 + 1))]) (And.intro rfl (And.intro rfl (And.intro rfl trivial))) (h0 rfl)
      · rw [if_neg c4] at h
        cases h
        exact mj_less hC (L0 := [none, none, some (.int s26.1)]) (And.intro rfl trivial) (h1 rfl)
set_option maxRecDepth 20000 in
theorem bp_done_p {Ls tp ip x d : Nat} {Z : mj_X} {R : Option Value → mj_G → mj_M → Prop} {P : mj_K → Prop} (hC : mj_cls false (mj_sh Ls) (mj_rf tp ip) mj_dv mj_cd_19 (mj_Ex false (mj_sh Ls) (mj_rf tp ip) Z d) R P) (hd : 6 ≤ d) (htp : tp = 3 ∨ tp = 17) {v1 : Int32} {m : mj_M} {r : (Int32 × mj_M)} (h : bp_done tp v1 m = some r) (hR : R (some (.int r.1)) (110, x) r.2) : P (0, [some (.ref 1), some (.int v1), none], [], (110, x), m) := by
  unfold bp_done at h
  rcases htp with rfl | rfl
  all_goals
    refine mj_gcp hC 3 ?_
    show P (5, [some (.ref 1), some (.int v1), none], [.int v1, .ref _], (110, x), m)
    refine mj_pcall hC rfl (to_isWork_x (Nat.le_trans (by decide) hd) (by decide)) ?_
    show P (8, [some (.ref 1), some (.int v1), none], [.int (to_isWork _ v1 m)], (110, x), m)
    refine mj_gcp hC 1 ?_
    show P (mj_pick 11 13 ((to_isWork _ v1 m) = 0), [some (.ref 1), some (.int v1), none], [], (110, x), m)
    refine mj_pbr (fun c1 => ?_) (fun c1 => ?_)
    · rw [if_pos c1] at h
      refine mj_gcp hC 1 ?_
      show P (12, [some (.ref 1), some (.int v1), none], [.int (-1)], (110, x), m)
      cases h
      exact mj_pret hC rfl hR
    · rw [if_neg c1] at h
      refine mj_gcp hC 4 ?_
      show P (21, [some (.ref 1), some (.int v1), none], [.ref 42, .ref 47], (110, x), m)
      obtain ⟨q2, eq2, h⟩ := mj_bnd h
      refine mj_pcall hC rfl (sa_copy_x (Nat.le_trans (by decide) hd) (by decide) eq2) ?_
      show P (24, [some (.ref 1), some (.int v1), none], [], (110, x), q2)
      refine mj_gcp hC 2 ?_
      show P (26, [some (.ref 1), some (.int v1), some (.int 0)], [], (110, x), q2)
      obtain ⟨q6, eq6, h⟩ := mj_bnd h
      refine mj_less hC (L0 := [some (.ref 1), some (.int v1), some (.int 0)]) (And.intro rfl (And.intro rfl (And.intro rfl trivial))) ?_
      refine mj_loop_P (A := fun z26 => P (26, [some (.ref 1), some (.int v1), some (.int z26.1)], [], (110, x), z26.2)) (E := fun j z26 => (j = 0 → P (44, [none, none, some (.int z26.1)], [], (110, x), z26.2)) ∧ (¬ j = 0 → P (64, [none, none, none], [], (110, x), z26.2))) (fun zz t w hb h0 h1 => bp_done_l26_x hC hd (by decide) zz hb h0 (fun ht => (h1 0 ht).1 rfl) (fun ht => (h1 1 ht).2 (by decide))) mj_F _ q6 eq6 ⟨fun hj => ?_, fun hj => ?_⟩
      · rw [if_pos hj] at h
        refine mj_gcp hC 1 ?_
        show P (45, [none, none, some (.int q6.2.1)], [.int q6.2.1], (110, x), q6.2.2)
        cases h
        exact mj_pret hC rfl hR
      · rw [if_neg hj] at h
        refine mj_gcp hC 1 ?_
        show P (66, [none, none, none], [.int (-2)], (110, x), q6.2.2)
        cases h
        exact mj_pret hC rfl hR
set_option maxRecDepth 20000 in
theorem bp_done_x {Ls tp ip x d : Nat} {Z : mj_X} (hd : 7 ≤ d) (htp : tp = 3 ∨ tp = 17) {v1 : Int32} {m : mj_M} {r : (Int32 × mj_M)} (h : bp_done tp v1 m = some r) : mj_Ex false (mj_sh Ls) (mj_rf tp ip) Z d 19 [.ref 1, .int v1] (110, x) m (some (.int r.1)) (110, x) r.2 := by
  exact mj_Ex_of (cd := mj_cd_19) (L := [some (.ref 1), some (.int v1), none]) (by omega) (by decide) rfl (Nat.le_of_ble_eq_true rfl) rfl (fun P hC => bp_done_p hC (by omega) htp h ⟨rfl, rfl, rfl⟩)
def bp_stops_l13 (tp : Nat)  (s13 : (Int32 × mj_M)) : Option (Nat × (Int32 × mj_M)) :=
  (if 999 < s13.1 then some (2, (s13.1, s13.2)) else
  (if (mj_I (s13.2 47 1)) = 0 then some (1, (s13.1, s13.2)) else
  (ck_pass tp 47 1 s13.2).bind fun q4 =>
  some (0, ((s13.1 + 1), q4))))
def bp_stops (tp : Nat)  (m : mj_M) : Option (Int32 × mj_M) :=
  (sa_copy 47 42 m).bind fun q1 =>
  (mj_loop (bp_stops_l13 tp) mj_F (0, q1)).bind fun q5 =>
  (if q5.1 = 0 then some (q5.2.1, q5.2.2) else some ((-2), q5.2.2))
set_option maxRecDepth 20000 in
theorem bp_stops_l13_x {Ls tp ip x d : Nat} {Z : mj_X} {R : Option Value → mj_G → mj_M → Prop} {P : mj_K → Prop} (hC : mj_cls false (mj_sh Ls) (mj_rf tp ip) mj_dv mj_cd_20 (mj_Ex false (mj_sh Ls) (mj_rf tp ip) Z d) R P) (hd : 6 ≤ d) (htp : tp = 3 ∨ tp = 17)  (s13 : (Int32 × mj_M)) {t : Nat} {w : (Int32 × mj_M)} (h : bp_stops_l13 tp s13 = some (t, w)) (h0 : t = 0 → P (13, [some (.ref 1), some (.int w.1)], [], (110, x), w.2)) (h1 : t = 1 → P (30, [none, some (.int w.1)], [], (110, x), w.2)) (h2 : t = 2 → P (50, [none, none], [], (110, x), w.2)) : P (13, [some (.ref 1), some (.int s13.1)], [], (110, x), s13.2) := by
  unfold bp_stops_l13 at h
  rcases htp with rfl | rfl
  all_goals
    refine mj_gcp hC 3 ?_
    show P (mj_pick 50 20 (999 < s13.1), [some (.ref 1), some (.int s13.1)], [], (110, x), s13.2)
    refine mj_pbr (fun c2 => ?_) (fun c2 => ?_)
    · rw [if_pos c2] at h
      cases h
      exact mj_less hC (L0 := [none, none]) trivial (h2 rfl)
    · rw [if_neg c2] at h
      refine mj_gcp hC 4 ?_
      show P (mj_pick 30 32 ((mj_I (s13.2 47 1)) = 0), [some (.ref 1), some (.int s13.1)], [], (110, x), s13.2)
      refine mj_pbr (fun c3 => ?_) (fun c3 => ?_)
      · rw [if_pos c3] at h
        cases h
        exact mj_less hC (L0 := [none, some (.int s13.1)]) (And.intro rfl trivial) (h1 rfl)
      · rw [if_neg c3] at h
        refine mj_gcp hC 5 ?_
        show P (41, [some (.ref 1), some (.int s13.1)], [.int 1, .ref 47, .ref 37], (110, x), s13.2)
        obtain ⟨q4, eq4, h⟩ := mj_bnd h
        refine mj_pcall hC rfl (ck_pass_x (Nat.le_trans (by decide) hd) (by decide) (by decide) eq4) ?_
        show P (44, [some (.ref 1), some (.int s13.1)], [], (110, x), q4)
        refine mj_gcp hC 2 ?_
        show P (13, [some (.ref 1), some (.int (s13.1 + 1))], [], (110, x), q4)
        cases h
        exact mj_less hC (L0 := [some (.ref 1), some (.int (s13.1 + 1))]) (And.intro rfl (And.intro rfl trivial)) (h0 rfl)
set_option maxRecDepth 20000 in
theorem bp_stops_p {Ls tp ip x d : Nat} {Z : mj_X} {R : Option Value → mj_G → mj_M → Prop} {P : mj_K → Prop} (hC : mj_cls false (mj_sh Ls) (mj_rf tp ip) mj_dv mj_cd_20 (mj_Ex false (mj_sh Ls) (mj_rf tp ip) Z d) R P) (hd : 6 ≤ d) (htp : tp = 3 ∨ tp = 17)  {m : mj_M} {r : (Int32 × mj_M)} (h : bp_stops tp m = some r) (hR : R (some (.int r.1)) (110, x) r.2) : P (0, [some (.ref 1), none], [], (110, x), m) := by
  unfold bp_stops at h
  rcases htp with rfl | rfl
  all_goals
    refine mj_gcp hC 4 ?_
    show P (8, [some (.ref 1), none], [.ref 42, .ref 47], (110, x), m)
    obtain ⟨q1, eq1, h⟩ := mj_bnd h
    refine mj_pcall hC rfl (sa_copy_x (Nat.le_trans (by decide) hd) (by decide) eq1) ?_
    show P (11, [some (.ref 1), none], [], (110, x), q1)
    refine mj_gcp hC 2 ?_
    show P (13, [some (.ref 1), some (.int 0)], [], (110, x), q1)
    obtain ⟨q5, eq5, h⟩ := mj_bnd h
    refine mj_less hC (L0 := [some (.ref 1), some (.int 0)]) (And.intro rfl (And.intro rfl trivial)) ?_
    refine mj_loop_P (A := fun z13 => P (13, [some (.ref 1), some (.int z13.1)], [], (110, x), z13.2)) (E := fun j z13 => (j = 0 → P (30, [none, some (.int z13.1)], [], (110, x), z13.2)) ∧ (¬ j = 0 → P (50, [none, none], [], (110, x), z13.2))) (fun zz t w hb h0 h1 => bp_stops_l13_x hC hd (by decide) zz hb h0 (fun ht => (h1 0 ht).1 rfl) (fun ht => (h1 1 ht).2 (by decide))) mj_F _ q5 eq5 ⟨fun hj => ?_, fun hj => ?_⟩
    · rw [if_pos hj] at h
      refine mj_gcp hC 1 ?_
      show P (31, [none, some (.int q5.2.1)], [.int q5.2.1], (110, x), q5.2.2)
      cases h
      exact mj_pret hC rfl hR
    · rw [if_neg hj] at h
      refine mj_gcp hC 1 ?_
      show P (52, [none, none], [.int (-2)], (110, x), q5.2.2)
      cases h
      exact mj_pret hC rfl hR
set_option maxRecDepth 20000 in
theorem bp_stops_x {Ls tp ip x d : Nat} {Z : mj_X} (hd : 7 ≤ d) (htp : tp = 3 ∨ tp = 17)  {m : mj_M} {r : (Int32 × mj_M)} (h : bp_stops tp m = some r) : mj_Ex false (mj_sh Ls) (mj_rf tp ip) Z d 20 [.ref 1] (110, x) m (some (.int r.1)) (110, x) r.2 := by
  exact mj_Ex_of (cd := mj_cd_20) (L := [some (.ref 1), none]) (by omega) (by decide) rfl (Nat.le_of_ble_eq_true rfl) rfl (fun P hC => bp_stops_p hC (by omega) htp h ⟨rfl, rfl, rfl⟩)
def bp_tryPace_l21 (tp : Nat) (v1 : Int32) (s21 : (Int32 × mj_M)) : Option (Nat × (Int32 × mj_M)) :=
  (if v1 ≤ s21.1 then some (1, (s21.1, s21.2)) else
  (if (mj_I (s21.2 47 1)) ≤ 0 then some (1, (s21.1, s21.2)) else
  (ck_pass tp 47 1 s21.2).bind fun q4 =>
  some (0, ((s21.1 + 1), q4))))
def bp_tryPace_j54 (tp : Nat)   (m : mj_M) : Option mj_M :=
  some (mj_up m 37 1 (.int 0))
def bp_tryPace (tp : Nat) (v1 : Int32) (v2 : Int32) (m : mj_M) : Option mj_M :=
  (sa_copy 47 42 m).bind fun q1 =>
  (mj_loop (bp_tryPace_l21 tp v1) mj_F (0, (mj_up q1 37 1 (.int v2)))).bind fun q5 =>
  bp_tryPace_j54 tp q5.2.2
set_option maxRecDepth 20000 in
theorem bp_tryPace_l21_x {Ls tp ip x d : Nat} {Z : mj_X} {R : Option Value → mj_G → mj_M → Prop} {P : mj_K → Prop} (hC : mj_cls false (mj_sh Ls) (mj_rf tp ip) mj_dv mj_cd_22 (mj_Ex false (mj_sh Ls) (mj_rf tp ip) Z d) R P) (hd : 6 ≤ d) (htp : tp = 3 ∨ tp = 17) {v1 : Int32} (s21 : (Int32 × mj_M)) {t : Nat} {w : (Int32 × mj_M)} (h : bp_tryPace_l21 tp v1 s21 = some (t, w)) (h0 : t = 0 → P (21, [some (.ref 1), some (.int v1), none, some (.int w.1)], [], (110, x), w.2)) (h1 : t = 1 → P (54, [some (.ref 1), none, none, none], [], (110, x), w.2)) : P (21, [some (.ref 1), some (.int v1), none, some (.int s21.1)], [], (110, x), s21.2) := by
  unfold bp_tryPace_l21 at h
  rcases htp with rfl | rfl
  all_goals
    refine mj_gcp hC 3 ?_
    show P (mj_pick 54 26 (v1 ≤ s21.1), [some (.ref 1), some (.int v1), none, some (.int s21.1)], [], (110, x), s21.2)
    refine mj_pbr (fun c2 => ?_) (fun c2 => ?_)
    · rw [if_pos c2] at h
      cases h
      exact mj_less hC (L0 := [some (.ref 1), none, none, none]) (And.intro rfl trivial) (h1 rfl)
    · rw [if_neg c2] at h
      refine mj_gcp hC 4 ?_
      show P (mj_pick 54 36 ((mj_I (s21.2 47 1)) ≤ 0), [some (.ref 1), some (.int v1), none, some (.int s21.1)], [], (110, x), s21.2)
      refine mj_pbr (fun c3 => ?_) (fun c3 => ?_)
      · rw [if_pos c3] at h
        cases h
        exact mj_less hC (L0 := [some (.ref 1), none, none, none]) (And.intro rfl trivial) (h1 rfl)
      · rw [if_neg c3] at h
        refine mj_gcp hC 5 ?_
        show P (45, [some (.ref 1), some (.int v1), none, some (.int s21.1)], [.int 1, .ref 47, .ref 37], (110, x), s21.2)
        obtain ⟨q4, eq4, h⟩ := mj_bnd h
        refine mj_pcall hC rfl (ck_pass_x (Nat.le_trans (by decide) hd) (by decide) (by decide) eq4) ?_
        show P (48, [some (.ref 1), some (.int v1), none, some (.int s21.1)], [], (110, x), q4)
        refine mj_gcp hC 2 ?_
        show P (21, [some (.ref 1), some (.int v1), none, some (.int (s21.1 + 1))], [], (110, x), q4)
        cases h
        exact mj_less hC (L0 := [some (.ref 1), some (.int v1), none, some (.int (s21.1 + 1))]) (And.intro rfl (And.intro rfl (And.intro rfl trivial))) (h0 rfl)
set_option maxRecDepth 20000 in
theorem bp_tryPace_j54_x {Ls tp ip x d : Nat} {Z : mj_X} {R : Option Value → mj_G → mj_M → Prop} {P : mj_K → Prop} (hC : mj_cls false (mj_sh Ls) (mj_rf tp ip) mj_dv mj_cd_22 (mj_Ex false (mj_sh Ls) (mj_rf tp ip) Z d) R P) (hd : 6 ≤ d) (htp : tp = 3 ∨ tp = 17)   {m : mj_M} {r : mj_M} (h : bp_tryPace_j54 tp m = some r) (hR : R none (110, x) r) : P (54, [some (.ref 1), none, none, none], [], (110, x), m) := by
  unfold bp_tryPace_j54 at h
  rcases htp with rfl | rfl
  all_goals
    refine mj_gcp hC 4 ?_
    show P (62, [some (.ref 1), none, none, none], [], (110, x), (mj_up m 37 1 (.int 0)))
    cases h
    exact mj_pret hC rfl hR
set_option maxRecDepth 20000 in
theorem bp_tryPace_p {Ls tp ip x d : Nat} {Z : mj_X} {R : Option Value → mj_G → mj_M → Prop} {P : mj_K → Prop} (hC : mj_cls false (mj_sh Ls) (mj_rf tp ip) mj_dv mj_cd_22 (mj_Ex false (mj_sh Ls) (mj_rf tp ip) Z d) R P) (hd : 6 ≤ d) (htp : tp = 3 ∨ tp = 17) {v1 : Int32} {v2 : Int32} {m : mj_M} {r : mj_M} (h : bp_tryPace tp v1 v2 m = some r) (hR : R none (110, x) r) : P (0, [some (.ref 1), some (.int v1), some (.int v2), none], [], (110, x), m) := by
  unfold bp_tryPace at h
  rcases htp with rfl | rfl
  all_goals
    refine mj_gcp hC 4 ?_
    show P (8, [some (.ref 1), some (.int v1), some (.int v2), none], [.ref 42, .ref 47], (110, x), m)
    obtain ⟨q1, eq1, h⟩ := mj_bnd h
    refine mj_pcall hC rfl (sa_copy_x (Nat.le_trans (by decide) hd) (by decide) eq1) ?_
    show P (11, [some (.ref 1), some (.int v1), some (.int v2), none], [], (110, x), q1)
    refine mj_gcp hC 6 ?_
    show P (21, [some (.ref 1), some (.int v1), some (.int v2), some (.int 0)], [], (110, x), (mj_up q1 37 1 (.int v2)))
    obtain ⟨q5, eq5, h⟩ := mj_bnd h
    refine mj_less hC (L0 := [some (.ref 1), some (.int v1), none, some (.int 0)]) (And.intro rfl (And.intro rfl (And.intro rfl trivial))) ?_
    refine mj_loop_P (A := fun z21 => P (21, [some (.ref 1), some (.int v1), none, some (.int z21.1)], [], (110, x), z21.2)) (E := fun _ z21 => P (54, [some (.ref 1), none, none, none], [], (110, x), z21.2)) (fun zz t w hb h0 h1 => bp_tryPace_l21_x hC hd (by decide) zz hb h0 (fun ht => h1 0 ht)) mj_F _ q5 eq5 ?_
    exact mj_less hC (L0 := [some (.ref 1), none, none, none]) (And.intro rfl trivial) (bp_tryPace_j54_x hC hd (by decide) h hR)
set_option maxRecDepth 20000 in
theorem bp_tryPace_x {Ls tp ip x d : Nat} {Z : mj_X} (hd : 7 ≤ d) (htp : tp = 3 ∨ tp = 17) {v1 : Int32} {v2 : Int32} {m : mj_M} {r : mj_M} (h : bp_tryPace tp v1 v2 m = some r) : mj_Ex false (mj_sh Ls) (mj_rf tp ip) Z d 22 [.ref 1, .int v1, .int v2] (110, x) m none (110, x) r := by
  exact mj_Ex_of (cd := mj_cd_22) (L := [some (.ref 1), some (.int v1), some (.int v2), none]) (by omega) (by decide) rfl (Nat.le_of_ble_eq_true rfl) rfl (fun P hC => bp_tryPace_p hC (by omega) htp h ⟨rfl, rfl, rfl⟩)
def bp_crowd (tp : Nat) (v1 : Int32) (m : mj_M) : Option (Int32 × mj_M) :=
  (if v1 < 0 then some ((-1), m) else
  (if v1 ≤ 200 then (sa_copy 47 42 m).bind fun q3 =>
  (bp_tryHours tp v1 1 q3).bind fun q4 =>
  (sa_doneBits 47 (mj_I (q4 tp 5)) q4).bind fun q5 =>
  (sa_doneBits 42 (mj_I (q4 tp 5)) q4).bind fun q6 =>
  some ((q5 &&& (q6 ^^^ (-1))), q4) else
  some ((-1), m)))
set_option maxRecDepth 20000 in
theorem bp_crowd_p {Ls tp ip x d : Nat} {Z : mj_X} {R : Option Value → mj_G → mj_M → Prop} {P : mj_K → Prop} (hC : mj_cls false (mj_sh Ls) (mj_rf tp ip) mj_dv mj_cd_26 (mj_Ex false (mj_sh Ls) (mj_rf tp ip) Z d) R P) (hd : 7 ≤ d) (htp : tp = 3 ∨ tp = 17) {v1 : Int32} {m : mj_M} {r : (Int32 × mj_M)} (h : bp_crowd tp v1 m = some r) (hR : R (some (.int r.1)) (110, x) r.2) : P (0, [some (.ref 1), some (.int v1)], [], (110, x), m) := by
  unfold bp_crowd at h
  rcases htp with rfl | rfl
  all_goals
    refine mj_gcp hC 2 ?_
    show P (mj_pick 11 4 (v1 < 0), [some (.ref 1), some (.int v1)], [], (110, x), m)
    refine mj_pbr (fun c1 => ?_) (fun c1 => ?_)
    · rw [if_pos c1] at h
      refine mj_gcp hC 1 ?_
      show P (12, [some (.ref 1), some (.int v1)], [.int (-1)], (110, x), m)
      cases h
      exact mj_pret hC rfl hR
    · rw [if_neg c1] at h
      refine mj_gcp hC 3 ?_
      show P (mj_pick 13 11 (v1 ≤ 200), [some (.ref 1), some (.int v1)], [], (110, x), m)
      refine mj_pbr (fun c2 => ?_) (fun c2 => ?_)
      · rw [if_pos c2] at h
        refine mj_gcp hC 4 ?_
        show P (21, [some (.ref 1), some (.int v1)], [.ref 42, .ref 47], (110, x), m)
        obtain ⟨q3, eq3, h⟩ := mj_bnd h
        refine mj_pcall hC rfl (sa_copy_x (Nat.le_trans (by decide) hd) (by decide) eq3) ?_
        show P (24, [some (.ref 1), some (.int v1)], [], (110, x), q3)
        refine mj_gcp hC 3 ?_
        show P (27, [some (.ref 1), some (.int v1)], [.int 1, .int v1, .ref 1], (110, x), q3)
        obtain ⟨q4, eq4, h⟩ := mj_bnd h
        refine mj_pcall hC rfl (bp_tryHours_x (Nat.le_trans (by decide) hd) (by decide) eq4) ?_
        show P (30, [some (.ref 1), some (.int v1)], [], (110, x), q4)
        refine mj_gcp hC 5 ?_
        show P (41, [some (.ref 1), some (.int v1)], [.int (mj_I (q4 _ 5)), .ref 47], (110, x), q4)
        obtain ⟨q5, eq5, h⟩ := mj_bnd h
        refine mj_pcall hC rfl (sa_doneBits_x (Nat.le_trans (by decide) hd) (by decide) eq5) ?_
        show P (44, [some (.ref 1), some (.int v1)], [.int q5], (110, x), q4)
        refine mj_gcp hC 5 ?_
        show P (55, [some (.ref 1), some (.int v1)], [.int (mj_I (q4 _ 5)), .ref 42, .int q5], (110, x), q4)
        obtain ⟨q6, eq6, h⟩ := mj_bnd h
        refine mj_pcall hC rfl (sa_doneBits_x (Nat.le_trans (by decide) hd) (by decide) eq6) ?_
        show P (58, [some (.ref 1), some (.int v1)], [.int q6, .int q5], (110, x), q4)
        refine mj_gcp hC 3 ?_
        show P (61, [some (.ref 1), some (.int v1)], [.int (q5 &&& (q6 ^^^ (-1)))], (110, x), q4)
        cases h
        exact mj_pret hC rfl hR
      · rw [if_neg c2] at h
        refine mj_gcp hC 1 ?_
        show P (12, [some (.ref 1), some (.int v1)], [.int (-1)], (110, x), m)
        cases h
        exact mj_pret hC rfl hR
set_option maxRecDepth 20000 in
theorem bp_crowd_x {Ls tp ip x d : Nat} {Z : mj_X} (hd : 8 ≤ d) (htp : tp = 3 ∨ tp = 17) {v1 : Int32} {m : mj_M} {r : (Int32 × mj_M)} (h : bp_crowd tp v1 m = some r) : mj_Ex false (mj_sh Ls) (mj_rf tp ip) Z d 26 [.ref 1, .int v1] (110, x) m (some (.int r.1)) (110, x) r.2 := by
  exact mj_Ex_of (cd := mj_cd_26) (L := [some (.ref 1), some (.int v1)]) (by omega) (by decide) rfl (Nat.le_of_ble_eq_true rfl) rfl (fun P hC => bp_crowd_p hC (by omega) htp h ⟨rfl, rfl, rfl⟩)
def bp_off_j115l64 (tp : Nat)  (v1 : Int32) (v2 : Int32) (v3 : Int32) (v4 : Int32) (v5 : Int32) (v6 : Int32) (v7 : Int32)  (m : mj_M) : Option (Nat × (Int32 × Int32 × Int32 × mj_M)) :=
  some (0, (v5, v6, (v7 + 1), m))
def bp_off_j99l64 (tp : Nat)  (v1 : Int32) (v2 : Int32) (v3 : Int32) (v4 : Int32) (v5 : Int32) (v6 : Int32) (v7 : Int32)  (m : mj_M) : Option (Nat × (Int32 × Int32 × Int32 × mj_M)) :=
  (if ((mj_I (m 47 9)) &&& v4) = 0 then bp_off_j115l64 tp v1 v2 v3 v4 v5 v6 v7 m else
  bp_off_j115l64 tp v1 v2 v3 v4 v5 (v6 + 1) v7 m)
def bp_off_l64 (tp : Nat) (v1 : Int32) (v2 : Int32) (v3 : Int32) (v4 : Int32) (s64 : (Int32 × Int32 × Int32 × mj_M)) : Option (Nat × (Int32 × Int32 × Int32 × mj_M)) :=
  (if v2 ≤ s64.2.2.1 then some (1, (s64.1, s64.2.1, s64.2.2.1, s64.2.2.2)) else
  (ck_pass tp 47 1 s64.2.2.2).bind fun q9 =>
  (if (bp_has (mj_I (q9 47 10)) v1 q9) = 0 then bp_off_j99l64 tp v1 v2 v3 v4 s64.1 s64.2.1 s64.2.2.1 q9 else
  bp_off_j99l64 tp v1 v2 v3 v4 (s64.1 + 1) s64.2.1 s64.2.2.1 q9))
def bp_off (tp : Nat) (v1 : Int32) (v2 : Int32) (v3 : Int32) (m : mj_M) : Option (Int32 × mj_M) :=
  (if (to_isMan tp v1 m) = 0 then some ((-1), m) else
  (if v2 < 1 then some ((-1), m) else
  (if 200 < v2 then some ((-1), m) else
  (if v3 < 0 then some ((-1), m) else
  (if v3 ≤ 1 then (to_worksOf tp v1 m).bind fun q6 =>
  (sa_copy 47 42 m).bind fun q7 =>
  (mj_loop (bp_off_l64 tp v1 v2 v3 q6) mj_F (0, 0, 0, q7)).bind fun q12 =>
  (bp_gcd q12.2.1 q12.2.2.1 q12.2.2.2.2).bind fun q13 =>
  (if q12.2.2.1 = 0 then some (v3, q12.2.2.2.2) else
  (if q13 = 0 then some (v3, q12.2.2.2.2) else
  (if v3 = 0 then (if (q13 : Int32) = 0 then none else
  some ((q12.2.1 / q13), q12.2.2.2.2)) else
  (if (q13 : Int32) = 0 then none else
  some ((q12.2.2.1 / q13), q12.2.2.2.2))))) else
  some ((-1), m))))))
set_option maxRecDepth 20000 in
theorem bp_off_j115l64_x {Ls tp ip x d : Nat} {Z : mj_X} {R : Option Value → mj_G → mj_M → Prop} {P : mj_K → Prop} (hC : mj_cls false (mj_sh Ls) (mj_rf tp ip) mj_dv mj_cd_27 (mj_Ex false (mj_sh Ls) (mj_rf tp ip) Z d) R P) (hd : 6 ≤ d) (htp : tp = 3 ∨ tp = 17)  {v1 : Int32} {v2 : Int32} {v3 : Int32} {v4 : Int32} {v5 : Int32} {v6 : Int32} {v7 : Int32}  {m : mj_M} {t : Nat} {w : (Int32 × Int32 × Int32 × mj_M)} (h : bp_off_j115l64 tp  v1 v2 v3 v4 v5 v6 v7 m = some (t, w)) (h0 : t = 0 → P (64, [some (.ref 1), some (.int v1), some (.int v2), some (.int v3), some (.int v4), some (.int w.1), some (.int w.2.1), some (.int w.2.2.1)], [], (110, x), w.2.2.2)) (h1 : t = 1 → P (121, [none, none, none, some (.int v3), none, some (.int w.1), some (.int w.2.1), none], [], (110, x), w.2.2.2)) : P (115, [some (.ref 1), some (.int v1), some (.int v2), some (.int v3), some (.int v4), some (.int v5), some (.int v6), some (.int v7)], [], (110, x), m) := by
  unfold bp_off_j115l64 at h
  rcases htp with rfl | rfl
  all_goals
    refine mj_gcp hC 2 ?_
    show P (64, [some (.ref 1), some (.int v1), some (.int v2), some (.int v3), some (.int v4), some (.int v5), some (.int v6), some (.int (v7 + 1))], [], (110, x), m)
    cases h
    exact mj_less hC (L0 := [some (.ref 1), some (.int v1), some (.int v2), some (.int v3), some (.int v4), some (.int v5), some (.int v6), some (.int (v7 + 1))]) (And.intro rfl (And.intro rfl (And.intro rfl (And.intro rfl (And.intro rfl (And.intro rfl (And.intro rfl (And.intro rfl trivial)))))))) (h0 rfl)
set_option maxRecDepth 20000 in
theorem bp_off_j99l64_x {Ls tp ip x d : Nat} {Z : mj_X} {R : Option Value → mj_G → mj_M → Prop} {P : mj_K → Prop} (hC : mj_cls false (mj_sh Ls) (mj_rf tp ip) mj_dv mj_cd_27 (mj_Ex false (mj_sh Ls) (mj_rf tp ip) Z d) R P) (hd : 6 ≤ d) (htp : tp = 3 ∨ tp = 17)  {v1 : Int32} {v2 : Int32} {v3 : Int32} {v4 : Int32} {v5 : Int32} {v6 : Int32} {v7 : Int32}  {m : mj_M} {t : Nat} {w : (Int32 × Int32 × Int32 × mj_M)} (h : bp_off_j99l64 tp  v1 v2 v3 v4 v5 v6 v7 m = some (t, w)) (h0 : t = 0 → P (64, [some (.ref 1), some (.int v1), some (.int v2), some (.int v3), some (.int v4), some (.int w.1), some (.int w.2.1), some (.int w.2.2.1)], [], (110, x), w.2.2.2)) (h1 : t = 1 → P (121, [none, none, none, some (.int v3), none, some (.int w.1), some (.int w.2.1), none], [], (110, x), w.2.2.2)) : P (99, [some (.ref 1), some (.int v1), some (.int v2), some (.int v3), some (.int v4), some (.int v5), some (.int v6), some (.int v7)], [], (110, x), m) := by
  unfold bp_off_j99l64 at h
  rcases htp with rfl | rfl
  all_goals
    refine mj_gcp hC 6 ?_
    show P (mj_pick 115 112 (((mj_I (m 47 9)) &&& v4) = 0), [some (.ref 1), some (.int v1), some (.int v2), some (.int v3), some (.int v4), some (.int v5), some (.int v6), some (.int v7)], [], (110, x), m)
    refine mj_pbr (fun c11 => ?_) (fun c11 => ?_)
    · rw [if_pos c11] at h
      exact mj_less hC (L0 := [some (.ref 1), some (.int v1), some (.int v2), some (.int v3), some (.int v4), some (.int v5), some (.int v6), some (.int v7)]) (And.intro rfl (And.intro rfl (And.intro rfl (And.intro rfl (And.intro rfl (And.intro rfl (And.intro rfl (And.intro rfl trivial)))))))) (bp_off_j115l64_x hC hd (by decide) h h0 h1)
    · rw [if_neg c11] at h
      refine mj_gcp hC 1 ?_
      show P (115, [some (.ref 1), some (.int v1), some (.int v2), some (.int v3), some (.int v4), some (.int v5), some (.int (v6 + 1)), some (.int v7)], [], (110, x), m)
      exact mj_less hC (L0 := [some (.ref 1), some (.int v1), some (.int v2), some (.int v3), some (.int v4), some (.int v5), some (.int (v6 + 1)), some (.int v7)]) (And.intro rfl (And.intro rfl (And.intro rfl (And.intro rfl (And.intro rfl (And.intro rfl (And.intro rfl (And.intro rfl trivial)))))))) (bp_off_j115l64_x hC hd (by decide) h h0 h1)
set_option maxRecDepth 20000 in
theorem bp_off_l64_x {Ls tp ip x d : Nat} {Z : mj_X} {R : Option Value → mj_G → mj_M → Prop} {P : mj_K → Prop} (hC : mj_cls false (mj_sh Ls) (mj_rf tp ip) mj_dv mj_cd_27 (mj_Ex false (mj_sh Ls) (mj_rf tp ip) Z d) R P) (hd : 6 ≤ d) (htp : tp = 3 ∨ tp = 17) {v1 : Int32} {v2 : Int32} {v3 : Int32} {v4 : Int32} (s64 : (Int32 × Int32 × Int32 × mj_M)) {t : Nat} {w : (Int32 × Int32 × Int32 × mj_M)} (h : bp_off_l64 tp v1 v2 v3 v4 s64 = some (t, w)) (h0 : t = 0 → P (64, [some (.ref 1), some (.int v1), some (.int v2), some (.int v3), some (.int v4), some (.int w.1), some (.int w.2.1), some (.int w.2.2.1)], [], (110, x), w.2.2.2)) (h1 : t = 1 → P (121, [none, none, none, some (.int v3), none, some (.int w.1), some (.int w.2.1), none], [], (110, x), w.2.2.2)) : P (64, [some (.ref 1), some (.int v1), some (.int v2), some (.int v3), some (.int v4), some (.int s64.1), some (.int s64.2.1), some (.int s64.2.2.1)], [], (110, x), s64.2.2.2) := by
  unfold bp_off_l64 at h
  rcases htp with rfl | rfl
  all_goals
    refine mj_gcp hC 3 ?_
    show P (mj_pick 121 70 (v2 ≤ s64.2.2.1), [some (.ref 1), some (.int v1), some (.int v2), some (.int v3), some (.int v4), some (.int s64.1), some (.int s64.2.1), some (.int s64.2.2.1)], [], (110, x), s64.2.2.2)
    refine mj_pbr (fun c8 => ?_) (fun c8 => ?_)
    · rw [if_pos c8] at h
      cases h
      exact mj_less hC (L0 := [none, none, none, some (.int v3), none, some (.int s64.1), some (.int s64.2.1), none]) (And.intro rfl (And.intro rfl (And.intro rfl trivial))) (h1 rfl)
    · rw [if_neg c8] at h
      refine mj_gcp hC 5 ?_
      show P (79, [some (.ref 1), some (.int v1), some (.int v2), some (.int v3), some (.int v4), some (.int s64.1), some (.int s64.2.1), some (.int s64.2.2.1)], [.int 1, .ref 47, .ref 37], (110, x), s64.2.2.2)
      obtain ⟨q9, eq9, h⟩ := mj_bnd h
      refine mj_pcall hC rfl (ck_pass_x (Nat.le_trans (by decide) hd) (by decide) (by decide) eq9) ?_
      show P (82, [some (.ref 1), some (.int v1), some (.int v2), some (.int v3), some (.int v4), some (.int s64.1), some (.int s64.2.1), some (.int s64.2.2.1)], [], (110, x), q9)
      refine mj_gcp hC 4 ?_
      show P (90, [some (.ref 1), some (.int v1), some (.int v2), some (.int v3), some (.int v4), some (.int s64.1), some (.int s64.2.1), some (.int s64.2.2.1)], [.int v1, .int (mj_I (q9 47 10))], (110, x), q9)
      refine mj_pcall hC rfl (bp_has_x (Nat.le_trans (by decide) hd)) ?_
      show P (93, [some (.ref 1), some (.int v1), some (.int v2), some (.int v3), some (.int v4), some (.int s64.1), some (.int s64.2.1), some (.int s64.2.2.1)], [.int (bp_has (mj_I (q9 47 10)) v1 q9)], (110, x), q9)
      refine mj_gcp hC 1 ?_
      show P (mj_pick 99 96 ((bp_has (mj_I (q9 47 10)) v1 q9) = 0), [some (.ref 1), some (.int v1), some (.int v2), some (.int v3), some (.int v4), some (.int s64.1), some (.int s64.2.1), some (.int s64.2.2.1)], [], (110, x), q9)
      refine mj_pbr (fun c10 => ?_) (fun c10 => ?_)
      · rw [if_pos c10] at h
        exact mj_less hC (L0 := [some (.ref 1), some (.int v1), some (.int v2), some (.int v3), some (.int v4), some (.int s64.1), some (.int s64.2.1), some (.int s64.2.2.1)]) (And.intro rfl (And.intro rfl (And.intro rfl (And.intro rfl (And.intro rfl (And.intro rfl (And.intro rfl (And.intro rfl trivial)))))))) (bp_off_j99l64_x hC hd (by decide) h h0 h1)
      · rw [if_neg c10] at h
        refine mj_gcp hC 1 ?_
        show P (99, [some (.ref 1), some (.int v1), some (.int v2), some (.int v3), some (.int v4), some (.int (s64.1 + 1)), some (.int s64.2.1), some (.int s64.2.2.1)], [], (110, x), q9)
        exact mj_less hC (L0 := [some (.ref 1), some (.int v1), some (.int v2), some (.int v3), some (.int v4), some (.int (s64.1 + 1)), some (.int s64.2.1), some (.int s64.2.2.1)]) (And.intro rfl (And.intro rfl (And.intro rfl (And.intro rfl (And.intro rfl (And.intro rfl (And.intro rfl (And.intro rfl trivial)))))))) (bp_off_j99l64_x hC hd (by decide) h h0 h1)
set_option maxRecDepth 20000 in
theorem bp_off_p {Ls tp ip x d : Nat} {Z : mj_X} {R : Option Value → mj_G → mj_M → Prop} {P : mj_K → Prop} (hC : mj_cls false (mj_sh Ls) (mj_rf tp ip) mj_dv mj_cd_27 (mj_Ex false (mj_sh Ls) (mj_rf tp ip) Z d) R P) (hd : 6 ≤ d) (htp : tp = 3 ∨ tp = 17) {v1 : Int32} {v2 : Int32} {v3 : Int32} {m : mj_M} {r : (Int32 × mj_M)} (h : bp_off tp v1 v2 v3 m = some r) (hR : R (some (.int r.1)) (110, x) r.2) : P (0, [some (.ref 1), some (.int v1), some (.int v2), some (.int v3), none, none, none, none], [], (110, x), m) := by
  unfold bp_off at h
  rcases htp with rfl | rfl
  all_goals
    refine mj_gcp hC 3 ?_
    show P (5, [some (.ref 1), some (.int v1), some (.int v2), some (.int v3), none, none, none, none], [.int v1, .ref _], (110, x), m)
    refine mj_pcall hC rfl (to_isMan_x (Nat.le_trans (by decide) hd) (by decide)) ?_
    show P (8, [some (.ref 1), some (.int v1), some (.int v2), some (.int v3), none, none, none, none], [.int (to_isMan _ v1 m)], (110, x), m)
    refine mj_gcp hC 1 ?_
    show P (mj_pick 32 11 ((to_isMan _ v1 m) = 0), [some (.ref 1), some (.int v1), some (.int v2), some (.int v3), none, none, none, none], [], (110, x), m)
    refine mj_pbr (fun c1 => ?_) (fun c1 => ?_)
    · rw [if_pos c1] at h
      refine mj_gcp hC 1 ?_
      show P (33, [some (.ref 1), some (.int v1), some (.int v2), some (.int v3), none, none, none, none], [.int (-1)], (110, x), m)
      cases h
      exact mj_pret hC rfl hR
    · rw [if_neg c1] at h
      refine mj_gcp hC 3 ?_
      show P (mj_pick 32 16 (v2 < 1), [some (.ref 1), some (.int v1), some (.int v2), some (.int v3), none, none, none, none], [], (110, x), m)
      refine mj_pbr (fun c2 => ?_) (fun c2 => ?_)
      · rw [if_pos c2] at h
        refine mj_gcp hC 1 ?_
        show P (33, [some (.ref 1), some (.int v1), some (.int v2), some (.int v3), none, none, none, none], [.int (-1)], (110, x), m)
        cases h
        exact mj_pret hC rfl hR
      · rw [if_neg c2] at h
        refine mj_gcp hC 3 ?_
        show P (mj_pick 32 23 (200 < v2), [some (.ref 1), some (.int v1), some (.int v2), some (.int v3), none, none, none, none], [], (110, x), m)
        refine mj_pbr (fun c3 => ?_) (fun c3 => ?_)
        · rw [if_pos c3] at h
          refine mj_gcp hC 1 ?_
          show P (33, [some (.ref 1), some (.int v1), some (.int v2), some (.int v3), none, none, none, none], [.int (-1)], (110, x), m)
          cases h
          exact mj_pret hC rfl hR
        · rw [if_neg c3] at h
          refine mj_gcp hC 2 ?_
          show P (mj_pick 32 27 (v3 < 0), [some (.ref 1), some (.int v1), some (.int v2), some (.int v3), none, none, none, none], [], (110, x), m)
          refine mj_pbr (fun c4 => ?_) (fun c4 => ?_)
          · rw [if_pos c4] at h
            refine mj_gcp hC 1 ?_
            show P (33, [some (.ref 1), some (.int v1), some (.int v2), some (.int v3), none, none, none, none], [.int (-1)], (110, x), m)
            cases h
            exact mj_pret hC rfl hR
          · rw [if_neg c4] at h
            refine mj_gcp hC 3 ?_
            show P (mj_pick 34 32 (v3 ≤ 1), [some (.ref 1), some (.int v1), some (.int v2), some (.int v3), none, none, none, none], [], (110, x), m)
            refine mj_pbr (fun c5 => ?_) (fun c5 => ?_)
            · rw [if_pos c5] at h
              refine mj_gcp hC 3 ?_
              show P (39, [some (.ref 1), some (.int v1), some (.int v2), some (.int v3), none, none, none, none], [.int v1, .ref _], (110, x), m)
              obtain ⟨q6, eq6, h⟩ := mj_bnd h
              refine mj_pcall hC rfl (to_worksOf_x (Nat.le_trans (by decide) hd) (by decide) eq6) ?_
              show P (42, [some (.ref 1), some (.int v1), some (.int v2), some (.int v3), none, none, none, none], [.int q6], (110, x), m)
              refine mj_gcp hC 9 ?_
              show P (58, [some (.ref 1), some (.int v1), some (.int v2), some (.int v3), some (.int q6), some (.int 0), some (.int 0), none], [.ref 42, .ref 47], (110, x), m)
              obtain ⟨q7, eq7, h⟩ := mj_bnd h
              refine mj_pcall hC rfl (sa_copy_x (Nat.le_trans (by decide) hd) (by decide) eq7) ?_
              show P (61, [some (.ref 1), some (.int v1), some (.int v2), some (.int v3), some (.int q6), some (.int 0), some (.int 0), none], [], (110, x), q7)
              refine mj_gcp hC 2 ?_
              show P (64, [some (.ref 1), some (.int v1), some (.int v2), some (.int v3), some (.int q6), some (.int 0), some (.int 0), some (.int 0)], [], (110, x), q7)
              obtain ⟨q12, eq12, h⟩ := mj_bnd h
              refine mj_less hC (L0 := [some (.ref 1), some (.int v1), some (.int v2), some (.int v3), some (.int q6), some (.int 0), some (.int 0), some (.int 0)]) (And.intro rfl (And.intro rfl (And.intro rfl (And.intro rfl (And.intro rfl (And.intro rfl (And.intro rfl (And.intro rfl trivial)))))))) ?_
              refine mj_loop_P (A := fun z64 => P (64, [some (.ref 1), some (.int v1), some (.int v2), some (.int v3), some (.int q6), some (.int z64.1), some (.int z64.2.1), some (.int z64.2.2.1)], [], (110, x), z64.2.2.2)) (E := fun _ z64 => P (121, [none, none, none, some (.int v3), none, some (.int z64.1), some (.int z64.2.1), none], [], (110, x), z64.2.2.2)) (fun zz t w hb h0 h1 => bp_off_l64_x hC hd (by decide) zz hb h0 (fun ht => h1 0 ht)) mj_F _ q12 eq12 ?_
              refine mj_gcp hC 2 ?_
              show P (125, [none, none, none, some (.int v3), none, some (.int q12.2.1), some (.int q12.2.2.1), none], [.int q12.2.2.1, .int q12.2.1], (110, x), q12.2.2.2.2)
              obtain ⟨q13, eq13, h⟩ := mj_bnd h
              refine mj_pcall hC rfl (bp_gcd_x (Nat.le_trans (by decide) hd) eq13) ?_
              show P (128, [none, none, none, some (.int v3), none, some (.int q12.2.1), some (.int q12.2.2.1), none], [.int q13], (110, x), q12.2.2.2.2)
              refine mj_gcp hC 3 ?_
              show P (mj_pick 140 135 (q12.2.2.1 = 0), [none, none, none, some (.int v3), none, some (.int q12.2.1), some (.int q12.2.2.1), some (.int q13)], [], (110, x), q12.2.2.2.2)
              refine mj_pbr (fun c14 => ?_) (fun c14 => ?_)
              · rw [if_pos c14] at h
                refine mj_gcp hC 1 ?_
                show P (141, [none, none, none, some (.int v3), none, some (.int q12.2.1), some (.int q12.2.2.1), some (.int q13)], [.int v3], (110, x), q12.2.2.2.2)
                cases h
                exact mj_pret hC rfl hR
              · rw [if_neg c14] at h
                refine mj_gcp hC 2 ?_
                show P (mj_pick 140 142 (q13 = 0), [none, none, none, some (.int v3), none, some (.int q12.2.1), some (.int q12.2.2.1), some (.int q13)], [], (110, x), q12.2.2.2.2)
                refine mj_pbr (fun c15 => ?_) (fun c15 => ?_)
                · rw [if_pos c15] at h
                  refine mj_gcp hC 1 ?_
                  show P (141, [none, none, none, some (.int v3), none, some (.int q12.2.1), some (.int q12.2.2.1), some (.int q13)], [.int v3], (110, x), q12.2.2.2.2)
                  cases h
                  exact mj_pret hC rfl hR
                · rw [if_neg c15] at h
                  refine mj_gcp hC 2 ?_
                  show P (mj_pick 146 154 (v3 = 0), [none, none, none, some (.int v3), none, some (.int q12.2.1), some (.int q12.2.2.1), some (.int q13)], [], (110, x), q12.2.2.2.2)
                  refine mj_pbr (fun c16 => ?_) (fun c16 => ?_)
                  · rw [if_pos c16] at h
                    obtain ⟨k17, h⟩ := mj_ifn h
                    refine mj_gcp hC 4 ?_
                    show _ ∧ (P (159, [none, none, none, some (.int v3), none, some (.int q12.2.1), some (.int q12.2.2.1), some (.int q13)], [.int (q12.2.1 / q13)], (110, x), q12.2.2.2.2))
                    refine And.intro k17 (?_)
                    cases h
                    exact mj_pret hC rfl hR
                  · rw [if_neg c16] at h
                    obtain ⟨k18, h⟩ := mj_ifn h
                    refine mj_gcp hC 3 ?_
                    show _ ∧ (P (159, [none, none, none, some (.int v3), none, some (.int q12.2.1), some (.int q12.2.2.1), some (.int q13)], [.int (q12.2.2.1 / q13)], (110, x), q12.2.2.2.2))
                    refine And.intro k18 (?_)
                    cases h
                    exact mj_pret hC rfl hR
            · rw [if_neg c5] at h
              refine mj_gcp hC 1 ?_
              show P (33, [some (.ref 1), some (.int v1), some (.int v2), some (.int v3), none, none, none, none], [.int (-1)], (110, x), m)
              cases h
              exact mj_pret hC rfl hR
set_option maxRecDepth 20000 in
theorem bp_off_x {Ls tp ip x d : Nat} {Z : mj_X} (hd : 7 ≤ d) (htp : tp = 3 ∨ tp = 17) {v1 : Int32} {v2 : Int32} {v3 : Int32} {m : mj_M} {r : (Int32 × mj_M)} (h : bp_off tp v1 v2 v3 m = some r) : mj_Ex false (mj_sh Ls) (mj_rf tp ip) Z d 27 [.ref 1, .int v1, .int v2, .int v3] (110, x) m (some (.int r.1)) (110, x) r.2 := by
  exact mj_Ex_of (cd := mj_cd_27) (L := [some (.ref 1), some (.int v1), some (.int v2), some (.int v3), none, none, none, none]) (by omega) (by decide) rfl (Nat.le_of_ble_eq_true rfl) rfl (fun P hC => bp_off_p hC (by omega) htp h ⟨rfl, rfl, rfl⟩)
def bp_firstSlip_l36 (tp : Nat) (v1 : Int32) (v2 : Int32) (s36 : (Int32 × mj_M)) : Option (Nat × (Int32 × mj_M)) :=
  (if v1 < s36.1 then some (2, (s36.1, s36.2)) else
  (ck_pass tp 47 1 s36.2).bind fun q7 =>
  (if (mj_I (q7 47 10)) = 0 then some (0, ((s36.1 + 1), q7)) else
  some (1, (s36.1, q7))))
def bp_firstSlip (tp : Nat) (v1 : Int32) (v2 : Int32) (m : mj_M) : Option (Int32 × mj_M) :=
  (if v1 < 1 then some ((-1), m) else
  (if 200 < v1 then some ((-1), m) else
  (if v2 < 0 then some ((-1), m) else
  (if v2 ≤ 1 then (sa_copy 47 42 m).bind fun q5 =>
  (mj_loop (bp_firstSlip_l36 tp v1 v2) mj_F (1, q5)).bind fun q9 =>
  (if q9.1 = 0 then (if v2 = 0 then some (q9.2.1, q9.2.2) else
  some ((ig_numberOfTrailingZeros (mj_I (q9.2.2 47 10)) q9.2.2), q9.2.2)) else some ((-2), q9.2.2)) else
  some ((-1), m)))))
set_option maxRecDepth 20000 in
theorem bp_firstSlip_l36_x {Ls tp ip x d : Nat} {Z : mj_X} {R : Option Value → mj_G → mj_M → Prop} {P : mj_K → Prop} (hC : mj_cls false (mj_sh Ls) (mj_rf tp ip) mj_dv mj_cd_38 (mj_Ex false (mj_sh Ls) (mj_rf tp ip) Z d) R P) (hd : 6 ≤ d) (htp : tp = 3 ∨ tp = 17) {v1 : Int32} {v2 : Int32} (s36 : (Int32 × mj_M)) {t : Nat} {w : (Int32 × mj_M)} (h : bp_firstSlip_l36 tp v1 v2 s36 = some (t, w)) (h0 : t = 0 → P (36, [some (.ref 1), some (.int v1), some (.int v2), some (.int w.1)], [], (110, x), w.2)) (h1 : t = 1 → P (63, [some (.ref 1), none, some (.int v2), some (.int w.1)], [], (110, x), w.2)) (h2 : t = 2 → P (88, [none, none, none, none], [], (110, x), w.2)) : P (36, [some (.ref 1), some (.int v1), some (.int v2), some (.int s36.1)], [], (110, x), s36.2) := by
  unfold bp_firstSlip_l36 at h
  rcases htp with rfl | rfl
  all_goals
    refine mj_gcp hC 3 ?_
    show P (mj_pick 88 41 (v1 < s36.1), [some (.ref 1), some (.int v1), some (.int v2), some (.int s36.1)], [], (110, x), s36.2)
    refine mj_pbr (fun c6 => ?_) (fun c6 => ?_)
    · rw [if_pos c6] at h
      cases h
      exact mj_less hC (L0 := [none, none, none, none]) trivial (h2 rfl)
    · rw [if_neg c6] at h
      refine mj_gcp hC 5 ?_
      show P (50, [some (.ref 1), some (.int v1), some (.int v2), some (.int s36.1)], [.int 1, .ref 47, .ref 37], (110, x), s36.2)
      obtain ⟨q7, eq7, h⟩ := mj_bnd h
      refine mj_pcall hC rfl (ck_pass_x (Nat.le_trans (by decide) hd) (by decide) (by decide) eq7) ?_
      show P (53, [some (.ref 1), some (.int v1), some (.int v2), some (.int s36.1)], [], (110, x), q7)
      refine mj_gcp hC 4 ?_
      show P (mj_pick 82 63 ((mj_I (q7 47 10)) = 0), [some (.ref 1), some (.int v1), some (.int v2), some (.int s36.1)], [], (110, x), q7)
      refine mj_pbr (fun c8 => ?_) (fun c8 => ?_)
      · rw [if_pos c8] at h
        refine mj_gcp hC 2 ?_
        show P (36, [some (.ref 1), some (.int v1), some (.int v2), some (.int (s36.1 + 1))], [], (110, x), q7)
        cases h
        exact mj_less hC (L0 := [some (.ref 1), some (.int v1), some (.int v2), some (.int (s36.1 + 1))]) (And.intro rfl (And.intro rfl (And.intro rfl (And.intro rfl trivial)))) (h0 rfl)
      · rw [if_neg c8] at h
        cases h
        exact mj_less hC (L0 := [some (.ref 1), none, some (.int v2), some (.int s36.1)]) (And.intro rfl (And.intro rfl (And.intro rfl trivial))) (h1 rfl)
set_option maxRecDepth 20000 in
theorem bp_firstSlip_p {Ls tp ip x d : Nat} {Z : mj_X} {R : Option Value → mj_G → mj_M → Prop} {P : mj_K → Prop} (hC : mj_cls false (mj_sh Ls) (mj_rf tp ip) mj_dv mj_cd_38 (mj_Ex false (mj_sh Ls) (mj_rf tp ip) Z d) R P) (hd : 6 ≤ d) (htp : tp = 3 ∨ tp = 17) {v1 : Int32} {v2 : Int32} {m : mj_M} {r : (Int32 × mj_M)} (h : bp_firstSlip tp v1 v2 m = some r) (hR : R (some (.int r.1)) (110, x) r.2) : P (0, [some (.ref 1), some (.int v1), some (.int v2), none], [], (110, x), m) := by
  unfold bp_firstSlip at h
  rcases htp with rfl | rfl
  all_goals
    refine mj_gcp hC 3 ?_
    show P (mj_pick 21 5 (v1 < 1), [some (.ref 1), some (.int v1), some (.int v2), none], [], (110, x), m)
    refine mj_pbr (fun c1 => ?_) (fun c1 => ?_)
    · rw [if_pos c1] at h
      refine mj_gcp hC 1 ?_
      show P (22, [some (.ref 1), some (.int v1), some (.int v2), none], [.int (-1)], (110, x), m)
      cases h
      exact mj_pret hC rfl hR
    · rw [if_neg c1] at h
      refine mj_gcp hC 3 ?_
      show P (mj_pick 21 12 (200 < v1), [some (.ref 1), some (.int v1), some (.int v2), none], [], (110, x), m)
      refine mj_pbr (fun c2 => ?_) (fun c2 => ?_)
      · rw [if_pos c2] at h
        refine mj_gcp hC 1 ?_
        show P (22, [some (.ref 1), some (.int v1), some (.int v2), none], [.int (-1)], (110, x), m)
        cases h
        exact mj_pret hC rfl hR
      · rw [if_neg c2] at h
        refine mj_gcp hC 2 ?_
        show P (mj_pick 21 16 (v2 < 0), [some (.ref 1), some (.int v1), some (.int v2), none], [], (110, x), m)
        refine mj_pbr (fun c3 => ?_) (fun c3 => ?_)
        · rw [if_pos c3] at h
          refine mj_gcp hC 1 ?_
          show P (22, [some (.ref 1), some (.int v1), some (.int v2), none], [.int (-1)], (110, x), m)
          cases h
          exact mj_pret hC rfl hR
        · rw [if_neg c3] at h
          refine mj_gcp hC 3 ?_
          show P (mj_pick 23 21 (v2 ≤ 1), [some (.ref 1), some (.int v1), some (.int v2), none], [], (110, x), m)
          refine mj_pbr (fun c4 => ?_) (fun c4 => ?_)
          · rw [if_pos c4] at h
            refine mj_gcp hC 4 ?_
            show P (31, [some (.ref 1), some (.int v1), some (.int v2), none], [.ref 42, .ref 47], (110, x), m)
            obtain ⟨q5, eq5, h⟩ := mj_bnd h
            refine mj_pcall hC rfl (sa_copy_x (Nat.le_trans (by decide) hd) (by decide) eq5) ?_
            show P (34, [some (.ref 1), some (.int v1), some (.int v2), none], [], (110, x), q5)
            refine mj_gcp hC 2 ?_
            show P (36, [some (.ref 1), some (.int v1), some (.int v2), some (.int 1)], [], (110, x), q5)
            obtain ⟨q9, eq9, h⟩ := mj_bnd h
            refine mj_less hC (L0 := [some (.ref 1), some (.int v1), some (.int v2), some (.int 1)]) (And.intro rfl (And.intro rfl (And.intro rfl (And.intro rfl trivial)))) ?_
            refine mj_loop_P (A := fun z36 => P (36, [some (.ref 1), some (.int v1), some (.int v2), some (.int z36.1)], [], (110, x), z36.2)) (E := fun j z36 => (j = 0 → P (63, [some (.ref 1), none, some (.int v2), some (.int z36.1)], [], (110, x), z36.2)) ∧ (¬ j = 0 → P (88, [none, none, none, none], [], (110, x), z36.2))) (fun zz t w hb h0 h1 => bp_firstSlip_l36_x hC hd (by decide) zz hb h0 (fun ht => (h1 0 ht).1 rfl) (fun ht => (h1 1 ht).2 (by decide))) mj_F _ q9 eq9 ⟨fun hj => ?_, fun hj => ?_⟩
            · rw [if_pos hj] at h
              refine mj_gcp hC 2 ?_
              show P (mj_pick 67 71 (v2 = 0), [some (.ref 1), none, some (.int v2), some (.int q9.2.1)], [], (110, x), q9.2.2)
              refine mj_pbr (fun c10 => ?_) (fun c10 => ?_)
              · rw [if_pos c10] at h
                refine mj_gcp hC 2 ?_
                show P (81, [some (.ref 1), none, some (.int v2), some (.int q9.2.1)], [.int q9.2.1], (110, x), q9.2.2)
                cases h
                exact mj_pret hC rfl hR
              · rw [if_neg c10] at h
                refine mj_gcp hC 3 ?_
                show P (78, [some (.ref 1), none, some (.int v2), some (.int q9.2.1)], [.int (mj_I (q9.2.2 47 10))], (110, x), q9.2.2)
                refine mj_pcall hC rfl (ig_numberOfTrailingZeros_x (Nat.le_trans (by decide) hd)) ?_
                show P (81, [some (.ref 1), none, some (.int v2), some (.int q9.2.1)], [.int (ig_numberOfTrailingZeros (mj_I (q9.2.2 47 10)) q9.2.2)], (110, x), q9.2.2)
                cases h
                exact mj_pret hC rfl hR
            · rw [if_neg hj] at h
              refine mj_gcp hC 1 ?_
              show P (90, [none, none, none, none], [.int (-2)], (110, x), q9.2.2)
              cases h
              exact mj_pret hC rfl hR
          · rw [if_neg c4] at h
            refine mj_gcp hC 1 ?_
            show P (22, [some (.ref 1), some (.int v1), some (.int v2), none], [.int (-1)], (110, x), m)
            cases h
            exact mj_pret hC rfl hR
set_option maxRecDepth 20000 in
theorem bp_firstSlip_x {Ls tp ip x d : Nat} {Z : mj_X} (hd : 7 ≤ d) (htp : tp = 3 ∨ tp = 17) {v1 : Int32} {v2 : Int32} {m : mj_M} {r : (Int32 × mj_M)} (h : bp_firstSlip tp v1 v2 m = some r) : mj_Ex false (mj_sh Ls) (mj_rf tp ip) Z d 38 [.ref 1, .int v1, .int v2] (110, x) m (some (.int r.1)) (110, x) r.2 := by
  exact mj_Ex_of (cd := mj_cd_38) (L := [some (.ref 1), some (.int v1), some (.int v2), none]) (by omega) (by decide) rfl (Nat.le_of_ble_eq_true rfl) rfl (fun P hC => bp_firstSlip_p hC (by omega) htp h ⟨rfl, rfl, rfl⟩)
def bp_startBy_j100l61 (tp : Nat)  (v1 : Int32) (v2 : Int32) (v3 : Int32) (v4 : Int32) (s1 : Int32) (s2 : Int32) (m : mj_M) : Option (Nat × (Int32 × mj_M)) :=
  (ck_pass tp 47 1 (fx_put m 67 s1 s2)).bind fun q8 =>
  some (0, ((v4 + 1), q8))
def bp_startBy_l61 (tp : Nat) (v1 : Int32) (v2 : Int32) (v3 : Int32) (s61 : (Int32 × mj_M)) : Option (Nat × (Int32 × mj_M)) :=
  (if v2 ≤ s61.1 then some (1, (s61.1, s61.2)) else
  (if (sa_isFree 47 v3 s61.2) = 0 then bp_startBy_j100l61 tp v1 v2 v3 s61.1 s61.1 0 s61.2 else
  (ck_beatOf tp 47 1 s61.2).bind fun q9 =>
  bp_startBy_j100l61 tp v1 v2 v3 s61.1 s61.1 q9.1 q9.2))
def bp_startBy_l139 (tp : Nat)  (s139 : (Int32 × Int32 × mj_M)) : Option (Nat × (Int32 × Int32 × mj_M)) :=
  (if s139.2.1 < 0 then some (2, (s139.1, s139.2.1, s139.2.2)) else
  (if 0 < (s139.1 - (fx_at s139.2.2 67 s139.2.1)) then some (0, ((s139.1 - (fx_at s139.2.2 67 s139.2.1)), (s139.2.1 + (-1)), s139.2.2)) else
  some (1, ((s139.1 - (fx_at s139.2.2 67 s139.2.1)), s139.2.1, s139.2.2))))
def bp_startBy (tp : Nat) (v1 : Int32) (v2 : Int32) (m : mj_M) : Option (Int32 × mj_M) :=
  (if (to_isWork tp v1 m) = 0 then some ((-1), m) else
  (if (sa_isDone 42 v1 m) = 0 then (if v2 < 1 then some ((-1), m) else
  (if v2 ≤ 99 then (sa_copy 47 42 m).bind fun q5 =>
  (mj_loop (bp_startBy_l61 tp v1 v2 (fx_at m (tp + 6) v1)) mj_F (0, q5)).bind fun q10 =>
  (mj_loop (bp_startBy_l139 tp) mj_F ((fx_at q10.2.2 45 v1), (v2 - 1), q10.2.2)).bind fun q13 =>
  (if q13.1 = 0 then some (q13.2.2.1, q13.2.2.2) else some ((-2), q13.2.2.2)) else
  some ((-1), m))) else
  some ((-1), m)))
set_option maxRecDepth 20000 in
theorem bp_startBy_j100l61_x {Ls tp ip x d : Nat} {Z : mj_X} {R : Option Value → mj_G → mj_M → Prop} {P : mj_K → Prop} (hC : mj_cls false (mj_sh Ls) (mj_rf tp ip) mj_dv mj_cd_40 (mj_Ex false (mj_sh Ls) (mj_rf tp ip) Z d) R P) (hd : 6 ≤ d) (htp : tp = 3 ∨ tp = 17)  {v1 : Int32} {v2 : Int32} {v3 : Int32} {v4 : Int32} {s1 : Int32} {s2 : Int32} {m : mj_M} {t : Nat} {w : (Int32 × mj_M)} (h : bp_startBy_j100l61 tp  v1 v2 v3 v4 s1 s2 m = some (t, w)) (h0 : t = 0 → P (61, [some (.ref 1), some (.int v1), some (.int v2), some (.int v3), some (.int w.1), none], [], (110, x), w.2)) (h1 : t = 1 → P (121, [some (.ref 1), some (.int v1), some (.int v2), none, none, none], [], (110, x), w.2)) : P (100, [some (.ref 1), some (.int v1), some (.int v2), some (.int v3), some (.int v4), none], [.int s2, .int s1, .ref 67], (110, x), m) := by
  unfold bp_startBy_j100l61 at h
  rcases htp with rfl | rfl
  all_goals
    refine mj_pcall hC rfl (bp_put_x (Nat.le_trans (by decide) hd) (by decide)) ?_
    show P (103, [some (.ref 1), some (.int v1), some (.int v2), some (.int v3), some (.int v4), none], [], (110, x), (fx_put m 67 s1 s2))
    refine mj_gcp hC 5 ?_
    show P (112, [some (.ref 1), some (.int v1), some (.int v2), some (.int v3), some (.int v4), none], [.int 1, .ref 47, .ref 37], (110, x), (fx_put m 67 s1 s2))
    obtain ⟨q8, eq8, h⟩ := mj_bnd h
    refine mj_pcall hC rfl (ck_pass_x (Nat.le_trans (by decide) hd) (by decide) (by decide) eq8) ?_
    show P (115, [some (.ref 1), some (.int v1), some (.int v2), some (.int v3), some (.int v4), none], [], (110, x), q8)
    refine mj_gcp hC 2 ?_
    show P (61, [some (.ref 1), some (.int v1), some (.int v2), some (.int v3), some (.int (v4 + 1)), none], [], (110, x), q8)
    cases h
    exact mj_less hC (L0 := [some (.ref 1), some (.int v1), some (.int v2), some (.int v3), some (.int (v4 + 1)), none]) (And.intro rfl (And.intro rfl (And.intro rfl (And.intro rfl (And.intro rfl trivial))))) (h0 rfl)
set_option maxRecDepth 20000 in
theorem bp_startBy_l61_x {Ls tp ip x d : Nat} {Z : mj_X} {R : Option Value → mj_G → mj_M → Prop} {P : mj_K → Prop} (hC : mj_cls false (mj_sh Ls) (mj_rf tp ip) mj_dv mj_cd_40 (mj_Ex false (mj_sh Ls) (mj_rf tp ip) Z d) R P) (hd : 6 ≤ d) (htp : tp = 3 ∨ tp = 17) {v1 : Int32} {v2 : Int32} {v3 : Int32} (s61 : (Int32 × mj_M)) {t : Nat} {w : (Int32 × mj_M)} (h : bp_startBy_l61 tp v1 v2 v3 s61 = some (t, w)) (h0 : t = 0 → P (61, [some (.ref 1), some (.int v1), some (.int v2), some (.int v3), some (.int w.1), none], [], (110, x), w.2)) (h1 : t = 1 → P (121, [some (.ref 1), some (.int v1), some (.int v2), none, none, none], [], (110, x), w.2)) : P (61, [some (.ref 1), some (.int v1), some (.int v2), some (.int v3), some (.int s61.1), none], [], (110, x), s61.2) := by
  unfold bp_startBy_l61 at h
  rcases htp with rfl | rfl
  all_goals
    refine mj_gcp hC 3 ?_
    show P (mj_pick 121 67 (v2 ≤ s61.1), [some (.ref 1), some (.int v1), some (.int v2), some (.int v3), some (.int s61.1), none], [], (110, x), s61.2)
    refine mj_pbr (fun c6 => ?_) (fun c6 => ?_)
    · rw [if_pos c6] at h
      cases h
      exact mj_less hC (L0 := [some (.ref 1), some (.int v1), some (.int v2), none, none, none]) (And.intro rfl (And.intro rfl (And.intro rfl trivial))) (h1 rfl)
    · rw [if_neg c6] at h
      refine mj_gcp hC 6 ?_
      show P (78, [some (.ref 1), some (.int v1), some (.int v2), some (.int v3), some (.int s61.1), none], [.int v3, .ref 47, .int s61.1, .ref 67], (110, x), s61.2)
      refine mj_pcall hC rfl (sa_isFree_x (Nat.le_trans (by decide) hd) (by decide)) ?_
      show P (81, [some (.ref 1), some (.int v1), some (.int v2), some (.int v3), some (.int s61.1), none], [.int (sa_isFree 47 v3 s61.2), .int s61.1, .ref 67], (110, x), s61.2)
      refine mj_gcp hC 1 ?_
      show P (mj_pick 99 84 ((sa_isFree 47 v3 s61.2) = 0), [some (.ref 1), some (.int v1), some (.int v2), some (.int v3), some (.int s61.1), none], [.int s61.1, .ref 67], (110, x), s61.2)
      refine mj_pbr (fun c7 => ?_) (fun c7 => ?_)
      · rw [if_pos c7] at h
        refine mj_gcp hC 1 ?_
        show P (100, [some (.ref 1), some (.int v1), some (.int v2), some (.int v3), some (.int s61.1), none], [.int 0, .int s61.1, .ref 67], (110, x), s61.2)
        exact mj_less hC (L0 := [some (.ref 1), some (.int v1), some (.int v2), some (.int v3), some (.int s61.1), none]) (And.intro rfl (And.intro rfl (And.intro rfl (And.intro rfl (And.intro rfl trivial))))) (bp_startBy_j100l61_x hC hd (by decide) h h0 h1)
      · rw [if_neg c7] at h
        refine mj_gcp hC 5 ?_
        show P (93, [some (.ref 1), some (.int v1), some (.int v2), some (.int v3), some (.int s61.1), none], [.int 1, .ref 47, .ref 37, .int s61.1, .ref 67], (110, x), s61.2)
        obtain ⟨q9, eq9, h⟩ := mj_bnd h
        refine mj_pcall hC rfl (ck_beatOf_x (Nat.le_trans (by decide) hd) (by decide) (by decide) eq9) ?_
        show P (96, [some (.ref 1), some (.int v1), some (.int v2), some (.int v3), some (.int s61.1), none], [.int q9.1, .int s61.1, .ref 67], (110, x), q9.2)
        refine mj_gcp hC 1 ?_
        show P (100, [some (.ref 1), some (.int v1), some (.int v2), some (.int v3), some (.int s61.1), none], [.int q9.1, .int s61.1, .ref 67], (110, x), q9.2)
        exact mj_less hC (L0 := [some (.ref 1), some (.int v1), some (.int v2), some (.int v3), some (.int s61.1), none]) (And.intro rfl (And.intro rfl (And.intro rfl (And.intro rfl (And.intro rfl trivial))))) (bp_startBy_j100l61_x hC hd (by decide) h h0 h1)
set_option maxRecDepth 20000 in
theorem bp_startBy_l139_x {Ls tp ip x d : Nat} {Z : mj_X} {R : Option Value → mj_G → mj_M → Prop} {P : mj_K → Prop} (hC : mj_cls false (mj_sh Ls) (mj_rf tp ip) mj_dv mj_cd_40 (mj_Ex false (mj_sh Ls) (mj_rf tp ip) Z d) R P) (hd : 6 ≤ d) (htp : tp = 3 ∨ tp = 17)  (s139 : (Int32 × Int32 × mj_M)) {t : Nat} {w : (Int32 × Int32 × mj_M)} (h : bp_startBy_l139 tp s139 = some (t, w)) (h0 : t = 0 → P (139, [some (.ref 1), none, none, none, some (.int w.1), some (.int w.2.1)], [], (110, x), w.2.2)) (h1 : t = 1 → P (163, [none, none, none, none, none, some (.int w.2.1)], [], (110, x), w.2.2)) (h2 : t = 2 → P (172, [none, none, none, none, none, none], [], (110, x), w.2.2)) : P (139, [some (.ref 1), none, none, none, some (.int s139.1), some (.int s139.2.1)], [], (110, x), s139.2.2) := by
  unfold bp_startBy_l139 at h
  rcases htp with rfl | rfl
  all_goals
    refine mj_gcp hC 2 ?_
    show P (mj_pick 172 144 (s139.2.1 < 0), [some (.ref 1), none, none, none, some (.int s139.1), some (.int s139.2.1)], [], (110, x), s139.2.2)
    refine mj_pbr (fun c11 => ?_) (fun c11 => ?_)
    · rw [if_pos c11] at h
      cases h
      exact mj_less hC (L0 := [none, none, none, none, none, none]) trivial (h2 rfl)
    · rw [if_neg c11] at h
      refine mj_gcp hC 4 ?_
      show P (152, [some (.ref 1), none, none, none, some (.int s139.1), some (.int s139.2.1)], [.int s139.2.1, .ref 67, .int s139.1], (110, x), s139.2.2)
      refine mj_pcall hC rfl (bp_at_x (Nat.le_trans (by decide) hd) (by decide)) ?_
      show P (155, [some (.ref 1), none, none, none, some (.int s139.1), some (.int s139.2.1)], [.int (fx_at s139.2.2 67 s139.2.1), .int s139.1], (110, x), s139.2.2)
      refine mj_gcp hC 4 ?_
      show P (mj_pick 166 163 (0 < (s139.1 - (fx_at s139.2.2 67 s139.2.1))), [some (.ref 1), none, none, none, some (.int (s139.1 - (fx_at s139.2.2 67 s139.2.1))), some (.int s139.2.1)], [], (110, x), s139.2.2)
      refine mj_pbr (fun c12 => ?_) (fun c12 => ?_)
      · rw [if_pos c12] at h
        refine mj_gcp hC 2 ?_
        show P (139, [some (.ref 1), none, none, none, some (.int (s139.1 - (fx_at s139.2.2 67 s139.2.1))), some (.int (s139.2.1 + (-1)))], [], (110, x), s139.2.2)
        cases h
        exact mj_less hC (L0 := [some (.ref 1), none, none, none, some (.int (s139.1 - (fx_at s139.2.2 67 s139.2.1))), some (.int (s139.2.1 + (-1)))]) (And.intro rfl (And.intro rfl (And.intro rfl trivial))) (h0 rfl)
      · rw [if_neg c12] at h
        cases h
        exact mj_less hC (L0 := [none, none, none, none, none, some (.int s139.2.1)]) (And.intro rfl trivial) (h1 rfl)
set_option maxRecDepth 20000 in
theorem bp_startBy_p {Ls tp ip x d : Nat} {Z : mj_X} {R : Option Value → mj_G → mj_M → Prop} {P : mj_K → Prop} (hC : mj_cls false (mj_sh Ls) (mj_rf tp ip) mj_dv mj_cd_40 (mj_Ex false (mj_sh Ls) (mj_rf tp ip) Z d) R P) (hd : 6 ≤ d) (htp : tp = 3 ∨ tp = 17) {v1 : Int32} {v2 : Int32} {m : mj_M} {r : (Int32 × mj_M)} (h : bp_startBy tp v1 v2 m = some r) (hR : R (some (.int r.1)) (110, x) r.2) : P (0, [some (.ref 1), some (.int v1), some (.int v2), none, none, none], [], (110, x), m) := by
  unfold bp_startBy at h
  rcases htp with rfl | rfl
  all_goals
    refine mj_gcp hC 3 ?_
    show P (5, [some (.ref 1), some (.int v1), some (.int v2), none, none, none], [.int v1, .ref _], (110, x), m)
    refine mj_pcall hC rfl (to_isWork_x (Nat.le_trans (by decide) hd) (by decide)) ?_
    show P (8, [some (.ref 1), some (.int v1), some (.int v2), none, none, none], [.int (to_isWork _ v1 m)], (110, x), m)
    refine mj_gcp hC 1 ?_
    show P (mj_pick 33 11 ((to_isWork _ v1 m) = 0), [some (.ref 1), some (.int v1), some (.int v2), none, none, none], [], (110, x), m)
    refine mj_pbr (fun c1 => ?_) (fun c1 => ?_)
    · rw [if_pos c1] at h
      refine mj_gcp hC 1 ?_
      show P (34, [some (.ref 1), some (.int v1), some (.int v2), none, none, none], [.int (-1)], (110, x), m)
      cases h
      exact mj_pret hC rfl hR
    · rw [if_neg c1] at h
      refine mj_gcp hC 3 ?_
      show P (16, [some (.ref 1), some (.int v1), some (.int v2), none, none, none], [.int v1, .ref 42], (110, x), m)
      refine mj_pcall hC rfl (sa_isDone_x (Nat.le_trans (by decide) hd) (by decide)) ?_
      show P (19, [some (.ref 1), some (.int v1), some (.int v2), none, none, none], [.int (sa_isDone 42 v1 m)], (110, x), m)
      refine mj_gcp hC 1 ?_
      show P (mj_pick 22 33 ((sa_isDone 42 v1 m) = 0), [some (.ref 1), some (.int v1), some (.int v2), none, none, none], [], (110, x), m)
      refine mj_pbr (fun c2 => ?_) (fun c2 => ?_)
      · rw [if_pos c2] at h
        refine mj_gcp hC 3 ?_
        show P (mj_pick 33 27 (v2 < 1), [some (.ref 1), some (.int v1), some (.int v2), none, none, none], [], (110, x), m)
        refine mj_pbr (fun c3 => ?_) (fun c3 => ?_)
        · rw [if_pos c3] at h
          refine mj_gcp hC 1 ?_
          show P (34, [some (.ref 1), some (.int v1), some (.int v2), none, none, none], [.int (-1)], (110, x), m)
          cases h
          exact mj_pret hC rfl hR
        · rw [if_neg c3] at h
          refine mj_gcp hC 3 ?_
          show P (mj_pick 35 33 (v2 ≤ 99), [some (.ref 1), some (.int v1), some (.int v2), none, none, none], [], (110, x), m)
          refine mj_pbr (fun c4 => ?_) (fun c4 => ?_)
          · rw [if_pos c4] at h
            refine mj_gcp hC 4 ?_
            show P (43, [some (.ref 1), some (.int v1), some (.int v2), none, none, none], [.int v1, .ref _], (110, x), m)
            refine mj_pcall hC rfl (bp_at_x (Nat.le_trans (by decide) hd) (by decide)) ?_
            show P (46, [some (.ref 1), some (.int v1), some (.int v2), none, none, none], [.int (fx_at m _ v1)], (110, x), m)
            refine mj_gcp hC 5 ?_
            show P (55, [some (.ref 1), some (.int v1), some (.int v2), some (.int (fx_at m _ v1)), none, none], [.ref 42, .ref 47], (110, x), m)
            obtain ⟨q5, eq5, h⟩ := mj_bnd h
            refine mj_pcall hC rfl (sa_copy_x (Nat.le_trans (by decide) hd) (by decide) eq5) ?_
            show P (58, [some (.ref 1), some (.int v1), some (.int v2), some (.int (fx_at m _ v1)), none, none], [], (110, x), q5)
            refine mj_gcp hC 2 ?_
            show P (61, [some (.ref 1), some (.int v1), some (.int v2), some (.int (fx_at m _ v1)), some (.int 0), none], [], (110, x), q5)
            obtain ⟨q10, eq10, h⟩ := mj_bnd h
            refine mj_less hC (L0 := [some (.ref 1), some (.int v1), some (.int v2), some (.int (fx_at m _ v1)), some (.int 0), none]) (And.intro rfl (And.intro rfl (And.intro rfl (And.intro rfl (And.intro rfl trivial))))) ?_
            refine mj_loop_P (A := fun z61 => P (61, [some (.ref 1), some (.int v1), some (.int v2), some (.int (fx_at m _ v1)), some (.int z61.1), none], [], (110, x), z61.2)) (E := fun _ z61 => P (121, [some (.ref 1), some (.int v1), some (.int v2), none, none, none], [], (110, x), z61.2)) (fun zz t w hb h0 h1 => bp_startBy_l61_x hC hd (by decide) zz hb h0 (fun ht => h1 0 ht)) mj_F _ q10 eq10 ?_
            refine mj_gcp hC 4 ?_
            show P (129, [some (.ref 1), some (.int v1), some (.int v2), none, none, none], [.int v1, .ref 45], (110, x), q10.2.2)
            refine mj_pcall hC rfl (bp_at_x (Nat.le_trans (by decide) hd) (by decide)) ?_
            show P (132, [some (.ref 1), some (.int v1), some (.int v2), none, none, none], [.int (fx_at q10.2.2 45 v1)], (110, x), q10.2.2)
            refine mj_gcp hC 5 ?_
            show P (139, [some (.ref 1), some (.int v1), some (.int v2), none, some (.int (fx_at q10.2.2 45 v1)), some (.int (v2 - 1))], [], (110, x), q10.2.2)
            obtain ⟨q13, eq13, h⟩ := mj_bnd h
            refine mj_less hC (L0 := [some (.ref 1), none, none, none, some (.int (fx_at q10.2.2 45 v1)), some (.int (v2 - 1))]) (And.intro rfl (And.intro rfl (And.intro rfl trivial))) ?_
            refine mj_loop_P (A := fun z139 => P (139, [some (.ref 1), none, none, none, some (.int z139.1), some (.int z139.2.1)], [], (110, x), z139.2.2)) (E := fun j z139 => (j = 0 → P (163, [none, none, none, none, none, some (.int z139.2.1)], [], (110, x), z139.2.2)) ∧ (¬ j = 0 → P (172, [none, none, none, none, none, none], [], (110, x), z139.2.2))) (fun zz t w hb h0 h1 => bp_startBy_l139_x hC hd (by decide) zz hb h0 (fun ht => (h1 0 ht).1 rfl) (fun ht => (h1 1 ht).2 (by decide))) mj_F _ q13 eq13 ⟨fun hj => ?_, fun hj => ?_⟩
            · rw [if_pos hj] at h
              refine mj_gcp hC 1 ?_
              show P (165, [none, none, none, none, none, some (.int q13.2.2.1)], [.int q13.2.2.1], (110, x), q13.2.2.2)
              cases h
              exact mj_pret hC rfl hR
            · rw [if_neg hj] at h
              refine mj_gcp hC 1 ?_
              show P (174, [none, none, none, none, none, none], [.int (-2)], (110, x), q13.2.2.2)
              cases h
              exact mj_pret hC rfl hR
          · rw [if_neg c4] at h
            refine mj_gcp hC 1 ?_
            show P (34, [some (.ref 1), some (.int v1), some (.int v2), none, none, none], [.int (-1)], (110, x), m)
            cases h
            exact mj_pret hC rfl hR
      · rw [if_neg c2] at h
        refine mj_gcp hC 1 ?_
        show P (34, [some (.ref 1), some (.int v1), some (.int v2), none, none, none], [.int (-1)], (110, x), m)
        cases h
        exact mj_pret hC rfl hR
set_option maxRecDepth 20000 in
theorem bp_startBy_x {Ls tp ip x d : Nat} {Z : mj_X} (hd : 7 ≤ d) (htp : tp = 3 ∨ tp = 17) {v1 : Int32} {v2 : Int32} {m : mj_M} {r : (Int32 × mj_M)} (h : bp_startBy tp v1 v2 m = some r) : mj_Ex false (mj_sh Ls) (mj_rf tp ip) Z d 40 [.ref 1, .int v1, .int v2] (110, x) m (some (.int r.1)) (110, x) r.2 := by
  exact mj_Ex_of (cd := mj_cd_40) (L := [some (.ref 1), some (.int v1), some (.int v2), none, none, none]) (by omega) (by decide) rfl (Nat.le_of_ble_eq_true rfl) rfl (fun P hC => bp_startBy_p hC (by omega) htp h ⟨rfl, rfl, rfl⟩)
def bp_isShiftedBy_l22 (tp : Nat) (v2 : Int32) (v3 : Int32) (s22 : (Int32 × mj_M)) : Option (Nat × (Int32 × mj_M)) :=
  (if v3 < s22.1 then some (2, (s22.1, s22.2)) else
  (ck_pass tp 47 1 s22.2).bind fun q3 =>
  (si_fit 47 v2 q3).bind fun q4 =>
  (if q4 = 0 then some (1, (s22.1, q3)) else
  some (0, ((s22.1 + 1), q3))))
def bp_isShiftedBy (tp : Nat) (v1 : Int32) (v2 : Int32) (v3 : Int32) (m : mj_M) : Option (Int32 × mj_M) :=
  (sa_begin tp 47 m).bind fun q1 =>
  (mj_loop (bp_isShiftedBy_l22 tp v2 v3) mj_F (1, (mj_up q1 47 2 (.int v1)))).bind fun q6 =>
  (if q6.1 = 0 then some (0, q6.2.2) else some (1, q6.2.2))
set_option maxRecDepth 20000 in
theorem bp_isShiftedBy_l22_x {Ls tp ip x d : Nat} {Z : mj_X} {R : Option Value → mj_G → mj_M → Prop} {P : mj_K → Prop} (hC : mj_cls false (mj_sh Ls) (mj_rf tp ip) mj_dv mj_cd_46 (mj_Ex false (mj_sh Ls) (mj_rf tp ip) Z d) R P) (hd : 6 ≤ d) (htp : tp = 3 ∨ tp = 17) {v2 : Int32} {v3 : Int32} (s22 : (Int32 × mj_M)) {t : Nat} {w : (Int32 × mj_M)} (h : bp_isShiftedBy_l22 tp v2 v3 s22 = some (t, w)) (h0 : t = 0 → P (22, [some (.ref 1), none, some (.int v2), some (.int v3), some (.int w.1)], [], (110, x), w.2)) (h1 : t = 1 → P (55, [none, none, none, none, none], [], (110, x), w.2)) (h2 : t = 2 → P (63, [none, none, none, none, none], [], (110, x), w.2)) : P (22, [some (.ref 1), none, some (.int v2), some (.int v3), some (.int s22.1)], [], (110, x), s22.2) := by
  unfold bp_isShiftedBy_l22 at h
  rcases htp with rfl | rfl
  all_goals
    refine mj_gcp hC 3 ?_
    show P (mj_pick 63 28 (v3 < s22.1), [some (.ref 1), none, some (.int v2), some (.int v3), some (.int s22.1)], [], (110, x), s22.2)
    refine mj_pbr (fun c2 => ?_) (fun c2 => ?_)
    · rw [if_pos c2] at h
      cases h
      exact mj_less hC (L0 := [none, none, none, none, none]) trivial (h2 rfl)
    · rw [if_neg c2] at h
      refine mj_gcp hC 5 ?_
      show P (37, [some (.ref 1), none, some (.int v2), some (.int v3), some (.int s22.1)], [.int 1, .ref 47, .ref 37], (110, x), s22.2)
      obtain ⟨q3, eq3, h⟩ := mj_bnd h
      refine mj_pcall hC rfl (ck_pass_x (Nat.le_trans (by decide) hd) (by decide) (by decide) eq3) ?_
      show P (40, [some (.ref 1), none, some (.int v2), some (.int v3), some (.int s22.1)], [], (110, x), q3)
      refine mj_gcp hC 5 ?_
      show P (49, [some (.ref 1), none, some (.int v2), some (.int v3), some (.int s22.1)], [.int v2, .ref 47, .ref 61], (110, x), q3)
      obtain ⟨q4, eq4, h⟩ := mj_bnd h
      refine mj_pcall hC rfl (si_fit_x (Nat.le_trans (by decide) hd) (by decide) eq4) ?_
      show P (52, [some (.ref 1), none, some (.int v2), some (.int v3), some (.int s22.1)], [.int q4], (110, x), q3)
      refine mj_gcp hC 1 ?_
      show P (mj_pick 55 57 (q4 = 0), [some (.ref 1), none, some (.int v2), some (.int v3), some (.int s22.1)], [], (110, x), q3)
      refine mj_pbr (fun c5 => ?_) (fun c5 => ?_)
      · rw [if_pos c5] at h
        cases h
        exact mj_less hC (L0 := [none, none, none, none, none]) trivial (h1 rfl)
      · rw [if_neg c5] at h
        refine mj_gcp hC 2 ?_
        show P (22, [some (.ref 1), none, some (.int v2), some (.int v3), some (.int (s22.1 + 1))], [], (110, x), q3)
        cases h
        exact mj_less hC (L0 := [some (.ref 1), none, some (.int v2), some (.int v3), some (.int (s22.1 + 1))]) (And.intro rfl (And.intro rfl (And.intro rfl (And.intro rfl trivial)))) (h0 rfl)
set_option maxRecDepth 20000 in
theorem bp_isShiftedBy_p {Ls tp ip x d : Nat} {Z : mj_X} {R : Option Value → mj_G → mj_M → Prop} {P : mj_K → Prop} (hC : mj_cls false (mj_sh Ls) (mj_rf tp ip) mj_dv mj_cd_46 (mj_Ex false (mj_sh Ls) (mj_rf tp ip) Z d) R P) (hd : 6 ≤ d) (htp : tp = 3 ∨ tp = 17) {v1 : Int32} {v2 : Int32} {v3 : Int32} {m : mj_M} {r : (Int32 × mj_M)} (h : bp_isShiftedBy tp v1 v2 v3 m = some r) (hR : R (some (.int r.1)) (110, x) r.2) : P (0, [some (.ref 1), some (.int v1), some (.int v2), some (.int v3), none], [], (110, x), m) := by
  unfold bp_isShiftedBy at h
  rcases htp with rfl | rfl
  all_goals
    refine mj_gcp hC 4 ?_
    show P (8, [some (.ref 1), some (.int v1), some (.int v2), some (.int v3), none], [.ref _, .ref 47], (110, x), m)
    obtain ⟨q1, eq1, h⟩ := mj_bnd h
    refine mj_pcall hC rfl (sa_begin_x (Nat.le_trans (by decide) hd) (by decide) (by decide) eq1) ?_
    show P (11, [some (.ref 1), some (.int v1), some (.int v2), some (.int v3), none], [], (110, x), q1)
    refine mj_gcp hC 6 ?_
    show P (22, [some (.ref 1), some (.int v1), some (.int v2), some (.int v3), some (.int 1)], [], (110, x), (mj_up q1 47 2 (.int v1)))
    obtain ⟨q6, eq6, h⟩ := mj_bnd h
    refine mj_less hC (L0 := [some (.ref 1), none, some (.int v2), some (.int v3), some (.int 1)]) (And.intro rfl (And.intro rfl (And.intro rfl (And.intro rfl trivial)))) ?_
    refine mj_loop_P (A := fun z22 => P (22, [some (.ref 1), none, some (.int v2), some (.int v3), some (.int z22.1)], [], (110, x), z22.2)) (E := fun j z22 => (j = 0 → P (55, [none, none, none, none, none], [], (110, x), z22.2)) ∧ (¬ j = 0 → P (63, [none, none, none, none, none], [], (110, x), z22.2))) (fun zz t w hb h0 h1 => bp_isShiftedBy_l22_x hC hd (by decide) zz hb h0 (fun ht => (h1 0 ht).1 rfl) (fun ht => (h1 1 ht).2 (by decide))) mj_F _ q6 eq6 ⟨fun hj => ?_, fun hj => ?_⟩
    · rw [if_pos hj] at h
      refine mj_gcp hC 1 ?_
      show P (56, [none, none, none, none, none], [.int 0], (110, x), q6.2.2)
      cases h
      exact mj_pret hC rfl hR
    · rw [if_neg hj] at h
      refine mj_gcp hC 1 ?_
      show P (64, [none, none, none, none, none], [.int 1], (110, x), q6.2.2)
      cases h
      exact mj_pret hC rfl hR
set_option maxRecDepth 20000 in
theorem bp_isShiftedBy_x {Ls tp ip x d : Nat} {Z : mj_X} (hd : 7 ≤ d) (htp : tp = 3 ∨ tp = 17) {v1 : Int32} {v2 : Int32} {v3 : Int32} {m : mj_M} {r : (Int32 × mj_M)} (h : bp_isShiftedBy tp v1 v2 v3 m = some r) : mj_Ex false (mj_sh Ls) (mj_rf tp ip) Z d 46 [.ref 1, .int v1, .int v2, .int v3] (110, x) m (some (.int r.1)) (110, x) r.2 := by
  exact mj_Ex_of (cd := mj_cd_46) (L := [some (.ref 1), some (.int v1), some (.int v2), some (.int v3), none]) (by omega) (by decide) rfl (Nat.le_of_ble_eq_true rfl) rfl (fun P hC => bp_isShiftedBy_p hC (by omega) htp h ⟨rfl, rfl, rfl⟩)
def bp_chance_j93l37 (tp : Nat)  (v2 : Int32) (v3 : Int32) (v4 : Int32) (v5 : Int32) (v6 : Int32)  (m : mj_M) : Option (Nat × (Int32 × Int32 × Int32 × mj_M)) :=
  some (0, (v4, v5, (v6 + 1), m))
def bp_chance_l37 (tp : Nat) (v2 : Int32) (v3 : Int32) (s37 : (Int32 × Int32 × Int32 × mj_M)) : Option (Nat × (Int32 × Int32 × Int32 × mj_M)) :=
  (if 10 ≤ s37.2.2.1 then some (1, (s37.1, s37.2.1, s37.2.2.1, s37.2.2.2)) else
  (sa_copy 47 42 s37.2.2.2).bind fun q6 =>
  (bp_tryHours tp v2 0 (mj_up q6 47 3 (.int s37.1))).bind fun q7 =>
  (if (sa_isDone 47 v3 q7) = 0 then bp_chance_j93l37 tp v2 v3 (mj_I (q7 47 3)) s37.2.1 s37.2.2.1 q7 else
  bp_chance_j93l37 tp v2 v3 (mj_I (q7 47 3)) (s37.2.1 + 1) s37.2.2.1 q7))
def bp_chance (tp : Nat) (v1 : Int32) (v2 : Int32) (v3 : Int32) (m : mj_M) : Option (Int32 × mj_M) :=
  (if v1 < 0 then some ((-1), m) else
  (if v2 < 1 then some ((-1), m) else
  (if 99 < v2 then some ((-1), m) else
  (if (to_isWork tp v3 m) = 0 then some ((-1), m) else
  (mj_loop (bp_chance_l37 tp v2 v3) mj_F (v1, 0, 0, m)).bind fun q9 =>
  some (q9.2.2.1, q9.2.2.2.2)))))
set_option maxRecDepth 20000 in
theorem bp_chance_j93l37_x {Ls tp ip x d : Nat} {Z : mj_X} {R : Option Value → mj_G → mj_M → Prop} {P : mj_K → Prop} (hC : mj_cls false (mj_sh Ls) (mj_rf tp ip) mj_dv mj_cd_47 (mj_Ex false (mj_sh Ls) (mj_rf tp ip) Z d) R P) (hd : 7 ≤ d) (htp : tp = 3 ∨ tp = 17)  {v2 : Int32} {v3 : Int32} {v4 : Int32} {v5 : Int32} {v6 : Int32}  {m : mj_M} {t : Nat} {w : (Int32 × Int32 × Int32 × mj_M)} (h : bp_chance_j93l37 tp  v2 v3 v4 v5 v6 m = some (t, w)) (h0 : t = 0 → P (37, [some (.ref 1), none, some (.int v2), some (.int v3), some (.int w.1), some (.int w.2.1), some (.int w.2.2.1)], [], (110, x), w.2.2.2)) (h1 : t = 1 → P (99, [none, none, none, none, none, some (.int w.2.1), none], [], (110, x), w.2.2.2)) : P (93, [some (.ref 1), none, some (.int v2), some (.int v3), some (.int v4), some (.int v5), some (.int v6)], [], (110, x), m) := by
  unfold bp_chance_j93l37 at h
  rcases htp with rfl | rfl
  all_goals
    refine mj_gcp hC 2 ?_
    show P (37, [some (.ref 1), none, some (.int v2), some (.int v3), some (.int v4), some (.int v5), some (.int (v6 + 1))], [], (110, x), m)
    cases h
    exact mj_less hC (L0 := [some (.ref 1), none, some (.int v2), some (.int v3), some (.int v4), some (.int v5), some (.int (v6 + 1))]) (And.intro rfl (And.intro rfl (And.intro rfl (And.intro rfl (And.intro rfl (And.intro rfl trivial)))))) (h0 rfl)
set_option maxRecDepth 20000 in
theorem bp_chance_l37_x {Ls tp ip x d : Nat} {Z : mj_X} {R : Option Value → mj_G → mj_M → Prop} {P : mj_K → Prop} (hC : mj_cls false (mj_sh Ls) (mj_rf tp ip) mj_dv mj_cd_47 (mj_Ex false (mj_sh Ls) (mj_rf tp ip) Z d) R P) (hd : 7 ≤ d) (htp : tp = 3 ∨ tp = 17) {v2 : Int32} {v3 : Int32} (s37 : (Int32 × Int32 × Int32 × mj_M)) {t : Nat} {w : (Int32 × Int32 × Int32 × mj_M)} (h : bp_chance_l37 tp v2 v3 s37 = some (t, w)) (h0 : t = 0 → P (37, [some (.ref 1), none, some (.int v2), some (.int v3), some (.int w.1), some (.int w.2.1), some (.int w.2.2.1)], [], (110, x), w.2.2.2)) (h1 : t = 1 → P (99, [none, none, none, none, none, some (.int w.2.1), none], [], (110, x), w.2.2.2)) : P (37, [some (.ref 1), none, some (.int v2), some (.int v3), some (.int s37.1), some (.int s37.2.1), some (.int s37.2.2.1)], [], (110, x), s37.2.2.2) := by
  unfold bp_chance_l37 at h
  rcases htp with rfl | rfl
  all_goals
    refine mj_gcp hC 3 ?_
    show P (mj_pick 99 44 (10 ≤ s37.2.2.1), [some (.ref 1), none, some (.int v2), some (.int v3), some (.int s37.1), some (.int s37.2.1), some (.int s37.2.2.1)], [], (110, x), s37.2.2.2)
    refine mj_pbr (fun c5 => ?_) (fun c5 => ?_)
    · rw [if_pos c5] at h
      cases h
      exact mj_less hC (L0 := [none, none, none, none, none, some (.int s37.2.1), none]) (And.intro rfl trivial) (h1 rfl)
    · rw [if_neg c5] at h
      refine mj_gcp hC 4 ?_
      show P (52, [some (.ref 1), none, some (.int v2), some (.int v3), some (.int s37.1), some (.int s37.2.1), some (.int s37.2.2.1)], [.ref 42, .ref 47], (110, x), s37.2.2.2)
      obtain ⟨q6, eq6, h⟩ := mj_bnd h
      refine mj_pcall hC rfl (sa_copy_x (Nat.le_trans (by decide) hd) (by decide) eq6) ?_
      show P (55, [some (.ref 1), none, some (.int v2), some (.int v3), some (.int s37.1), some (.int s37.2.1), some (.int s37.2.2.1)], [], (110, x), q6)
      refine mj_gcp hC 7 ?_
      show P (67, [some (.ref 1), none, some (.int v2), some (.int v3), some (.int s37.1), some (.int s37.2.1), some (.int s37.2.2.1)], [.int 0, .int v2, .ref 1], (110, x), (mj_up q6 47 3 (.int s37.1)))
      obtain ⟨q7, eq7, h⟩ := mj_bnd h
      refine mj_pcall hC rfl (bp_tryHours_x (Nat.le_trans (by decide) hd) (by decide) eq7) ?_
      show P (70, [some (.ref 1), none, some (.int v2), some (.int v3), some (.int s37.1), some (.int s37.2.1), some (.int s37.2.2.1)], [], (110, x), q7)
      refine mj_gcp hC 7 ?_
      show P (84, [some (.ref 1), none, some (.int v2), some (.int v3), some (.int (mj_I (q7 47 3))), some (.int s37.2.1), some (.int s37.2.2.1)], [.int v3, .ref 47], (110, x), q7)
      refine mj_pcall hC rfl (sa_isDone_x (Nat.le_trans (by decide) hd) (by decide)) ?_
      show P (87, [some (.ref 1), none, some (.int v2), some (.int v3), some (.int (mj_I (q7 47 3))), some (.int s37.2.1), some (.int s37.2.2.1)], [.int (sa_isDone 47 v3 q7)], (110, x), q7)
      refine mj_gcp hC 1 ?_
      show P (mj_pick 93 90 ((sa_isDone 47 v3 q7) = 0), [some (.ref 1), none, some (.int v2), some (.int v3), some (.int (mj_I (q7 47 3))), some (.int s37.2.1), some (.int s37.2.2.1)], [], (110, x), q7)
      refine mj_pbr (fun c8 => ?_) (fun c8 => ?_)
      · rw [if_pos c8] at h
        exact mj_less hC (L0 := [some (.ref 1), none, some (.int v2), some (.int v3), some (.int (mj_I (q7 47 3))), some (.int s37.2.1), some (.int s37.2.2.1)]) (And.intro rfl (And.intro rfl (And.intro rfl (And.intro rfl (And.intro rfl (And.intro rfl trivial)))))) (bp_chance_j93l37_x hC hd (by decide) h h0 h1)
      · rw [if_neg c8] at h
        refine mj_gcp hC 1 ?_
        show P (93, [some (.ref 1), none, some (.int v2), some (.int v3), some (.int (mj_I (q7 47 3))), some (.int (s37.2.1 + 1)), some (.int s37.2.2.1)], [], (110, x), q7)
        exact mj_less hC (L0 := [some (.ref 1), none, some (.int v2), some (.int v3), some (.int (mj_I (q7 47 3))), some (.int (s37.2.1 + 1)), some (.int s37.2.2.1)]) (And.intro rfl (And.intro rfl (And.intro rfl (And.intro rfl (And.intro rfl (And.intro rfl trivial)))))) (bp_chance_j93l37_x hC hd (by decide) h h0 h1)
set_option maxRecDepth 20000 in
theorem bp_chance_p {Ls tp ip x d : Nat} {Z : mj_X} {R : Option Value → mj_G → mj_M → Prop} {P : mj_K → Prop} (hC : mj_cls false (mj_sh Ls) (mj_rf tp ip) mj_dv mj_cd_47 (mj_Ex false (mj_sh Ls) (mj_rf tp ip) Z d) R P) (hd : 7 ≤ d) (htp : tp = 3 ∨ tp = 17) {v1 : Int32} {v2 : Int32} {v3 : Int32} {m : mj_M} {r : (Int32 × mj_M)} (h : bp_chance tp v1 v2 v3 m = some r) (hR : R (some (.int r.1)) (110, x) r.2) : P (0, [some (.ref 1), some (.int v1), some (.int v2), some (.int v3), none, none, none], [], (110, x), m) := by
  unfold bp_chance at h
  rcases htp with rfl | rfl
  all_goals
    refine mj_gcp hC 2 ?_
    show P (mj_pick 26 4 (v1 < 0), [some (.ref 1), some (.int v1), some (.int v2), some (.int v3), none, none, none], [], (110, x), m)
    refine mj_pbr (fun c1 => ?_) (fun c1 => ?_)
    · rw [if_pos c1] at h
      refine mj_gcp hC 1 ?_
      show P (27, [some (.ref 1), some (.int v1), some (.int v2), some (.int v3), none, none, none], [.int (-1)], (110, x), m)
      cases h
      exact mj_pret hC rfl hR
    · rw [if_neg c1] at h
      refine mj_gcp hC 3 ?_
      show P (mj_pick 26 9 (v2 < 1), [some (.ref 1), some (.int v1), some (.int v2), some (.int v3), none, none, none], [], (110, x), m)
      refine mj_pbr (fun c2 => ?_) (fun c2 => ?_)
      · rw [if_pos c2] at h
        refine mj_gcp hC 1 ?_
        show P (27, [some (.ref 1), some (.int v1), some (.int v2), some (.int v3), none, none, none], [.int (-1)], (110, x), m)
        cases h
        exact mj_pret hC rfl hR
      · rw [if_neg c2] at h
        refine mj_gcp hC 3 ?_
        show P (mj_pick 26 15 (99 < v2), [some (.ref 1), some (.int v1), some (.int v2), some (.int v3), none, none, none], [], (110, x), m)
        refine mj_pbr (fun c3 => ?_) (fun c3 => ?_)
        · rw [if_pos c3] at h
          refine mj_gcp hC 1 ?_
          show P (27, [some (.ref 1), some (.int v1), some (.int v2), some (.int v3), none, none, none], [.int (-1)], (110, x), m)
          cases h
          exact mj_pret hC rfl hR
        · rw [if_neg c3] at h
          refine mj_gcp hC 3 ?_
          show P (20, [some (.ref 1), some (.int v1), some (.int v2), some (.int v3), none, none, none], [.int v3, .ref _], (110, x), m)
          refine mj_pcall hC rfl (to_isWork_x (Nat.le_trans (by decide) hd) (by decide)) ?_
          show P (23, [some (.ref 1), some (.int v1), some (.int v2), some (.int v3), none, none, none], [.int (to_isWork _ v3 m)], (110, x), m)
          refine mj_gcp hC 1 ?_
          show P (mj_pick 26 28 ((to_isWork _ v3 m) = 0), [some (.ref 1), some (.int v1), some (.int v2), some (.int v3), none, none, none], [], (110, x), m)
          refine mj_pbr (fun c4 => ?_) (fun c4 => ?_)
          · rw [if_pos c4] at h
            refine mj_gcp hC 1 ?_
            show P (27, [some (.ref 1), some (.int v1), some (.int v2), some (.int v3), none, none, none], [.int (-1)], (110, x), m)
            cases h
            exact mj_pret hC rfl hR
          · rw [if_neg c4] at h
            refine mj_gcp hC 6 ?_
            show P (37, [some (.ref 1), some (.int v1), some (.int v2), some (.int v3), some (.int v1), some (.int 0), some (.int 0)], [], (110, x), m)
            obtain ⟨q9, eq9, h⟩ := mj_bnd h
            refine mj_less hC (L0 := [some (.ref 1), none, some (.int v2), some (.int v3), some (.int v1), some (.int 0), some (.int 0)]) (And.intro rfl (And.intro rfl (And.intro rfl (And.intro rfl (And.intro rfl (And.intro rfl trivial)))))) ?_
            refine mj_loop_P (A := fun z37 => P (37, [some (.ref 1), none, some (.int v2), some (.int v3), some (.int z37.1), some (.int z37.2.1), some (.int z37.2.2.1)], [], (110, x), z37.2.2.2)) (E := fun _ z37 => P (99, [none, none, none, none, none, some (.int z37.2.1), none], [], (110, x), z37.2.2.2)) (fun zz t w hb h0 h1 => bp_chance_l37_x hC hd (by decide) zz hb h0 (fun ht => h1 0 ht)) mj_F _ q9 eq9 ?_
            refine mj_gcp hC 1 ?_
            show P (101, [none, none, none, none, none, some (.int q9.2.2.1), none], [.int q9.2.2.1], (110, x), q9.2.2.2.2)
            cases h
            exact mj_pret hC rfl hR
set_option maxRecDepth 20000 in
theorem bp_chance_x {Ls tp ip x d : Nat} {Z : mj_X} (hd : 8 ≤ d) (htp : tp = 3 ∨ tp = 17) {v1 : Int32} {v2 : Int32} {v3 : Int32} {m : mj_M} {r : (Int32 × mj_M)} (h : bp_chance tp v1 v2 v3 m = some r) : mj_Ex false (mj_sh Ls) (mj_rf tp ip) Z d 47 [.ref 1, .int v1, .int v2, .int v3] (110, x) m (some (.int r.1)) (110, x) r.2 := by
  exact mj_Ex_of (cd := mj_cd_47) (L := [some (.ref 1), some (.int v1), some (.int v2), some (.int v3), none, none, none]) (by omega) (by decide) rfl (Nat.le_of_ble_eq_true rfl) rfl (fun P hC => bp_chance_p hC (by omega) htp h ⟨rfl, rfl, rfl⟩)
def bp_tried_j148 (tp : Nat)  (s1 : Int32) (s2 : Int32) (m : mj_M) : Option (Int32 × mj_M) :=
  (bp_tryHours tp s1 s2 m).bind fun q10 =>
  (sa_allSlips 47 q10).bind fun q11 =>
  (sa_allSlips 42 q10).bind fun q12 =>
  some ((q11 - q12), q10)
def bp_tried_j137 (tp : Nat) (v1 : Int32) (v3 : Int32)  (m : mj_M) : Option (Int32 × mj_M) :=
  (if v1 = 0 then bp_tried_j148 tp v3 2 m else
  bp_tried_j148 tp v3 1 m)
def bp_tried_j44 (tp : Nat) (v1 : Int32) (v2 : Int32) (v3 : Int32)  (m : mj_M) : Option (Int32 × mj_M) :=
  (sa_copy 47 42 m).bind fun q7 =>
  (if v1 = 1 then bp_tried_j137 tp v1 v3 (fx_fill q7 49 0) else
  (if v1 = 2 then (sa_sendAway 47 v2 q7).bind fun q14 =>
  bp_tried_j137 tp v1 v3 q14 else
  (if v1 = 3 then bp_tried_j137 tp v1 v3 (mj_up q7 47 1 (.int 999)) else
  (if v1 = 4 then bp_tried_j137 tp v1 v3 (mj_up q7 47 2 (.int 0)) else
  bp_tried_j137 tp v1 v3 q7))))
def bp_tried (tp : Nat) (v1 : Int32) (v2 : Int32) (v3 : Int32) (m : mj_M) : Option (Int32 × mj_M) :=
  (if v1 < 0 then some ((-1), m) else
  (if 4 < v1 then some ((-1), m) else
  (if v3 < 0 then some ((-1), m) else
  (if 99 < v3 then some ((-1), m) else
  (if v1 = 2 then (if (to_isMan tp v2 m) = 0 then some ((-1), m) else
  bp_tried_j44 tp v1 v2 v3 m) else
  (if v2 = 0 then bp_tried_j44 tp v1 v2 v3 m else
  some ((-1), m)))))))
set_option maxRecDepth 20000 in
theorem bp_tried_j148_x {Ls tp ip x d : Nat} {Z : mj_X} {R : Option Value → mj_G → mj_M → Prop} {P : mj_K → Prop} (hC : mj_cls false (mj_sh Ls) (mj_rf tp ip) mj_dv mj_cd_48 (mj_Ex false (mj_sh Ls) (mj_rf tp ip) Z d) R P) (hd : 7 ≤ d) (htp : tp = 3 ∨ tp = 17)  {s1 : Int32} {s2 : Int32} {m : mj_M} {r : (Int32 × mj_M)} (h : bp_tried_j148 tp s1 s2 m = some r) (hR : R (some (.int r.1)) (110, x) r.2) : P (148, [some (.ref 1), none, none, none], [.int s2, .int s1, .ref 1], (110, x), m) := by
  unfold bp_tried_j148 at h
  rcases htp with rfl | rfl
  all_goals
    obtain ⟨q10, eq10, h⟩ := mj_bnd h
    refine mj_pcall hC rfl (bp_tryHours_x (Nat.le_trans (by decide) hd) (by decide) eq10) ?_
    show P (151, [some (.ref 1), none, none, none], [], (110, x), q10)
    refine mj_gcp hC 2 ?_
    show P (155, [some (.ref 1), none, none, none], [.ref 47], (110, x), q10)
    obtain ⟨q11, eq11, h⟩ := mj_bnd h
    refine mj_pcall hC rfl (sa_allSlips_x (Nat.le_trans (by decide) hd) (by decide) eq11) ?_
    show P (158, [some (.ref 1), none, none, none], [.int q11], (110, x), q10)
    refine mj_gcp hC 2 ?_
    show P (162, [some (.ref 1), none, none, none], [.ref 42, .int q11], (110, x), q10)
    obtain ⟨q12, eq12, h⟩ := mj_bnd h
    refine mj_pcall hC rfl (sa_allSlips_x (Nat.le_trans (by decide) hd) (by decide) eq12) ?_
    show P (165, [some (.ref 1), none, none, none], [.int q12, .int q11], (110, x), q10)
    refine mj_gcp hC 1 ?_
    show P (166, [some (.ref 1), none, none, none], [.int (q11 - q12)], (110, x), q10)
    cases h
    exact mj_pret hC rfl hR
set_option maxRecDepth 20000 in
theorem bp_tried_j137_x {Ls tp ip x d : Nat} {Z : mj_X} {R : Option Value → mj_G → mj_M → Prop} {P : mj_K → Prop} (hC : mj_cls false (mj_sh Ls) (mj_rf tp ip) mj_dv mj_cd_48 (mj_Ex false (mj_sh Ls) (mj_rf tp ip) Z d) R P) (hd : 7 ≤ d) (htp : tp = 3 ∨ tp = 17) {v1 : Int32} {v3 : Int32}  {m : mj_M} {r : (Int32 × mj_M)} (h : bp_tried_j137 tp v1 v3 m = some r) (hR : R (some (.int r.1)) (110, x) r.2) : P (137, [some (.ref 1), some (.int v1), none, some (.int v3)], [], (110, x), m) := by
  unfold bp_tried_j137 at h
  rcases htp with rfl | rfl
  all_goals
    refine mj_gcp hC 4 ?_
    show P (mj_pick 143 147 (v1 = 0), [some (.ref 1), some (.int v1), none, some (.int v3)], [.int v3, .ref 1], (110, x), m)
    refine mj_pbr (fun c9 => ?_) (fun c9 => ?_)
    · rw [if_pos c9] at h
      refine mj_gcp hC 2 ?_
      show P (148, [some (.ref 1), some (.int v1), none, some (.int v3)], [.int 2, .int v3, .ref 1], (110, x), m)
      exact mj_less hC (L0 := [some (.ref 1), none, none, none]) (And.intro rfl trivial) (bp_tried_j148_x hC hd (by decide) h hR)
    · rw [if_neg c9] at h
      refine mj_gcp hC 1 ?_
      show P (148, [some (.ref 1), some (.int v1), none, some (.int v3)], [.int 1, .int v3, .ref 1], (110, x), m)
      exact mj_less hC (L0 := [some (.ref 1), none, none, none]) (And.intro rfl trivial) (bp_tried_j148_x hC hd (by decide) h hR)
set_option maxRecDepth 20000 in
theorem bp_tried_j44_x {Ls tp ip x d : Nat} {Z : mj_X} {R : Option Value → mj_G → mj_M → Prop} {P : mj_K → Prop} (hC : mj_cls false (mj_sh Ls) (mj_rf tp ip) mj_dv mj_cd_48 (mj_Ex false (mj_sh Ls) (mj_rf tp ip) Z d) R P) (hd : 7 ≤ d) (htp : tp = 3 ∨ tp = 17) {v1 : Int32} {v2 : Int32} {v3 : Int32}  {m : mj_M} {r : (Int32 × mj_M)} (h : bp_tried_j44 tp v1 v2 v3 m = some r) (hR : R (some (.int r.1)) (110, x) r.2) : P (44, [some (.ref 1), some (.int v1), some (.int v2), some (.int v3)], [], (110, x), m) := by
  unfold bp_tried_j44 at h
  rcases htp with rfl | rfl
  all_goals
    refine mj_gcp hC 4 ?_
    show P (52, [some (.ref 1), some (.int v1), some (.int v2), some (.int v3)], [.ref 42, .ref 47], (110, x), m)
    obtain ⟨q7, eq7, h⟩ := mj_bnd h
    refine mj_pcall hC rfl (sa_copy_x (Nat.le_trans (by decide) hd) (by decide) eq7) ?_
    show P (55, [some (.ref 1), some (.int v1), some (.int v2), some (.int v3)], [], (110, x), q7)
    refine mj_gcp hC 2 ?_
    show P ((mj_sw v1 [(1, 88), (2, 102), (3, 113), (4, 126)] 137), [some (.ref 1), some (.int v1), some (.int v2), some (.int v3)], [], (110, x), q7)
    refine mj_psw (fun c8 => ?_) (fun c8 => ?_)
    · rw [if_pos c8] at h
      refine mj_gcp hC 4 ?_
      show P (96, [some (.ref 1), some (.int v1), some (.int v2), some (.int v3)], [.int 0, .ref 49], (110, x), q7)
      refine mj_pcall hC rfl (bp_fill_x (Nat.le_trans (by decide) hd) (by decide)) ?_
      show P (99, [some (.ref 1), some (.int v1), some (.int v2), some (.int v3)], [], (110, x), (fx_fill q7 49 0))
      refine mj_gcp hC 1 ?_
      show P (137, [some (.ref 1), some (.int v1), some (.int v2), some (.int v3)], [], (110, x), (fx_fill q7 49 0))
      exact mj_less hC (L0 := [some (.ref 1), some (.int v1), none, some (.int v3)]) (And.intro rfl (And.intro rfl (And.intro rfl trivial))) (bp_tried_j137_x hC hd (by decide) h hR)
    · rw [if_neg c8] at h
      refine mj_psw (fun c13 => ?_) (fun c13 => ?_)
      · rw [if_pos c13] at h
        refine mj_gcp hC 3 ?_
        show P (107, [some (.ref 1), some (.int v1), some (.int v2), some (.int v3)], [.int v2, .ref 47], (110, x), q7)
        obtain ⟨q14, eq14, h⟩ := mj_bnd h
        refine mj_pcall hC rfl (sa_sendAway_x (Nat.le_trans (by decide) hd) (by decide) eq14) ?_
        show P (110, [some (.ref 1), some (.int v1), some (.int v2), some (.int v3)], [], (110, x), q14)
        refine mj_gcp hC 1 ?_
        show P (137, [some (.ref 1), some (.int v1), some (.int v2), some (.int v3)], [], (110, x), q14)
        exact mj_less hC (L0 := [some (.ref 1), some (.int v1), none, some (.int v3)]) (And.intro rfl (And.intro rfl (And.intro rfl trivial))) (bp_tried_j137_x hC hd (by decide) h hR)
      · rw [if_neg c13] at h
        refine mj_psw (fun c15 => ?_) (fun c15 => ?_)
        · rw [if_pos c15] at h
          refine mj_gcp hC 5 ?_
          show P (137, [some (.ref 1), some (.int v1), some (.int v2), some (.int v3)], [], (110, x), (mj_up q7 47 1 (.int 999)))
          exact mj_less hC (L0 := [some (.ref 1), some (.int v1), none, some (.int v3)]) (And.intro rfl (And.intro rfl (And.intro rfl trivial))) (bp_tried_j137_x hC hd (by decide) h hR)
        · rw [if_neg c15] at h
          refine mj_psw (fun c16 => ?_) (fun c16 => ?_)
          · rw [if_pos c16] at h
            refine mj_gcp hC 5 ?_
            show P (137, [some (.ref 1), some (.int v1), some (.int v2), some (.int v3)], [], (110, x), (mj_up q7 47 2 (.int 0)))
            exact mj_less hC (L0 := [some (.ref 1), some (.int v1), none, some (.int v3)]) (And.intro rfl (And.intro rfl (And.intro rfl trivial))) (bp_tried_j137_x hC hd (by decide) h hR)
          · rw [if_neg c16] at h
            show P (137, [some (.ref 1), some (.int v1), some (.int v2), some (.int v3)], [], (110, x), q7)
            exact mj_less hC (L0 := [some (.ref 1), some (.int v1), none, some (.int v3)]) (And.intro rfl (And.intro rfl (And.intro rfl trivial))) (bp_tried_j137_x hC hd (by decide) h hR)
set_option maxRecDepth 20000 in
theorem bp_tried_p {Ls tp ip x d : Nat} {Z : mj_X} {R : Option Value → mj_G → mj_M → Prop} {P : mj_K → Prop} (hC : mj_cls false (mj_sh Ls) (mj_rf tp ip) mj_dv mj_cd_48 (mj_Ex false (mj_sh Ls) (mj_rf tp ip) Z d) R P) (hd : 7 ≤ d) (htp : tp = 3 ∨ tp = 17) {v1 : Int32} {v2 : Int32} {v3 : Int32} {m : mj_M} {r : (Int32 × mj_M)} (h : bp_tried tp v1 v2 v3 m = some r) (hR : R (some (.int r.1)) (110, x) r.2) : P (0, [some (.ref 1), some (.int v1), some (.int v2), some (.int v3)], [], (110, x), m) := by
  unfold bp_tried at h
  rcases htp with rfl | rfl
  all_goals
    refine mj_gcp hC 2 ?_
    show P (mj_pick 42 4 (v1 < 0), [some (.ref 1), some (.int v1), some (.int v2), some (.int v3)], [], (110, x), m)
    refine mj_pbr (fun c1 => ?_) (fun c1 => ?_)
    · rw [if_pos c1] at h
      refine mj_gcp hC 1 ?_
      show P (43, [some (.ref 1), some (.int v1), some (.int v2), some (.int v3)], [.int (-1)], (110, x), m)
      cases h
      exact mj_pret hC rfl hR
    · rw [if_neg c1] at h
      refine mj_gcp hC 3 ?_
      show P (mj_pick 42 9 (4 < v1), [some (.ref 1), some (.int v1), some (.int v2), some (.int v3)], [], (110, x), m)
      refine mj_pbr (fun c2 => ?_) (fun c2 => ?_)
      · rw [if_pos c2] at h
        refine mj_gcp hC 1 ?_
        show P (43, [some (.ref 1), some (.int v1), some (.int v2), some (.int v3)], [.int (-1)], (110, x), m)
        cases h
        exact mj_pret hC rfl hR
      · rw [if_neg c2] at h
        refine mj_gcp hC 2 ?_
        show P (mj_pick 42 13 (v3 < 0), [some (.ref 1), some (.int v1), some (.int v2), some (.int v3)], [], (110, x), m)
        refine mj_pbr (fun c3 => ?_) (fun c3 => ?_)
        · rw [if_pos c3] at h
          refine mj_gcp hC 1 ?_
          show P (43, [some (.ref 1), some (.int v1), some (.int v2), some (.int v3)], [.int (-1)], (110, x), m)
          cases h
          exact mj_pret hC rfl hR
        · rw [if_neg c3] at h
          refine mj_gcp hC 3 ?_
          show P (mj_pick 42 19 (99 < v3), [some (.ref 1), some (.int v1), some (.int v2), some (.int v3)], [], (110, x), m)
          refine mj_pbr (fun c4 => ?_) (fun c4 => ?_)
          · rw [if_pos c4] at h
            refine mj_gcp hC 1 ?_
            show P (43, [some (.ref 1), some (.int v1), some (.int v2), some (.int v3)], [.int (-1)], (110, x), m)
            cases h
            exact mj_pret hC rfl hR
          · rw [if_neg c4] at h
            refine mj_gcp hC 3 ?_
            show P (mj_pick 24 38 (v1 = 2), [some (.ref 1), some (.int v1), some (.int v2), some (.int v3)], [], (110, x), m)
            refine mj_pbr (fun c5 => ?_) (fun c5 => ?_)
            · rw [if_pos c5] at h
              refine mj_gcp hC 3 ?_
              show P (29, [some (.ref 1), some (.int v1), some (.int v2), some (.int v3)], [.int v2, .ref _], (110, x), m)
              refine mj_pcall hC rfl (to_isMan_x (Nat.le_trans (by decide) hd) (by decide)) ?_
              show P (32, [some (.ref 1), some (.int v1), some (.int v2), some (.int v3)], [.int (to_isMan _ v2 m)], (110, x), m)
              refine mj_gcp hC 1 ?_
              show P (mj_pick 35 44 ((to_isMan _ v2 m) = 0), [some (.ref 1), some (.int v1), some (.int v2), some (.int v3)], [], (110, x), m)
              refine mj_pbr (fun c6 => ?_) (fun c6 => ?_)
              · rw [if_pos c6] at h
                refine mj_gcp hC 1 ?_
                show P (42, [some (.ref 1), some (.int v1), some (.int v2), some (.int v3)], [], (110, x), m)
                refine mj_gcp hC 1 ?_
                show P (43, [some (.ref 1), some (.int v1), some (.int v2), some (.int v3)], [.int (-1)], (110, x), m)
                cases h
                exact mj_pret hC rfl hR
              · rw [if_neg c6] at h
                exact mj_less hC (L0 := [some (.ref 1), some (.int v1), some (.int v2), some (.int v3)]) (And.intro rfl (And.intro rfl (And.intro rfl (And.intro rfl trivial)))) (bp_tried_j44_x hC hd (by decide) h hR)
            · rw [if_neg c5] at h
              refine mj_gcp hC 2 ?_
              show P (mj_pick 44 42 (v2 = 0), [some (.ref 1), some (.int v1), some (.int v2), some (.int v3)], [], (110, x), m)
              refine mj_pbr (fun c17 => ?_) (fun c17 => ?_)
              · rw [if_pos c17] at h
                exact mj_less hC (L0 := [some (.ref 1), some (.int v1), some (.int v2), some (.int v3)]) (And.intro rfl (And.intro rfl (And.intro rfl (And.intro rfl trivial)))) (bp_tried_j44_x hC hd (by decide) h hR)
              · rw [if_neg c17] at h
                refine mj_gcp hC 1 ?_
                show P (43, [some (.ref 1), some (.int v1), some (.int v2), some (.int v3)], [.int (-1)], (110, x), m)
                cases h
                exact mj_pret hC rfl hR
set_option maxRecDepth 20000 in
theorem bp_tried_x {Ls tp ip x d : Nat} {Z : mj_X} (hd : 8 ≤ d) (htp : tp = 3 ∨ tp = 17) {v1 : Int32} {v2 : Int32} {v3 : Int32} {m : mj_M} {r : (Int32 × mj_M)} (h : bp_tried tp v1 v2 v3 m = some r) : mj_Ex false (mj_sh Ls) (mj_rf tp ip) Z d 48 [.ref 1, .int v1, .int v2, .int v3] (110, x) m (some (.int r.1)) (110, x) r.2 := by
  exact mj_Ex_of (cd := mj_cd_48) (L := [some (.ref 1), some (.int v1), some (.int v2), some (.int v3)]) (by omega) (by decide) rfl (Nat.le_of_ble_eq_true rfl) rfl (fun P hC => bp_tried_p hC (by omega) htp h ⟨rfl, rfl, rfl⟩)
