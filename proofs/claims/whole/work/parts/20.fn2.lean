/-! FUNCTIONS OUT OF THE INSTRUCTIONS, AND THAT A RUN GIVES THEM (made by wip/whole/emit.py) -/
def md_fails  (v1 : Int32) (m : mj_M) : Option (Int32 × mj_M) :=
  some (0, (mj_up m 68 2 (.int v1)))
set_option maxRecDepth 20000 in
theorem md_fails_p {Ls tp ip x d : Nat} {Z : mj_X} {R : Option Value → mj_G → mj_M → Prop} {P : mj_K → Prop} (hC : mj_cls false (mj_sh Ls) (mj_rf tp ip) mj_dv mj_cd_221 (mj_Ex false (mj_sh Ls) (mj_rf tp ip) Z d) R P) (hd : 0 ≤ d) {v1 : Int32} {m : mj_M} {r : (Int32 × mj_M)} (h : md_fails v1 m = some r) (hR : R (some (.int r.1)) (110, x) r.2) : P (0, [some (.ref 68), some (.int v1)], [], (110, x), m) := by
  unfold md_fails at h
  refine mj_gcp hC 4 ?_
  show P (6, [some (.ref 68), some (.int v1)], [.int 0], (110, x), (mj_up m 68 2 (.int v1)))
  cases h
  exact mj_pret hC rfl hR
set_option maxRecDepth 20000 in
theorem md_fails_x {Ls tp ip x d : Nat} {Z : mj_X} (hd : 1 ≤ d) {v1 : Int32} {m : mj_M} {r : (Int32 × mj_M)} (h : md_fails v1 m = some r) : mj_Ex false (mj_sh Ls) (mj_rf tp ip) Z d 221 [.ref 68, .int v1] (110, x) m (some (.int r.1)) (110, x) r.2 := by
  exact mj_Ex_of (cd := mj_cd_221) (L := [some (.ref 68), some (.int v1)]) (by omega) (by decide) rfl (Nat.le_of_ble_eq_true rfl) rfl (fun P hC => md_fails_p hC (by omega) h ⟨rfl, rfl, rfl⟩)
def md_doneOf_j37l4   (v1 : Int32) (v3 : Int32) (s0 : Int32) (s1 : Int32) (m : mj_M) : Option (Nat × (Int32 × Int32)) :=
  some (0, ((s0 + s1), (v3 + 1)))
def md_doneOf_j36l4   (v1 : Int32) (v3 : Int32) (s0 : Int32) (m : mj_M) : Option (Nat × (Int32 × Int32)) :=
  md_doneOf_j37l4 v1 v3 s0 0 m
def md_doneOf_l4  (v1 : Int32) (m : mj_M) (s4 : (Int32 × Int32)) : Option (Nat × (Int32 × Int32)) :=
  (if (mj_I (m 68 14)) ≤ s4.2 then some (1, (s4.1, s4.2)) else
  (if s4.2 < 0 ∨ 16 ≤ (s4.2 : Int32).toNatClampNeg then none else
  (if (mj_I (m 78 s4.2.toNatClampNeg)) = v1 then (if s4.2 < 0 ∨ 16 ≤ (s4.2 : Int32).toNatClampNeg then none else
  (if (mj_I (m 93 s4.2.toNatClampNeg)) = 0 then md_doneOf_j37l4 v1 s4.2 s4.1 1 m else
  md_doneOf_j36l4 v1 s4.2 s4.1 m)) else
  md_doneOf_j36l4 v1 s4.2 s4.1 m)))
def md_doneOf  (v1 : Int32) (m : mj_M) : Option Int32 :=
  (mj_loop (md_doneOf_l4 v1 m) mj_F (0, 0)).bind fun q6 =>
  some q6.2.1
set_option maxRecDepth 20000 in
theorem md_doneOf_j37l4_x {Ls tp ip x d : Nat} {Z : mj_X} {R : Option Value → mj_G → mj_M → Prop} {P : mj_K → Prop} (hC : mj_cls false (mj_sh Ls) (mj_rf tp ip) mj_dv mj_cd_222 (mj_Ex false (mj_sh Ls) (mj_rf tp ip) Z d) R P) (hd : 0 ≤ d)  {v1 : Int32} {v3 : Int32} {s0 : Int32} {s1 : Int32} {m : mj_M} {t : Nat} {w : (Int32 × Int32)} (h : md_doneOf_j37l4  v1 v3 s0 s1 m = some (t, w)) (h0 : t = 0 → P (4, [some (.ref 68), some (.int v1), some (.int w.1), some (.int w.2)], [], (110, x), m)) (h1 : t = 1 → P (45, [none, none, some (.int w.1), none], [], (110, x), m)) : P (37, [some (.ref 68), some (.int v1), none, some (.int v3)], [.int s1, .int s0], (110, x), m) := by
  unfold md_doneOf_j37l4 at h
  refine mj_gcp hC 4 ?_
  show P (4, [some (.ref 68), some (.int v1), some (.int (s0 + s1)), some (.int (v3 + 1))], [], (110, x), m)
  cases h
  exact mj_less hC (L0 := [some (.ref 68), some (.int v1), some (.int (s0 + s1)), some (.int (v3 + 1))]) (And.intro rfl (And.intro rfl (And.intro rfl (And.intro rfl trivial)))) (h0 rfl)
set_option maxRecDepth 20000 in
theorem md_doneOf_j36l4_x {Ls tp ip x d : Nat} {Z : mj_X} {R : Option Value → mj_G → mj_M → Prop} {P : mj_K → Prop} (hC : mj_cls false (mj_sh Ls) (mj_rf tp ip) mj_dv mj_cd_222 (mj_Ex false (mj_sh Ls) (mj_rf tp ip) Z d) R P) (hd : 0 ≤ d)  {v1 : Int32} {v3 : Int32} {s0 : Int32} {m : mj_M} {t : Nat} {w : (Int32 × Int32)} (h : md_doneOf_j36l4  v1 v3 s0 m = some (t, w)) (h0 : t = 0 → P (4, [some (.ref 68), some (.int v1), some (.int w.1), some (.int w.2)], [], (110, x), m)) (h1 : t = 1 → P (45, [none, none, some (.int w.1), none], [], (110, x), m)) : P (36, [some (.ref 68), some (.int v1), none, some (.int v3)], [.int s0], (110, x), m) := by
  unfold md_doneOf_j36l4 at h
  refine mj_gcp hC 1 ?_
  show P (37, [some (.ref 68), some (.int v1), none, some (.int v3)], [.int 0, .int s0], (110, x), m)
  exact mj_less hC (L0 := [some (.ref 68), some (.int v1), none, some (.int v3)]) (And.intro rfl (And.intro rfl (And.intro rfl trivial))) (md_doneOf_j37l4_x hC hd h h0 h1)
set_option maxRecDepth 20000 in
theorem md_doneOf_l4_x {Ls tp ip x d : Nat} {Z : mj_X} {R : Option Value → mj_G → mj_M → Prop} {P : mj_K → Prop} (hC : mj_cls false (mj_sh Ls) (mj_rf tp ip) mj_dv mj_cd_222 (mj_Ex false (mj_sh Ls) (mj_rf tp ip) Z d) R P) (hd : 0 ≤ d) {v1 : Int32} {m : mj_M} (s4 : (Int32 × Int32)) {t : Nat} {w : (Int32 × Int32)} (h : md_doneOf_l4 v1 m s4 = some (t, w)) (h0 : t = 0 → P (4, [some (.ref 68), some (.int v1), some (.int w.1), some (.int w.2)], [], (110, x), m)) (h1 : t = 1 → P (45, [none, none, some (.int w.1), none], [], (110, x), m)) : P (4, [some (.ref 68), some (.int v1), some (.int s4.1), some (.int s4.2)], [], (110, x), m) := by
  unfold md_doneOf_l4 at h
  refine mj_gcp hC 4 ?_
  show P (mj_pick 45 12 ((mj_I (m 68 14)) ≤ s4.2), [some (.ref 68), some (.int v1), some (.int s4.1), some (.int s4.2)], [], (110, x), m)
  refine mj_pbr (fun c1 => ?_) (fun c1 => ?_)
  · rw [if_pos c1] at h
    cases h
    exact mj_less hC (L0 := [none, none, some (.int s4.1), none]) (And.intro rfl trivial) (h1 rfl)
  · rw [if_neg c1] at h
    obtain ⟨k2, h⟩ := mj_ifn h
    refine mj_gcp hC 7 ?_
    show _ ∧ (P (mj_pick 23 36 ((mj_I (m 78 s4.2.toNatClampNeg)) = v1), [some (.ref 68), some (.int v1), some (.int s4.1), some (.int s4.2)], [.int s4.1], (110, x), m))
    refine And.intro k2 (?_)
    refine mj_pbr (fun c3 => ?_) (fun c3 => ?_)
    · rw [if_pos c3] at h
      obtain ⟨k4, h⟩ := mj_ifn h
      refine mj_gcp hC 5 ?_
      show _ ∧ (P (mj_pick 32 36 ((mj_I (m 93 s4.2.toNatClampNeg)) = 0), [some (.ref 68), some (.int v1), some (.int s4.1), some (.int s4.2)], [.int s4.1], (110, x), m))
      refine And.intro k4 (?_)
      refine mj_pbr (fun c5 => ?_) (fun c5 => ?_)
      · rw [if_pos c5] at h
        refine mj_gcp hC 2 ?_
        show P (37, [some (.ref 68), some (.int v1), some (.int s4.1), some (.int s4.2)], [.int 1, .int s4.1], (110, x), m)
        exact mj_less hC (L0 := [some (.ref 68), some (.int v1), none, some (.int s4.2)]) (And.intro rfl (And.intro rfl (And.intro rfl trivial))) (md_doneOf_j37l4_x hC hd h h0 h1)
      · rw [if_neg c5] at h
        exact mj_less hC (L0 := [some (.ref 68), some (.int v1), none, some (.int s4.2)]) (And.intro rfl (And.intro rfl (And.intro rfl trivial))) (md_doneOf_j36l4_x hC hd h h0 h1)
    · rw [if_neg c3] at h
      exact mj_less hC (L0 := [some (.ref 68), some (.int v1), none, some (.int s4.2)]) (And.intro rfl (And.intro rfl (And.intro rfl trivial))) (md_doneOf_j36l4_x hC hd h h0 h1)
set_option maxRecDepth 20000 in
theorem md_doneOf_p {Ls tp ip x d : Nat} {Z : mj_X} {R : Option Value → mj_G → mj_M → Prop} {P : mj_K → Prop} (hC : mj_cls false (mj_sh Ls) (mj_rf tp ip) mj_dv mj_cd_222 (mj_Ex false (mj_sh Ls) (mj_rf tp ip) Z d) R P) (hd : 0 ≤ d) {v1 : Int32} {m : mj_M} {r : Int32} (h : md_doneOf v1 m = some r) (hR : R (some (.int r)) (110, x) m) : P (0, [some (.ref 68), some (.int v1), none, none], [], (110, x), m) := by
  unfold md_doneOf at h
  refine mj_gcp hC 4 ?_
  show P (4, [some (.ref 68), some (.int v1), some (.int 0), some (.int 0)], [], (110, x), m)
  obtain ⟨q6, eq6, h⟩ := mj_bnd h
  refine mj_less hC (L0 := [some (.ref 68), some (.int v1), some (.int 0), some (.int 0)]) (And.intro rfl (And.intro rfl (And.intro rfl (And.intro rfl trivial)))) ?_
  refine mj_loop_P (A := fun z4 => P (4, [some (.ref 68), some (.int v1), some (.int z4.1), some (.int z4.2)], [], (110, x), m)) (E := fun _ z4 => P (45, [none, none, some (.int z4.1), none], [], (110, x), m)) (fun zz t w hb h0 h1 => md_doneOf_l4_x hC hd zz hb h0 (fun ht => h1 0 ht)) mj_F _ q6 eq6 ?_
  refine mj_gcp hC 1 ?_
  show P (46, [none, none, some (.int q6.2.1), none], [.int q6.2.1], (110, x), m)
  cases h
  exact mj_pret hC rfl hR
set_option maxRecDepth 20000 in
theorem md_doneOf_x {Ls tp ip x d : Nat} {Z : mj_X} (hd : 1 ≤ d) {v1 : Int32} {m : mj_M} {r : Int32} (h : md_doneOf v1 m = some r) : mj_Ex false (mj_sh Ls) (mj_rf tp ip) Z d 222 [.ref 68, .int v1] (110, x) m (some (.int r)) (110, x) m := by
  exact mj_Ex_of (cd := mj_cd_222) (L := [some (.ref 68), some (.int v1), none, none]) (by omega) (by decide) rfl (Nat.le_of_ble_eq_true rfl) rfl (fun P hC => md_doneOf_p hC (by omega) h ⟨rfl, rfl, rfl⟩)
def md_man  (v1 : Int32) (v2 : Int32) (m : mj_M) : Option (Int32 × mj_M) :=
  (if (md_isMan v1 (mj_up m 68 2 (.int 0))) = 0 then (md_fails 1 (mj_up m 68 2 (.int 0))).bind fun q2 =>
  some (q2.1, q2.2) else
  (if v2 = 0 then (if v1 < 0 ∨ 12 ≤ (v1 : Int32).toNatClampNeg then none else
  some ((mj_I (m 74 v1.toNatClampNeg)), (mj_up m 68 2 (.int 0)))) else
  (if v2 = 1 then (if v1 < 0 ∨ 12 ≤ (v1 : Int32).toNatClampNeg then none else
  some ((mj_I (m 75 v1.toNatClampNeg)), (mj_up m 68 2 (.int 0)))) else
  (if v2 = 2 then (if v1 < 0 ∨ 12 ≤ (v1 : Int32).toNatClampNeg then none else
  some ((mj_I (m 95 v1.toNatClampNeg)), (mj_up m 68 2 (.int 0)))) else
  (if v2 = 3 then (if v1 < 0 ∨ 12 ≤ (v1 : Int32).toNatClampNeg then none else
  some ((mj_I (m 96 v1.toNatClampNeg)), (mj_up m 68 2 (.int 0)))) else
  (if v2 = 4 then (if v1 < 0 ∨ 12 ≤ (v1 : Int32).toNatClampNeg then none else
  (if (mj_I (m 97 v1.toNatClampNeg)) = 0 then some (0, (mj_up m 68 2 (.int 0))) else
  some (1, (mj_up m 68 2 (.int 0))))) else
  (if v2 = 5 then (md_doneOf v1 (mj_up m 68 2 (.int 0))).bind fun q15 =>
  some (q15, (mj_up m 68 2 (.int 0))) else
  (md_fails 2 (mj_up m 68 2 (.int 0))).bind fun q16 =>
  some (q16.1, q16.2))))))))
set_option maxRecDepth 20000 in
theorem md_man_p {Ls tp ip x d : Nat} {Z : mj_X} {R : Option Value → mj_G → mj_M → Prop} {P : mj_K → Prop} (hC : mj_cls false (mj_sh Ls) (mj_rf tp ip) mj_dv mj_cd_223 (mj_Ex false (mj_sh Ls) (mj_rf tp ip) Z d) R P) (hd : 1 ≤ d) {v1 : Int32} {v2 : Int32} {m : mj_M} {r : (Int32 × mj_M)} (h : md_man v1 v2 m = some r) (hR : R (some (.int r.1)) (110, x) r.2) : P (0, [some (.ref 68), some (.int v1), some (.int v2)], [], (110, x), m) := by
  unfold md_man at h
  refine mj_gcp hC 5 ?_
  show P (7, [some (.ref 68), some (.int v1), some (.int v2)], [.int v1, .ref 68], (110, x), (mj_up m 68 2 (.int 0)))
  refine mj_pcall hC rfl (md_isMan_x (Nat.le_trans (by decide) hd)) ?_
  show P (10, [some (.ref 68), some (.int v1), some (.int v2)], [.int (md_isMan v1 (mj_up m 68 2 (.int 0)))], (110, x), (mj_up m 68 2 (.int 0)))
  refine mj_gcp hC 1 ?_
  show P (mj_pick 13 19 ((md_isMan v1 (mj_up m 68 2 (.int 0))) = 0), [some (.ref 68), some (.int v1), some (.int v2)], [], (110, x), (mj_up m 68 2 (.int 0)))
  refine mj_pbr (fun c1 => ?_) (fun c1 => ?_)
  · rw [if_pos c1] at h
    refine mj_gcp hC 2 ?_
    show P (15, [some (.ref 68), some (.int v1), some (.int v2)], [.int 1, .ref 68], (110, x), (mj_up m 68 2 (.int 0)))
    obtain ⟨q2, eq2, h⟩ := mj_bnd h
    refine mj_pcall hC rfl (md_fails_x (Nat.le_trans (by decide) hd) eq2) ?_
    show P (18, [some (.ref 68), some (.int v1), some (.int v2)], [.int q2.1], (110, x), q2.2)
    cases h
    exact mj_pret hC rfl hR
  · rw [if_neg c1] at h
    refine mj_gcp hC 2 ?_
    show P ((mj_sw v2 [(0, 60), (1, 67), (2, 74), (3, 81), (4, 88), (5, 103)] 109), [some (.ref 68), some (.int v1), some (.int v2)], [], (110, x), (mj_up m 68 2 (.int 0)))
    refine mj_psw (fun c3 => ?_) (fun c3 => ?_)
    · rw [if_pos c3] at h
      obtain ⟨k4, h⟩ := mj_ifn h
      refine mj_gcp hC 4 ?_
      show _ ∧ (P (66, [some (.ref 68), some (.int v1), some (.int v2)], [.int (mj_I (m 74 v1.toNatClampNeg))], (110, x), (mj_up m 68 2 (.int 0))))
      refine And.intro k4 (?_)
      cases h
      exact mj_pret hC rfl hR
    · rw [if_neg c3] at h
      refine mj_psw (fun c5 => ?_) (fun c5 => ?_)
      · rw [if_pos c5] at h
        obtain ⟨k6, h⟩ := mj_ifn h
        refine mj_gcp hC 4 ?_
        show _ ∧ (P (73, [some (.ref 68), some (.int v1), some (.int v2)], [.int (mj_I (m 75 v1.toNatClampNeg))], (110, x), (mj_up m 68 2 (.int 0))))
        refine And.intro k6 (?_)
        cases h
        exact mj_pret hC rfl hR
      · rw [if_neg c5] at h
        refine mj_psw (fun c7 => ?_) (fun c7 => ?_)
        · rw [if_pos c7] at h
          obtain ⟨k8, h⟩ := mj_ifn h
          refine mj_gcp hC 4 ?_
          show _ ∧ (P (80, [some (.ref 68), some (.int v1), some (.int v2)], [.int (mj_I (m 95 v1.toNatClampNeg))], (110, x), (mj_up m 68 2 (.int 0))))
          refine And.intro k8 (?_)
          cases h
          exact mj_pret hC rfl hR
        · rw [if_neg c7] at h
          refine mj_psw (fun c9 => ?_) (fun c9 => ?_)
          · rw [if_pos c9] at h
            obtain ⟨k10, h⟩ := mj_ifn h
            refine mj_gcp hC 4 ?_
            show _ ∧ (P (87, [some (.ref 68), some (.int v1), some (.int v2)], [.int (mj_I (m 96 v1.toNatClampNeg))], (110, x), (mj_up m 68 2 (.int 0))))
            refine And.intro k10 (?_)
            cases h
            exact mj_pret hC rfl hR
          · rw [if_neg c9] at h
            refine mj_psw (fun c11 => ?_) (fun c11 => ?_)
            · rw [if_pos c11] at h
              obtain ⟨k12, h⟩ := mj_ifn h
              refine mj_gcp hC 5 ?_
              show _ ∧ (P (mj_pick 101 97 ((mj_I (m 97 v1.toNatClampNeg)) = 0), [some (.ref 68), some (.int v1), some (.int v2)], [], (110, x), (mj_up m 68 2 (.int 0))))
              refine And.intro k12 (?_)
              refine mj_pbr (fun c13 => ?_) (fun c13 => ?_)
              · rw [if_pos c13] at h
                refine mj_gcp hC 1 ?_
                show P (102, [some (.ref 68), some (.int v1), some (.int v2)], [.int 0], (110, x), (mj_up m 68 2 (.int 0)))
                cases h
                exact mj_pret hC rfl hR
              · rw [if_neg c13] at h
                refine mj_gcp hC 2 ?_
                show P (102, [some (.ref 68), some (.int v1), some (.int v2)], [.int 1], (110, x), (mj_up m 68 2 (.int 0)))
                cases h
                exact mj_pret hC rfl hR
            · rw [if_neg c11] at h
              refine mj_psw (fun c14 => ?_) (fun c14 => ?_)
              · rw [if_pos c14] at h
                refine mj_gcp hC 2 ?_
                show P (105, [some (.ref 68), some (.int v1), some (.int v2)], [.int v1, .ref 68], (110, x), (mj_up m 68 2 (.int 0)))
                obtain ⟨q15, eq15, h⟩ := mj_bnd h
                refine mj_pcall hC rfl (md_doneOf_x (Nat.le_trans (by decide) hd) eq15) ?_
                show P (108, [some (.ref 68), some (.int v1), some (.int v2)], [.int q15], (110, x), (mj_up m 68 2 (.int 0)))
                cases h
                exact mj_pret hC rfl hR
              · rw [if_neg c14] at h
                show P (109, [some (.ref 68), some (.int v1), some (.int v2)], [], (110, x), (mj_up m 68 2 (.int 0)))
                refine mj_gcp hC 2 ?_
                show P (111, [some (.ref 68), some (.int v1), some (.int v2)], [.int 2, .ref 68], (110, x), (mj_up m 68 2 (.int 0)))
                obtain ⟨q16, eq16, h⟩ := mj_bnd h
                refine mj_pcall hC rfl (md_fails_x (Nat.le_trans (by decide) hd) eq16) ?_
                show P (114, [some (.ref 68), some (.int v1), some (.int v2)], [.int q16.1], (110, x), q16.2)
                cases h
                exact mj_pret hC rfl hR
set_option maxRecDepth 20000 in
theorem md_man_x {Ls tp ip x d : Nat} {Z : mj_X} (hd : 2 ≤ d) {v1 : Int32} {v2 : Int32} {m : mj_M} {r : (Int32 × mj_M)} (h : md_man v1 v2 m = some r) : mj_Ex false (mj_sh Ls) (mj_rf tp ip) Z d 223 [.ref 68, .int v1, .int v2] (110, x) m (some (.int r.1)) (110, x) r.2 := by
  exact mj_Ex_of (cd := mj_cd_223) (L := [some (.ref 68), some (.int v1), some (.int v2)]) (by omega) (by decide) rfl (Nat.le_of_ble_eq_true rfl) rfl (fun P hC => md_man_p hC (by omega) h ⟨rfl, rfl, rfl⟩)
def md_work  (v1 : Int32) (v2 : Int32) (m : mj_M) : Option (Int32 × mj_M) :=
  (if (md_isWork v1 (mj_up m 68 2 (.int 0))) = 0 then some ((-1), (mj_up m 68 2 (.int 0))) else
  (if v2 = 0 then (if v1 < 0 ∨ 16 ≤ (v1 : Int32).toNatClampNeg then none else
  some ((mj_I (m 78 v1.toNatClampNeg)), (mj_up m 68 2 (.int 0)))) else
  (if v2 = 1 then (if v1 < 0 ∨ 16 ≤ (v1 : Int32).toNatClampNeg then none else
  some ((mj_I (m 79 v1.toNatClampNeg)), (mj_up m 68 2 (.int 0)))) else
  (if v2 = 2 then (if v1 < 0 ∨ 16 ≤ (v1 : Int32).toNatClampNeg then none else
  some ((mj_I (m 80 v1.toNatClampNeg)), (mj_up m 68 2 (.int 0)))) else
  (if v2 = 3 then (if v1 < 0 ∨ 16 ≤ (v1 : Int32).toNatClampNeg then none else
  some ((mj_I (m 81 v1.toNatClampNeg)), (mj_up m 68 2 (.int 0)))) else
  (if v2 = 4 then (if v1 < 0 ∨ 16 ≤ (v1 : Int32).toNatClampNeg then none else
  some ((mj_I (m 93 v1.toNatClampNeg)), (mj_up m 68 2 (.int 0)))) else
  (if v2 = 5 then (if v1 < 0 ∨ 16 ≤ (v1 : Int32).toNatClampNeg then none else
  some ((mj_I (m 94 v1.toNatClampNeg)), (mj_up m 68 2 (.int 0)))) else
  some ((-1), (mj_up m 68 2 (.int 0))))))))))
set_option maxRecDepth 20000 in
theorem md_work_p {Ls tp ip x d : Nat} {Z : mj_X} {R : Option Value → mj_G → mj_M → Prop} {P : mj_K → Prop} (hC : mj_cls false (mj_sh Ls) (mj_rf tp ip) mj_dv mj_cd_224 (mj_Ex false (mj_sh Ls) (mj_rf tp ip) Z d) R P) (hd : 1 ≤ d) {v1 : Int32} {v2 : Int32} {m : mj_M} {r : (Int32 × mj_M)} (h : md_work v1 v2 m = some r) (hR : R (some (.int r.1)) (110, x) r.2) : P (0, [some (.ref 68), some (.int v1), some (.int v2)], [], (110, x), m) := by
  unfold md_work at h
  refine mj_gcp hC 5 ?_
  show P (7, [some (.ref 68), some (.int v1), some (.int v2)], [.int v1, .ref 68], (110, x), (mj_up m 68 2 (.int 0)))
  refine mj_pcall hC rfl (md_isWork_x (Nat.le_trans (by decide) hd)) ?_
  show P (10, [some (.ref 68), some (.int v1), some (.int v2)], [.int (md_isWork v1 (mj_up m 68 2 (.int 0)))], (110, x), (mj_up m 68 2 (.int 0)))
  refine mj_gcp hC 1 ?_
  show P (mj_pick 13 15 ((md_isWork v1 (mj_up m 68 2 (.int 0))) = 0), [some (.ref 68), some (.int v1), some (.int v2)], [], (110, x), (mj_up m 68 2 (.int 0)))
  refine mj_pbr (fun c1 => ?_) (fun c1 => ?_)
  · rw [if_pos c1] at h
    refine mj_gcp hC 1 ?_
    show P (14, [some (.ref 68), some (.int v1), some (.int v2)], [.int (-1)], (110, x), (mj_up m 68 2 (.int 0)))
    cases h
    exact mj_pret hC rfl hR
  · rw [if_neg c1] at h
    refine mj_gcp hC 2 ?_
    show P ((mj_sw v2 [(0, 56), (1, 63), (2, 70), (3, 77), (4, 84), (5, 91)] 98), [some (.ref 68), some (.int v1), some (.int v2)], [], (110, x), (mj_up m 68 2 (.int 0)))
    refine mj_psw (fun c2 => ?_) (fun c2 => ?_)
    · rw [if_pos c2] at h
      obtain ⟨k3, h⟩ := mj_ifn h
      refine mj_gcp hC 4 ?_
      show _ ∧ (P (62, [some (.ref 68), some (.int v1), some (.int v2)], [.int (mj_I (m 78 v1.toNatClampNeg))], (110, x), (mj_up m 68 2 (.int 0))))
      refine And.intro k3 (?_)
      cases h
      exact mj_pret hC rfl hR
    · rw [if_neg c2] at h
      refine mj_psw (fun c4 => ?_) (fun c4 => ?_)
      · rw [if_pos c4] at h
        obtain ⟨k5, h⟩ := mj_ifn h
        refine mj_gcp hC 4 ?_
        show _ ∧ (P (69, [some (.ref 68), some (.int v1), some (.int v2)], [.int (mj_I (m 79 v1.toNatClampNeg))], (110, x), (mj_up m 68 2 (.int 0))))
        refine And.intro k5 (?_)
        cases h
        exact mj_pret hC rfl hR
      · rw [if_neg c4] at h
        refine mj_psw (fun c6 => ?_) (fun c6 => ?_)
        · rw [if_pos c6] at h
          obtain ⟨k7, h⟩ := mj_ifn h
          refine mj_gcp hC 4 ?_
          show _ ∧ (P (76, [some (.ref 68), some (.int v1), some (.int v2)], [.int (mj_I (m 80 v1.toNatClampNeg))], (110, x), (mj_up m 68 2 (.int 0))))
          refine And.intro k7 (?_)
          cases h
          exact mj_pret hC rfl hR
        · rw [if_neg c6] at h
          refine mj_psw (fun c8 => ?_) (fun c8 => ?_)
          · rw [if_pos c8] at h
            obtain ⟨k9, h⟩ := mj_ifn h
            refine mj_gcp hC 4 ?_
            show _ ∧ (P (83, [some (.ref 68), some (.int v1), some (.int v2)], [.int (mj_I (m 81 v1.toNatClampNeg))], (110, x), (mj_up m 68 2 (.int 0))))
            refine And.intro k9 (?_)
            cases h
            exact mj_pret hC rfl hR
          · rw [if_neg c8] at h
            refine mj_psw (fun c10 => ?_) (fun c10 => ?_)
            · rw [if_pos c10] at h
              obtain ⟨k11, h⟩ := mj_ifn h
              refine mj_gcp hC 4 ?_
              show _ ∧ (P (90, [some (.ref 68), some (.int v1), some (.int v2)], [.int (mj_I (m 93 v1.toNatClampNeg))], (110, x), (mj_up m 68 2 (.int 0))))
              refine And.intro k11 (?_)
              cases h
              exact mj_pret hC rfl hR
            · rw [if_neg c10] at h
              refine mj_psw (fun c12 => ?_) (fun c12 => ?_)
              · rw [if_pos c12] at h
                obtain ⟨k13, h⟩ := mj_ifn h
                refine mj_gcp hC 4 ?_
                show _ ∧ (P (97, [some (.ref 68), some (.int v1), some (.int v2)], [.int (mj_I (m 94 v1.toNatClampNeg))], (110, x), (mj_up m 68 2 (.int 0))))
                refine And.intro k13 (?_)
                cases h
                exact mj_pret hC rfl hR
              · rw [if_neg c12] at h
                show P (98, [some (.ref 68), some (.int v1), some (.int v2)], [], (110, x), (mj_up m 68 2 (.int 0)))
                refine mj_gcp hC 1 ?_
                show P (99, [some (.ref 68), some (.int v1), some (.int v2)], [.int (-1)], (110, x), (mj_up m 68 2 (.int 0)))
                cases h
                exact mj_pret hC rfl hR
set_option maxRecDepth 20000 in
theorem md_work_x {Ls tp ip x d : Nat} {Z : mj_X} (hd : 2 ≤ d) {v1 : Int32} {v2 : Int32} {m : mj_M} {r : (Int32 × mj_M)} (h : md_work v1 v2 m = some r) : mj_Ex false (mj_sh Ls) (mj_rf tp ip) Z d 224 [.ref 68, .int v1, .int v2] (110, x) m (some (.int r.1)) (110, x) r.2 := by
  exact mj_Ex_of (cd := mj_cd_224) (L := [some (.ref 68), some (.int v1), some (.int v2)]) (by omega) (by decide) rfl (Nat.le_of_ble_eq_true rfl) rfl (fun P hC => md_work_p hC (by omega) h ⟨rfl, rfl, rfl⟩)
def md_tie  (v1 : Int32) (v2 : Int32) (m : mj_M) : Option (Int32 × mj_M) :=
  (if (md_isMan v1 (mj_up m 68 2 (.int 0))) = 0 then some ((-1), (mj_up m 68 2 (.int 0))) else
  (if (md_isMan v2 (mj_up m 68 2 (.int 0))) = 0 then some ((-1), (mj_up m 68 2 (.int 0))) else
  (if v1 < 0 ∨ 12 ≤ (v1 : Int32).toNatClampNeg then none else
  some ((((mj_I (m 76 v1.toNatClampNeg)) >>> (v2 &&& 31)) &&& 1), (mj_up m 68 2 (.int 0))))))
set_option maxRecDepth 20000 in
theorem md_tie_p {Ls tp ip x d : Nat} {Z : mj_X} {R : Option Value → mj_G → mj_M → Prop} {P : mj_K → Prop} (hC : mj_cls false (mj_sh Ls) (mj_rf tp ip) mj_dv mj_cd_225 (mj_Ex false (mj_sh Ls) (mj_rf tp ip) Z d) R P) (hd : 1 ≤ d) {v1 : Int32} {v2 : Int32} {m : mj_M} {r : (Int32 × mj_M)} (h : md_tie v1 v2 m = some r) (hR : R (some (.int r.1)) (110, x) r.2) : P (0, [some (.ref 68), some (.int v1), some (.int v2)], [], (110, x), m) := by
  unfold md_tie at h
  refine mj_gcp hC 5 ?_
  show P (7, [some (.ref 68), some (.int v1), some (.int v2)], [.int v1, .ref 68], (110, x), (mj_up m 68 2 (.int 0)))
  refine mj_pcall hC rfl (md_isMan_x (Nat.le_trans (by decide) hd)) ?_
  show P (10, [some (.ref 68), some (.int v1), some (.int v2)], [.int (md_isMan v1 (mj_up m 68 2 (.int 0)))], (110, x), (mj_up m 68 2 (.int 0)))
  refine mj_gcp hC 1 ?_
  show P (mj_pick 34 13 ((md_isMan v1 (mj_up m 68 2 (.int 0))) = 0), [some (.ref 68), some (.int v1), some (.int v2)], [], (110, x), (mj_up m 68 2 (.int 0)))
  refine mj_pbr (fun c1 => ?_) (fun c1 => ?_)
  · rw [if_pos c1] at h
    refine mj_gcp hC 1 ?_
    show P (35, [some (.ref 68), some (.int v1), some (.int v2)], [.int (-1)], (110, x), (mj_up m 68 2 (.int 0)))
    cases h
    exact mj_pret hC rfl hR
  · rw [if_neg c1] at h
    refine mj_gcp hC 2 ?_
    show P (15, [some (.ref 68), some (.int v1), some (.int v2)], [.int v2, .ref 68], (110, x), (mj_up m 68 2 (.int 0)))
    refine mj_pcall hC rfl (md_isMan_x (Nat.le_trans (by decide) hd)) ?_
    show P (18, [some (.ref 68), some (.int v1), some (.int v2)], [.int (md_isMan v2 (mj_up m 68 2 (.int 0)))], (110, x), (mj_up m 68 2 (.int 0)))
    refine mj_gcp hC 1 ?_
    show P (mj_pick 34 21 ((md_isMan v2 (mj_up m 68 2 (.int 0))) = 0), [some (.ref 68), some (.int v1), some (.int v2)], [], (110, x), (mj_up m 68 2 (.int 0)))
    refine mj_pbr (fun c2 => ?_) (fun c2 => ?_)
    · rw [if_pos c2] at h
      refine mj_gcp hC 1 ?_
      show P (35, [some (.ref 68), some (.int v1), some (.int v2)], [.int (-1)], (110, x), (mj_up m 68 2 (.int 0)))
      cases h
      exact mj_pret hC rfl hR
    · rw [if_neg c2] at h
      obtain ⟨k3, h⟩ := mj_ifn h
      refine mj_gcp hC 9 ?_
      show _ ∧ (P (35, [some (.ref 68), some (.int v1), some (.int v2)], [.int (((mj_I (m 76 v1.toNatClampNeg)) >>> (v2 &&& 31)) &&& 1)], (110, x), (mj_up m 68 2 (.int 0))))
      refine And.intro k3 (?_)
      cases h
      exact mj_pret hC rfl hR
set_option maxRecDepth 20000 in
theorem md_tie_x {Ls tp ip x d : Nat} {Z : mj_X} (hd : 2 ≤ d) {v1 : Int32} {v2 : Int32} {m : mj_M} {r : (Int32 × mj_M)} (h : md_tie v1 v2 m = some r) : mj_Ex false (mj_sh Ls) (mj_rf tp ip) Z d 225 [.ref 68, .int v1, .int v2] (110, x) m (some (.int r.1)) (110, x) r.2 := by
  exact mj_Ex_of (cd := mj_cd_225) (L := [some (.ref 68), some (.int v1), some (.int v2)]) (by omega) (by decide) rfl (Nat.le_of_ble_eq_true rfl) rfl (fun P hC => md_tie_p hC (by omega) h ⟨rfl, rfl, rfl⟩)
def md_beat   (m : mj_M) : Option (Int32 × mj_M) :=
  (md_plainTried (mj_up m 68 2 (.int 0))).bind fun q1 =>
  (md_beatOf 0 0 q1).bind fun q2 =>
  some (q2, q1)
set_option maxRecDepth 20000 in
theorem md_beat_p {Ls tp ip x d : Nat} {Z : mj_X} {R : Option Value → mj_G → mj_M → Prop} {P : mj_K → Prop} (hC : mj_cls false (mj_sh Ls) (mj_rf tp ip) mj_dv mj_cd_226 (mj_Ex false (mj_sh Ls) (mj_rf tp ip) Z d) R P) (hd : 2 ≤ d)  {m : mj_M} {r : (Int32 × mj_M)} (h : md_beat m = some r) (hR : R (some (.int r.1)) (110, x) r.2) : P (0, [some (.ref 68)], [], (110, x), m) := by
  unfold md_beat at h
  refine mj_gcp hC 4 ?_
  show P (6, [some (.ref 68)], [.ref 68], (110, x), (mj_up m 68 2 (.int 0)))
  obtain ⟨q1, eq1, h⟩ := mj_bnd h
  refine mj_pcall hC rfl (md_plainTried_x (Nat.le_trans (by decide) hd) eq1) ?_
  show P (9, [some (.ref 68)], [], (110, x), q1)
  refine mj_gcp hC 3 ?_
  show P (12, [some (.ref 68)], [.int 0, .int 0, .ref 68], (110, x), q1)
  obtain ⟨q2, eq2, h⟩ := mj_bnd h
  refine mj_pcall hC rfl (md_beatOf_x (Nat.le_trans (by decide) hd) eq2) ?_
  show P (15, [some (.ref 68)], [.int q2], (110, x), q1)
  cases h
  exact mj_pret hC rfl hR
set_option maxRecDepth 20000 in
theorem md_beat_x {Ls tp ip x d : Nat} {Z : mj_X} (hd : 3 ≤ d)  {m : mj_M} {r : (Int32 × mj_M)} (h : md_beat m = some r) : mj_Ex false (mj_sh Ls) (mj_rf tp ip) Z d 226 [.ref 68] (110, x) m (some (.int r.1)) (110, x) r.2 := by
  exact mj_Ex_of (cd := mj_cd_226) (L := [some (.ref 68)]) (by omega) (by decide) rfl (Nat.le_of_ble_eq_true rfl) rfl (fun P hC => md_beat_p hC (by omega) h ⟨rfl, rfl, rfl⟩)
def md_law_j96  (v1 : Int32) (s1 : Int32) (s2 : Int32) (s3 : Int32) (s4 : Int32) (m : mj_M) : Option (Int64 × mj_M) :=
  (md_layNames s1 s2 s3 s4 m).bind fun q13 =>
  (md_lawOf v1 q13).bind fun q14 =>
  (if (mj_I (q14.2 68 50)) = 0 then some (q14.1, q14.2) else
  some ((-9223372036854775808), q14.2))
def md_law_j87  (v1 : Int32) (v2 : Int32) (s1 : Int32) (s2 : Int32) (s3 : Int32) (m : mj_M) : Option (Int64 × mj_M) :=
  (if v1 = 0 then md_law_j96 v1 s1 s2 s3 v2 m else
  md_law_j96 v1 s1 s2 s3 (-1) m)
def md_law_j52  (v1 : Int32) (v2 : Int32)  (m : mj_M) : Option (Int64 × mj_M) :=
  (md_plainTried m).bind fun q8 =>
  (md_beatOf 0 0 q8).bind fun q9 =>
  (if v1 = 0 then (if v2 < 0 ∨ 16 ≤ (v2 : Int32).toNatClampNeg then none else
  md_law_j87 v1 v2 0 q9 (mj_I (q8 78 v2.toNatClampNeg)) q8) else
  (if v1 = 2 then md_law_j87 v1 v2 0 q9 v2 q8 else
  md_law_j87 v1 v2 0 q9 (-1) q8))
def md_law_j35  (v1 : Int32) (v2 : Int32)  (m : mj_M) : Option (Int64 × mj_M) :=
  (if v1 = 2 then (if (md_isMan v2 m) = 0 then some ((-9223372036854775808), m) else
  md_law_j52 v1 v2 m) else
  md_law_j52 v1 v2 m)
def md_law  (v1 : Int32) (v2 : Int32) (m : mj_M) : Option (Int64 × mj_M) :=
  (if (md_isIn v1 0 2 (mj_up m 68 2 (.int 0))) = 0 then some ((-9223372036854775808), (mj_up m 68 2 (.int 0))) else
  (if v1 < 0 ∨ 6 ≤ (v1 : Int32).toNatClampNeg then none else
  (if (mj_I (m 83 v1.toNatClampNeg)) = 0 then some ((-9223372036854775808), (mj_up m 68 2 (.int 0))) else
  (if v1 = 0 then (if (md_isWork v2 (mj_up m 68 2 (.int 0))) = 0 then some ((-9223372036854775808), (mj_up m 68 2 (.int 0))) else
  md_law_j35 v1 v2 (mj_up m 68 2 (.int 0))) else
  md_law_j35 v1 v2 (mj_up m 68 2 (.int 0))))))
set_option maxRecDepth 20000 in
theorem md_law_j96_x {Ls tp ip x d : Nat} {Z : mj_X} {R : Option Value → mj_G → mj_M → Prop} {P : mj_K → Prop} (hC : mj_cls false (mj_sh Ls) (mj_rf tp ip) mj_dv mj_cd_227 (mj_Ex false (mj_sh Ls) (mj_rf tp ip) Z d) R P) (hd : 3 ≤ d) {v1 : Int32} {s1 : Int32} {s2 : Int32} {s3 : Int32} {s4 : Int32} {m : mj_M} {r : (Int64 × mj_M)} (h : md_law_j96 v1 s1 s2 s3 s4 m = some r) (hR : R (some (.long r.1)) (110, x) r.2) : P (96, [some (.ref 68), some (.int v1), none, none, none], [.int s4, .int s3, .int s2, .int s1, .ref 68], (110, x), m) := by
  unfold md_law_j96 at h
  obtain ⟨q13, eq13, h⟩ := mj_bnd h
  refine mj_pcall hC rfl (md_layNames_x (Nat.le_trans (by decide) hd) eq13) ?_
  show P (99, [some (.ref 68), some (.int v1), none, none, none], [], (110, x), q13)
  refine mj_gcp hC 2 ?_
  show P (101, [some (.ref 68), some (.int v1), none, none, none], [.int v1, .ref 68], (110, x), q13)
  obtain ⟨q14, eq14, h⟩ := mj_bnd h
  refine mj_pcall hC rfl (md_lawOf_x (Nat.le_trans (by decide) hd) eq14) ?_
  show P (104, [some (.ref 68), some (.int v1), none, none, none], [.long q14.1], (110, x), q14.2)
  refine mj_gcp hC 4 ?_
  show P (mj_pick 118 112 ((mj_I (q14.2 68 50)) = 0), [some (.ref 68), some (.int v1), none, some (.long q14.1), none], [], (110, x), q14.2)
  refine mj_pbr (fun c15 => ?_) (fun c15 => ?_)
  · rw [if_pos c15] at h
    refine mj_gcp hC 1 ?_
    show P (119, [some (.ref 68), some (.int v1), none, some (.long q14.1), none], [.long q14.1], (110, x), q14.2)
    cases h
    exact mj_pret hC rfl hR
  · rw [if_neg c15] at h
    refine mj_gcp hC 2 ?_
    show P (119, [some (.ref 68), some (.int v1), none, some (.long q14.1), none], [.long (-9223372036854775808)], (110, x), q14.2)
    cases h
    exact mj_pret hC rfl hR
set_option maxRecDepth 20000 in
theorem md_law_j87_x {Ls tp ip x d : Nat} {Z : mj_X} {R : Option Value → mj_G → mj_M → Prop} {P : mj_K → Prop} (hC : mj_cls false (mj_sh Ls) (mj_rf tp ip) mj_dv mj_cd_227 (mj_Ex false (mj_sh Ls) (mj_rf tp ip) Z d) R P) (hd : 3 ≤ d) {v1 : Int32} {v2 : Int32} {s1 : Int32} {s2 : Int32} {s3 : Int32} {m : mj_M} {r : (Int64 × mj_M)} (h : md_law_j87 v1 v2 s1 s2 s3 m = some r) (hR : R (some (.long r.1)) (110, x) r.2) : P (87, [some (.ref 68), some (.int v1), some (.int v2), none, none], [.int s3, .int s2, .int s1, .ref 68], (110, x), m) := by
  unfold md_law_j87 at h
  refine mj_gcp hC 2 ?_
  show P (mj_pick 91 95 (v1 = 0), [some (.ref 68), some (.int v1), some (.int v2), none, none], [.int s3, .int s2, .int s1, .ref 68], (110, x), m)
  refine mj_pbr (fun c12 => ?_) (fun c12 => ?_)
  · rw [if_pos c12] at h
    refine mj_gcp hC 2 ?_
    show P (96, [some (.ref 68), some (.int v1), some (.int v2), none, none], [.int v2, .int s3, .int s2, .int s1, .ref 68], (110, x), m)
    exact mj_less hC (L0 := [some (.ref 68), some (.int v1), none, none, none]) (And.intro rfl (And.intro rfl trivial)) (md_law_j96_x hC hd h hR)
  · rw [if_neg c12] at h
    refine mj_gcp hC 1 ?_
    show P (96, [some (.ref 68), some (.int v1), some (.int v2), none, none], [.int (-1), .int s3, .int s2, .int s1, .ref 68], (110, x), m)
    exact mj_less hC (L0 := [some (.ref 68), some (.int v1), none, none, none]) (And.intro rfl (And.intro rfl trivial)) (md_law_j96_x hC hd h hR)
set_option maxRecDepth 20000 in
theorem md_law_j52_x {Ls tp ip x d : Nat} {Z : mj_X} {R : Option Value → mj_G → mj_M → Prop} {P : mj_K → Prop} (hC : mj_cls false (mj_sh Ls) (mj_rf tp ip) mj_dv mj_cd_227 (mj_Ex false (mj_sh Ls) (mj_rf tp ip) Z d) R P) (hd : 3 ≤ d) {v1 : Int32} {v2 : Int32}  {m : mj_M} {r : (Int64 × mj_M)} (h : md_law_j52 v1 v2 m = some r) (hR : R (some (.long r.1)) (110, x) r.2) : P (52, [some (.ref 68), some (.int v1), some (.int v2), none, none], [], (110, x), m) := by
  unfold md_law_j52 at h
  refine mj_gcp hC 1 ?_
  show P (53, [some (.ref 68), some (.int v1), some (.int v2), none, none], [.ref 68], (110, x), m)
  obtain ⟨q8, eq8, h⟩ := mj_bnd h
  refine mj_pcall hC rfl (md_plainTried_x (Nat.le_trans (by decide) hd) eq8) ?_
  show P (56, [some (.ref 68), some (.int v1), some (.int v2), none, none], [], (110, x), q8)
  refine mj_gcp hC 5 ?_
  show P (61, [some (.ref 68), some (.int v1), some (.int v2), none, none], [.int 0, .int 0, .ref 68, .int 0, .ref 68], (110, x), q8)
  obtain ⟨q9, eq9, h⟩ := mj_bnd h
  refine mj_pcall hC rfl (md_beatOf_x (Nat.le_trans (by decide) hd) eq9) ?_
  show P (64, [some (.ref 68), some (.int v1), some (.int v2), none, none], [.int q9, .int 0, .ref 68], (110, x), q8)
  refine mj_gcp hC 2 ?_
  show P (mj_pick 68 77 (v1 = 0), [some (.ref 68), some (.int v1), some (.int v2), none, none], [.int q9, .int 0, .ref 68], (110, x), q8)
  refine mj_pbr (fun c10 => ?_) (fun c10 => ?_)
  · rw [if_pos c10] at h
    obtain ⟨k11, h⟩ := mj_ifn h
    refine mj_gcp hC 5 ?_
    show _ ∧ (P (87, [some (.ref 68), some (.int v1), some (.int v2), none, none], [.int (mj_I (q8 78 v2.toNatClampNeg)), .int q9, .int 0, .ref 68], (110, x), q8))
    refine And.intro k11 (?_)
    exact mj_less hC (L0 := [some (.ref 68), some (.int v1), some (.int v2), none, none]) (And.intro rfl (And.intro rfl (And.intro rfl trivial))) (md_law_j87_x hC hd h hR)
  · rw [if_neg c10] at h
    refine mj_gcp hC 3 ?_
    show P (mj_pick 82 86 (v1 = 2), [some (.ref 68), some (.int v1), some (.int v2), none, none], [.int q9, .int 0, .ref 68], (110, x), q8)
    refine mj_pbr (fun c16 => ?_) (fun c16 => ?_)
    · rw [if_pos c16] at h
      refine mj_gcp hC 2 ?_
      show P (87, [some (.ref 68), some (.int v1), some (.int v2), none, none], [.int v2, .int q9, .int 0, .ref 68], (110, x), q8)
      exact mj_less hC (L0 := [some (.ref 68), some (.int v1), some (.int v2), none, none]) (And.intro rfl (And.intro rfl (And.intro rfl trivial))) (md_law_j87_x hC hd h hR)
    · rw [if_neg c16] at h
      refine mj_gcp hC 1 ?_
      show P (87, [some (.ref 68), some (.int v1), some (.int v2), none, none], [.int (-1), .int q9, .int 0, .ref 68], (110, x), q8)
      exact mj_less hC (L0 := [some (.ref 68), some (.int v1), some (.int v2), none, none]) (And.intro rfl (And.intro rfl (And.intro rfl trivial))) (md_law_j87_x hC hd h hR)
set_option maxRecDepth 20000 in
theorem md_law_j35_x {Ls tp ip x d : Nat} {Z : mj_X} {R : Option Value → mj_G → mj_M → Prop} {P : mj_K → Prop} (hC : mj_cls false (mj_sh Ls) (mj_rf tp ip) mj_dv mj_cd_227 (mj_Ex false (mj_sh Ls) (mj_rf tp ip) Z d) R P) (hd : 3 ≤ d) {v1 : Int32} {v2 : Int32}  {m : mj_M} {r : (Int64 × mj_M)} (h : md_law_j35 v1 v2 m = some r) (hR : R (some (.long r.1)) (110, x) r.2) : P (35, [some (.ref 68), some (.int v1), some (.int v2), none, none], [], (110, x), m) := by
  unfold md_law_j35 at h
  refine mj_gcp hC 3 ?_
  show P (mj_pick 40 52 (v1 = 2), [some (.ref 68), some (.int v1), some (.int v2), none, none], [], (110, x), m)
  refine mj_pbr (fun c6 => ?_) (fun c6 => ?_)
  · rw [if_pos c6] at h
    refine mj_gcp hC 2 ?_
    show P (42, [some (.ref 68), some (.int v1), some (.int v2), none, none], [.int v2, .ref 68], (110, x), m)
    refine mj_pcall hC rfl (md_isMan_x (Nat.le_trans (by decide) hd)) ?_
    show P (45, [some (.ref 68), some (.int v1), some (.int v2), none, none], [.int (md_isMan v2 m)], (110, x), m)
    refine mj_gcp hC 1 ?_
    show P (mj_pick 48 52 ((md_isMan v2 m) = 0), [some (.ref 68), some (.int v1), some (.int v2), none, none], [], (110, x), m)
    refine mj_pbr (fun c7 => ?_) (fun c7 => ?_)
    · rw [if_pos c7] at h
      refine mj_gcp hC 1 ?_
      show P (51, [some (.ref 68), some (.int v1), some (.int v2), none, none], [.long (-9223372036854775808)], (110, x), m)
      cases h
      exact mj_pret hC rfl hR
    · rw [if_neg c7] at h
      exact mj_less hC (L0 := [some (.ref 68), some (.int v1), some (.int v2), none, none]) (And.intro rfl (And.intro rfl (And.intro rfl trivial))) (md_law_j52_x hC hd h hR)
  · rw [if_neg c6] at h
    exact mj_less hC (L0 := [some (.ref 68), some (.int v1), some (.int v2), none, none]) (And.intro rfl (And.intro rfl (And.intro rfl trivial))) (md_law_j52_x hC hd h hR)
set_option maxRecDepth 20000 in
theorem md_law_p {Ls tp ip x d : Nat} {Z : mj_X} {R : Option Value → mj_G → mj_M → Prop} {P : mj_K → Prop} (hC : mj_cls false (mj_sh Ls) (mj_rf tp ip) mj_dv mj_cd_227 (mj_Ex false (mj_sh Ls) (mj_rf tp ip) Z d) R P) (hd : 3 ≤ d) {v1 : Int32} {v2 : Int32} {m : mj_M} {r : (Int64 × mj_M)} (h : md_law v1 v2 m = some r) (hR : R (some (.long r.1)) (110, x) r.2) : P (0, [some (.ref 68), some (.int v1), some (.int v2), none, none], [], (110, x), m) := by
  unfold md_law at h
  refine mj_gcp hC 6 ?_
  show P (8, [some (.ref 68), some (.int v1), some (.int v2), none, none], [.int 2, .int 0, .int v1], (110, x), (mj_up m 68 2 (.int 0)))
  refine mj_pcall hC rfl (md_isIn_x (Nat.le_trans (by decide) hd)) ?_
  show P (11, [some (.ref 68), some (.int v1), some (.int v2), none, none], [.int (md_isIn v1 0 2 (mj_up m 68 2 (.int 0)))], (110, x), (mj_up m 68 2 (.int 0)))
  refine mj_gcp hC 1 ?_
  show P (mj_pick 48 14 ((md_isIn v1 0 2 (mj_up m 68 2 (.int 0))) = 0), [some (.ref 68), some (.int v1), some (.int v2), none, none], [], (110, x), (mj_up m 68 2 (.int 0)))
  refine mj_pbr (fun c1 => ?_) (fun c1 => ?_)
  · rw [if_pos c1] at h
    refine mj_gcp hC 1 ?_
    show P (51, [some (.ref 68), some (.int v1), some (.int v2), none, none], [.long (-9223372036854775808)], (110, x), (mj_up m 68 2 (.int 0)))
    cases h
    exact mj_pret hC rfl hR
  · rw [if_neg c1] at h
    obtain ⟨k2, h⟩ := mj_ifn h
    refine mj_gcp hC 5 ?_
    show _ ∧ (P (mj_pick 48 23 ((mj_I (m 83 v1.toNatClampNeg)) = 0), [some (.ref 68), some (.int v1), some (.int v2), none, none], [], (110, x), (mj_up m 68 2 (.int 0))))
    refine And.intro k2 (?_)
    refine mj_pbr (fun c3 => ?_) (fun c3 => ?_)
    · rw [if_pos c3] at h
      refine mj_gcp hC 1 ?_
      show P (51, [some (.ref 68), some (.int v1), some (.int v2), none, none], [.long (-9223372036854775808)], (110, x), (mj_up m 68 2 (.int 0)))
      cases h
      exact mj_pret hC rfl hR
    · rw [if_neg c3] at h
      refine mj_gcp hC 2 ?_
      show P (mj_pick 27 35 (v1 = 0), [some (.ref 68), some (.int v1), some (.int v2), none, none], [], (110, x), (mj_up m 68 2 (.int 0)))
      refine mj_pbr (fun c4 => ?_) (fun c4 => ?_)
      · rw [if_pos c4] at h
        refine mj_gcp hC 2 ?_
        show P (29, [some (.ref 68), some (.int v1), some (.int v2), none, none], [.int v2, .ref 68], (110, x), (mj_up m 68 2 (.int 0)))
        refine mj_pcall hC rfl (md_isWork_x (Nat.le_trans (by decide) hd)) ?_
        show P (32, [some (.ref 68), some (.int v1), some (.int v2), none, none], [.int (md_isWork v2 (mj_up m 68 2 (.int 0)))], (110, x), (mj_up m 68 2 (.int 0)))
        refine mj_gcp hC 1 ?_
        show P (mj_pick 48 35 ((md_isWork v2 (mj_up m 68 2 (.int 0))) = 0), [some (.ref 68), some (.int v1), some (.int v2), none, none], [], (110, x), (mj_up m 68 2 (.int 0)))
        refine mj_pbr (fun c5 => ?_) (fun c5 => ?_)
        · rw [if_pos c5] at h
          refine mj_gcp hC 1 ?_
          show P (51, [some (.ref 68), some (.int v1), some (.int v2), none, none], [.long (-9223372036854775808)], (110, x), (mj_up m 68 2 (.int 0)))
          cases h
          exact mj_pret hC rfl hR
        · rw [if_neg c5] at h
          exact mj_less hC (L0 := [some (.ref 68), some (.int v1), some (.int v2), none, none]) (And.intro rfl (And.intro rfl (And.intro rfl trivial))) (md_law_j35_x hC hd h hR)
      · rw [if_neg c4] at h
        exact mj_less hC (L0 := [some (.ref 68), some (.int v1), some (.int v2), none, none]) (And.intro rfl (And.intro rfl (And.intro rfl trivial))) (md_law_j35_x hC hd h hR)
set_option maxRecDepth 20000 in
theorem md_law_x {Ls tp ip x d : Nat} {Z : mj_X} (hd : 4 ≤ d) {v1 : Int32} {v2 : Int32} {m : mj_M} {r : (Int64 × mj_M)} (h : md_law v1 v2 m = some r) : mj_Ex false (mj_sh Ls) (mj_rf tp ip) Z d 227 [.ref 68, .int v1, .int v2] (110, x) m (some (.long r.1)) (110, x) r.2 := by
  exact mj_Ex_of (cd := mj_cd_227) (L := [some (.ref 68), some (.int v1), some (.int v2), none, none]) (by omega) (by decide) rfl (Nat.le_of_ble_eq_true rfl) rfl (fun P hC => md_law_p hC (by omega) h ⟨rfl, rfl, rfl⟩)
def md_go_l42  (v1 : Int32) (s42 : (Int32 × mj_M)) : Option (Nat × (Int32 × mj_M)) :=
  (if v1 ≤ s42.1 then some (1, (s42.1, s42.2)) else
  (md_hourGoes 0 s42.2).bind fun q5 =>
  some (0, ((s42.1 + 1), q5)))
def md_go_j76   (s1 : Int32) (m : mj_M) : Option (Int32 × mj_M) :=
  some ((mj_I (m 100 (0 : Int32).toNatClampNeg)), (mj_up m 68 75 (.int s1)))
def md_go  (v1 : Int32) (m : mj_M) : Option (Int32 × mj_M) :=
  (if (md_isIn v1 0 99 (mj_up m 68 2 (.int 0))) = 0 then some ((-1), (mj_up m 68 2 (.int 0))) else
  (if ((mj_I (m 100 (0 : Int32).toNatClampNeg)) + v1) ≤ 9900 then (md_plainTried (mj_up m 68 2 (.int 0))).bind fun q3 =>
  (mj_loop (md_go_l42 v1) mj_F (0, (mj_up q3 68 63 (.int 1)))).bind fun q6 =>
  (if v1 ≤ 0 then md_go_j76 (mj_I (q6.2.2 68 75)) (mj_up q6.2.2 68 63 (.int 0)) else
  md_go_j76 0 (mj_up q6.2.2 68 63 (.int 0))) else
  some ((-1), (mj_up m 68 2 (.int 0)))))
set_option maxRecDepth 20000 in
theorem md_go_l42_x {Ls tp ip x d : Nat} {Z : mj_X} {R : Option Value → mj_G → mj_M → Prop} {P : mj_K → Prop} (hC : mj_cls false (mj_sh Ls) (mj_rf tp ip) mj_dv mj_cd_232 (mj_Ex false (mj_sh Ls) (mj_rf tp ip) Z d) R P) (hd : 7 ≤ d) {v1 : Int32} (s42 : (Int32 × mj_M)) {t : Nat} {w : (Int32 × mj_M)} (h : md_go_l42 v1 s42 = some (t, w)) (h0 : t = 0 → P (42, [some (.ref 68), some (.int v1), some (.int w.1)], [], (110, x), w.2)) (h1 : t = 1 → P (58, [some (.ref 68), some (.int v1), none], [], (110, x), w.2)) : P (42, [some (.ref 68), some (.int v1), some (.int s42.1)], [], (110, x), s42.2) := by
  unfold md_go_l42 at h
  refine mj_gcp hC 3 ?_
  show P (mj_pick 58 47 (v1 ≤ s42.1), [some (.ref 68), some (.int v1), some (.int s42.1)], [], (110, x), s42.2)
  refine mj_pbr (fun c4 => ?_) (fun c4 => ?_)
  · rw [if_pos c4] at h
    cases h
    exact mj_less hC (L0 := [some (.ref 68), some (.int v1), none]) (And.intro rfl (And.intro rfl trivial)) (h1 rfl)
  · rw [if_neg c4] at h
    refine mj_gcp hC 2 ?_
    show P (49, [some (.ref 68), some (.int v1), some (.int s42.1)], [.int 0, .ref 68], (110, x), s42.2)
    obtain ⟨q5, eq5, h⟩ := mj_bnd h
    refine mj_pcall hC rfl (md_hourGoes_x (Nat.le_trans (by decide) hd) eq5) ?_
    show P (52, [some (.ref 68), some (.int v1), some (.int s42.1)], [], (110, x), q5)
    refine mj_gcp hC 2 ?_
    show P (42, [some (.ref 68), some (.int v1), some (.int (s42.1 + 1))], [], (110, x), q5)
    cases h
    exact mj_less hC (L0 := [some (.ref 68), some (.int v1), some (.int (s42.1 + 1))]) (And.intro rfl (And.intro rfl (And.intro rfl trivial))) (h0 rfl)
set_option maxRecDepth 20000 in
theorem md_go_j76_x {Ls tp ip x d : Nat} {Z : mj_X} {R : Option Value → mj_G → mj_M → Prop} {P : mj_K → Prop} (hC : mj_cls false (mj_sh Ls) (mj_rf tp ip) mj_dv mj_cd_232 (mj_Ex false (mj_sh Ls) (mj_rf tp ip) Z d) R P) (hd : 7 ≤ d)  {s1 : Int32} {m : mj_M} {r : (Int32 × mj_M)} (h : md_go_j76 s1 m = some r) (hR : R (some (.int r.1)) (110, x) r.2) : P (76, [some (.ref 68), none, none], [.int s1, .ref 68], (110, x), m) := by
  unfold md_go_j76 at h
  refine mj_gcp hC 5 ?_
  show _ ∧ (P (85, [some (.ref 68), none, none], [.int (mj_I (m 100 (0 : Int32).toNatClampNeg))], (110, x), (mj_up m 68 75 (.int s1))))
  refine And.intro (show ¬ ((0 : Int32) < 0 ∨ 2 ≤ (0 : Int32).toNatClampNeg) by decide) (?_)
  cases h
  exact mj_pret hC rfl hR
set_option maxRecDepth 20000 in
theorem md_go_p {Ls tp ip x d : Nat} {Z : mj_X} {R : Option Value → mj_G → mj_M → Prop} {P : mj_K → Prop} (hC : mj_cls false (mj_sh Ls) (mj_rf tp ip) mj_dv mj_cd_232 (mj_Ex false (mj_sh Ls) (mj_rf tp ip) Z d) R P) (hd : 7 ≤ d) {v1 : Int32} {m : mj_M} {r : (Int32 × mj_M)} (h : md_go v1 m = some r) (hR : R (some (.int r.1)) (110, x) r.2) : P (0, [some (.ref 68), some (.int v1), none], [], (110, x), m) := by
  unfold md_go at h
  refine mj_gcp hC 6 ?_
  show P (9, [some (.ref 68), some (.int v1), none], [.int 99, .int 0, .int v1], (110, x), (mj_up m 68 2 (.int 0)))
  refine mj_pcall hC rfl (md_isIn_x (Nat.le_trans (by decide) hd)) ?_
  show P (12, [some (.ref 68), some (.int v1), none], [.int (md_isIn v1 0 99 (mj_up m 68 2 (.int 0)))], (110, x), (mj_up m 68 2 (.int 0)))
  refine mj_gcp hC 1 ?_
  show P (mj_pick 29 15 ((md_isIn v1 0 99 (mj_up m 68 2 (.int 0))) = 0), [some (.ref 68), some (.int v1), none], [], (110, x), (mj_up m 68 2 (.int 0)))
  refine mj_pbr (fun c1 => ?_) (fun c1 => ?_)
  · rw [if_pos c1] at h
    refine mj_gcp hC 1 ?_
    show P (30, [some (.ref 68), some (.int v1), none], [.int (-1)], (110, x), (mj_up m 68 2 (.int 0)))
    cases h
    exact mj_pret hC rfl hR
  · rw [if_neg c1] at h
    refine mj_gcp hC 8 ?_
    show _ ∧ (P (mj_pick 31 29 (((mj_I (m 100 (0 : Int32).toNatClampNeg)) + v1) ≤ 9900), [some (.ref 68), some (.int v1), none], [], (110, x), (mj_up m 68 2 (.int 0))))
    refine And.intro (show ¬ ((0 : Int32) < 0 ∨ 2 ≤ (0 : Int32).toNatClampNeg) by decide) (?_)
    refine mj_pbr (fun c2 => ?_) (fun c2 => ?_)
    · rw [if_pos c2] at h
      refine mj_gcp hC 1 ?_
      show P (32, [some (.ref 68), some (.int v1), none], [.ref 68], (110, x), (mj_up m 68 2 (.int 0)))
      obtain ⟨q3, eq3, h⟩ := mj_bnd h
      refine mj_pcall hC rfl (md_plainTried_x (Nat.le_trans (by decide) hd) eq3) ?_
      show P (35, [some (.ref 68), some (.int v1), none], [], (110, x), q3)
      refine mj_gcp hC 5 ?_
      show P (42, [some (.ref 68), some (.int v1), some (.int 0)], [], (110, x), (mj_up q3 68 63 (.int 1)))
      obtain ⟨q6, eq6, h⟩ := mj_bnd h
      refine mj_less hC (L0 := [some (.ref 68), some (.int v1), some (.int 0)]) (And.intro rfl (And.intro rfl (And.intro rfl trivial))) ?_
      refine mj_loop_P (A := fun z42 => P (42, [some (.ref 68), some (.int v1), some (.int z42.1)], [], (110, x), z42.2)) (E := fun _ z42 => P (58, [some (.ref 68), some (.int v1), none], [], (110, x), z42.2)) (fun zz t w hb h0 h1 => md_go_l42_x hC hd zz hb h0 (fun ht => h1 0 ht)) mj_F _ q6 eq6 ?_
      refine mj_gcp hC 6 ?_
      show P (mj_pick 72 68 (v1 ≤ 0), [some (.ref 68), some (.int v1), none], [.ref 68], (110, x), (mj_up q6.2.2 68 63 (.int 0)))
      refine mj_pbr (fun c7 => ?_) (fun c7 => ?_)
      · rw [if_pos c7] at h
        refine mj_gcp hC 2 ?_
        show P (76, [some (.ref 68), some (.int v1), none], [.int (mj_I (q6.2.2 68 75)), .ref 68], (110, x), (mj_up q6.2.2 68 63 (.int 0)))
        exact mj_less hC (L0 := [some (.ref 68), none, none]) (And.intro rfl trivial) (md_go_j76_x hC hd h hR)
      · rw [if_neg c7] at h
        refine mj_gcp hC 2 ?_
        show P (76, [some (.ref 68), some (.int v1), none], [.int 0, .ref 68], (110, x), (mj_up q6.2.2 68 63 (.int 0)))
        exact mj_less hC (L0 := [some (.ref 68), none, none]) (And.intro rfl trivial) (md_go_j76_x hC hd h hR)
    · rw [if_neg c2] at h
      refine mj_gcp hC 1 ?_
      show P (30, [some (.ref 68), some (.int v1), none], [.int (-1)], (110, x), (mj_up m 68 2 (.int 0)))
      cases h
      exact mj_pret hC rfl hR
set_option maxRecDepth 20000 in
theorem md_go_x {Ls tp ip x d : Nat} {Z : mj_X} (hd : 8 ≤ d) {v1 : Int32} {m : mj_M} {r : (Int32 × mj_M)} (h : md_go v1 m = some r) : mj_Ex false (mj_sh Ls) (mj_rf tp ip) Z d 232 [.ref 68, .int v1] (110, x) m (some (.int r.1)) (110, x) r.2 := by
  exact mj_Ex_of (cd := mj_cd_232) (L := [some (.ref 68), some (.int v1), none]) (by omega) (by decide) rfl (Nat.le_of_ble_eq_true rfl) rfl (fun P hC => md_go_p hC (by omega) h ⟨rfl, rfl, rfl⟩)
def md_ahead_j52  (v1 : Int32) (v2 : Int32) (v3 : Int32)  (m : mj_M) : Option (Int32 × mj_M) :=
  (md_layTried m).bind fun q7 =>
  (md_goMany v1 q7).bind fun q8 =>
  (if v2 = 0 then (if ((8 : Int32) + v3) < 0 ∨ 16 ≤ (((8 : Int32) + v3) : Int32).toNatClampNeg then none else
  some ((mj_I (q8 93 ((8 : Int32) + v3).toNatClampNeg)), q8)) else
  (if v2 = 1 then (if ((6 : Int32) + v3) < 0 ∨ 12 ≤ (((6 : Int32) + v3) : Int32).toNatClampNeg then none else
  (if v3 < 0 ∨ 12 ≤ (v3 : Int32).toNatClampNeg then none else
  some (((mj_I (q8 95 ((6 : Int32) + v3).toNatClampNeg)) - (mj_I (q8 95 v3.toNatClampNeg))), q8))) else
  (if v2 = 2 then some ((mj_I (q8 98 (1 : Int32).toNatClampNeg)), q8) else
  (md_doneAll 1 q8).bind fun q15 =>
  (md_doneAll 0 q8).bind fun q16 =>
  some ((q15 - q16), q8))))
def md_ahead_j37  (v1 : Int32) (v2 : Int32) (v3 : Int32)  (m : mj_M) : Option (Int32 × mj_M) :=
  (if v2 = 1 then (if (md_isMan v3 m) = 0 then some ((-1), m) else
  md_ahead_j52 v1 v2 v3 m) else
  md_ahead_j52 v1 v2 v3 m)
def md_ahead  (v1 : Int32) (v2 : Int32) (v3 : Int32) (m : mj_M) : Option (Int32 × mj_M) :=
  (if (md_isIn v1 0 200 (mj_up m 68 2 (.int 0))) = 0 then some ((-1), (mj_up m 68 2 (.int 0))) else
  (if (md_isIn v2 0 3 (mj_up m 68 2 (.int 0))) = 0 then some ((-1), (mj_up m 68 2 (.int 0))) else
  (if v2 = 0 then (if (md_isWork v3 (mj_up m 68 2 (.int 0))) = 0 then some ((-1), (mj_up m 68 2 (.int 0))) else
  md_ahead_j37 v1 v2 v3 (mj_up m 68 2 (.int 0))) else
  md_ahead_j37 v1 v2 v3 (mj_up m 68 2 (.int 0)))))
set_option maxRecDepth 20000 in
theorem md_ahead_j52_x {Ls tp ip x d : Nat} {Z : mj_X} {R : Option Value → mj_G → mj_M → Prop} {P : mj_K → Prop} (hC : mj_cls false (mj_sh Ls) (mj_rf tp ip) mj_dv mj_cd_233 (mj_Ex false (mj_sh Ls) (mj_rf tp ip) Z d) R P) (hd : 8 ≤ d) {v1 : Int32} {v2 : Int32} {v3 : Int32}  {m : mj_M} {r : (Int32 × mj_M)} (h : md_ahead_j52 v1 v2 v3 m = some r) (hR : R (some (.int r.1)) (110, x) r.2) : P (52, [some (.ref 68), some (.int v1), some (.int v2), some (.int v3)], [], (110, x), m) := by
  unfold md_ahead_j52 at h
  refine mj_gcp hC 1 ?_
  show P (53, [some (.ref 68), some (.int v1), some (.int v2), some (.int v3)], [.ref 68], (110, x), m)
  obtain ⟨q7, eq7, h⟩ := mj_bnd h
  refine mj_pcall hC rfl (md_layTried_x (Nat.le_trans (by decide) hd) eq7) ?_
  show P (56, [some (.ref 68), some (.int v1), some (.int v2), some (.int v3)], [], (110, x), q7)
  refine mj_gcp hC 2 ?_
  show P (58, [some (.ref 68), some (.int v1), some (.int v2), some (.int v3)], [.int v1, .ref 68], (110, x), q7)
  obtain ⟨q8, eq8, h⟩ := mj_bnd h
  refine mj_pcall hC rfl (md_goMany_x (Nat.le_trans (by decide) hd) eq8) ?_
  show P (61, [some (.ref 68), some (.int v1), some (.int v2), some (.int v3)], [], (110, x), q8)
  refine mj_gcp hC 2 ?_
  show P ((mj_sw v2 [(0, 88), (1, 98), (2, 115)] 122), [some (.ref 68), some (.int v1), some (.int v2), some (.int v3)], [], (110, x), q8)
  refine mj_psw (fun c9 => ?_) (fun c9 => ?_)
  · rw [if_pos c9] at h
    obtain ⟨k10, h⟩ := mj_ifn h
    refine mj_gcp hC 6 ?_
    show _ ∧ (P (97, [some (.ref 68), some (.int v1), some (.int v2), some (.int v3)], [.int (mj_I (q8 93 ((8 : Int32) + v3).toNatClampNeg))], (110, x), q8))
    refine And.intro k10 (?_)
    cases h
    exact mj_pret hC rfl hR
  · rw [if_neg c9] at h
    refine mj_psw (fun c11 => ?_) (fun c11 => ?_)
    · rw [if_pos c11] at h
      obtain ⟨k12, h⟩ := mj_ifn h
      obtain ⟨k13, h⟩ := mj_ifn h
      refine mj_gcp hC 11 ?_
      show _ ∧ (_ ∧ (P (114, [some (.ref 68), some (.int v1), some (.int v2), some (.int v3)], [.int ((mj_I (q8 95 ((6 : Int32) + v3).toNatClampNeg)) - (mj_I (q8 95 v3.toNatClampNeg)))], (110, x), q8)))
      refine And.intro k12 (And.intro k13 (?_))
      cases h
      exact mj_pret hC rfl hR
    · rw [if_neg c11] at h
      refine mj_psw (fun c14 => ?_) (fun c14 => ?_)
      · rw [if_pos c14] at h
        refine mj_gcp hC 4 ?_
        show _ ∧ (P (121, [some (.ref 68), some (.int v1), some (.int v2), some (.int v3)], [.int (mj_I (q8 98 (1 : Int32).toNatClampNeg))], (110, x), q8))
        refine And.intro (show ¬ ((1 : Int32) < 0 ∨ 2 ≤ (1 : Int32).toNatClampNeg) by decide) (?_)
        cases h
        exact mj_pret hC rfl hR
      · rw [if_neg c14] at h
        show P (122, [some (.ref 68), some (.int v1), some (.int v2), some (.int v3)], [], (110, x), q8)
        refine mj_gcp hC 2 ?_
        show P (124, [some (.ref 68), some (.int v1), some (.int v2), some (.int v3)], [.int 1, .ref 68], (110, x), q8)
        obtain ⟨q15, eq15, h⟩ := mj_bnd h
        refine mj_pcall hC rfl (md_doneAll_x (Nat.le_trans (by decide) hd) eq15) ?_
        show P (127, [some (.ref 68), some (.int v1), some (.int v2), some (.int v3)], [.int q15], (110, x), q8)
        refine mj_gcp hC 2 ?_
        show P (129, [some (.ref 68), some (.int v1), some (.int v2), some (.int v3)], [.int 0, .ref 68, .int q15], (110, x), q8)
        obtain ⟨q16, eq16, h⟩ := mj_bnd h
        refine mj_pcall hC rfl (md_doneAll_x (Nat.le_trans (by decide) hd) eq16) ?_
        show P (132, [some (.ref 68), some (.int v1), some (.int v2), some (.int v3)], [.int q16, .int q15], (110, x), q8)
        refine mj_gcp hC 1 ?_
        show P (133, [some (.ref 68), some (.int v1), some (.int v2), some (.int v3)], [.int (q15 - q16)], (110, x), q8)
        cases h
        exact mj_pret hC rfl hR
set_option maxRecDepth 20000 in
theorem md_ahead_j37_x {Ls tp ip x d : Nat} {Z : mj_X} {R : Option Value → mj_G → mj_M → Prop} {P : mj_K → Prop} (hC : mj_cls false (mj_sh Ls) (mj_rf tp ip) mj_dv mj_cd_233 (mj_Ex false (mj_sh Ls) (mj_rf tp ip) Z d) R P) (hd : 8 ≤ d) {v1 : Int32} {v2 : Int32} {v3 : Int32}  {m : mj_M} {r : (Int32 × mj_M)} (h : md_ahead_j37 v1 v2 v3 m = some r) (hR : R (some (.int r.1)) (110, x) r.2) : P (37, [some (.ref 68), some (.int v1), some (.int v2), some (.int v3)], [], (110, x), m) := by
  unfold md_ahead_j37 at h
  refine mj_gcp hC 3 ?_
  show P (mj_pick 42 52 (v2 = 1), [some (.ref 68), some (.int v1), some (.int v2), some (.int v3)], [], (110, x), m)
  refine mj_pbr (fun c5 => ?_) (fun c5 => ?_)
  · rw [if_pos c5] at h
    refine mj_gcp hC 2 ?_
    show P (44, [some (.ref 68), some (.int v1), some (.int v2), some (.int v3)], [.int v3, .ref 68], (110, x), m)
    refine mj_pcall hC rfl (md_isMan_x (Nat.le_trans (by decide) hd)) ?_
    show P (47, [some (.ref 68), some (.int v1), some (.int v2), some (.int v3)], [.int (md_isMan v3 m)], (110, x), m)
    refine mj_gcp hC 1 ?_
    show P (mj_pick 50 52 ((md_isMan v3 m) = 0), [some (.ref 68), some (.int v1), some (.int v2), some (.int v3)], [], (110, x), m)
    refine mj_pbr (fun c6 => ?_) (fun c6 => ?_)
    · rw [if_pos c6] at h
      refine mj_gcp hC 1 ?_
      show P (51, [some (.ref 68), some (.int v1), some (.int v2), some (.int v3)], [.int (-1)], (110, x), m)
      cases h
      exact mj_pret hC rfl hR
    · rw [if_neg c6] at h
      exact mj_less hC (L0 := [some (.ref 68), some (.int v1), some (.int v2), some (.int v3)]) (And.intro rfl (And.intro rfl (And.intro rfl (And.intro rfl trivial)))) (md_ahead_j52_x hC hd h hR)
  · rw [if_neg c5] at h
    exact mj_less hC (L0 := [some (.ref 68), some (.int v1), some (.int v2), some (.int v3)]) (And.intro rfl (And.intro rfl (And.intro rfl (And.intro rfl trivial)))) (md_ahead_j52_x hC hd h hR)
set_option maxRecDepth 20000 in
theorem md_ahead_p {Ls tp ip x d : Nat} {Z : mj_X} {R : Option Value → mj_G → mj_M → Prop} {P : mj_K → Prop} (hC : mj_cls false (mj_sh Ls) (mj_rf tp ip) mj_dv mj_cd_233 (mj_Ex false (mj_sh Ls) (mj_rf tp ip) Z d) R P) (hd : 8 ≤ d) {v1 : Int32} {v2 : Int32} {v3 : Int32} {m : mj_M} {r : (Int32 × mj_M)} (h : md_ahead v1 v2 v3 m = some r) (hR : R (some (.int r.1)) (110, x) r.2) : P (0, [some (.ref 68), some (.int v1), some (.int v2), some (.int v3)], [], (110, x), m) := by
  unfold md_ahead at h
  refine mj_gcp hC 6 ?_
  show P (10, [some (.ref 68), some (.int v1), some (.int v2), some (.int v3)], [.int 200, .int 0, .int v1], (110, x), (mj_up m 68 2 (.int 0)))
  refine mj_pcall hC rfl (md_isIn_x (Nat.le_trans (by decide) hd)) ?_
  show P (13, [some (.ref 68), some (.int v1), some (.int v2), some (.int v3)], [.int (md_isIn v1 0 200 (mj_up m 68 2 (.int 0)))], (110, x), (mj_up m 68 2 (.int 0)))
  refine mj_gcp hC 1 ?_
  show P (mj_pick 50 16 ((md_isIn v1 0 200 (mj_up m 68 2 (.int 0))) = 0), [some (.ref 68), some (.int v1), some (.int v2), some (.int v3)], [], (110, x), (mj_up m 68 2 (.int 0)))
  refine mj_pbr (fun c1 => ?_) (fun c1 => ?_)
  · rw [if_pos c1] at h
    refine mj_gcp hC 1 ?_
    show P (51, [some (.ref 68), some (.int v1), some (.int v2), some (.int v3)], [.int (-1)], (110, x), (mj_up m 68 2 (.int 0)))
    cases h
    exact mj_pret hC rfl hR
  · rw [if_neg c1] at h
    refine mj_gcp hC 3 ?_
    show P (19, [some (.ref 68), some (.int v1), some (.int v2), some (.int v3)], [.int 3, .int 0, .int v2], (110, x), (mj_up m 68 2 (.int 0)))
    refine mj_pcall hC rfl (md_isIn_x (Nat.le_trans (by decide) hd)) ?_
    show P (22, [some (.ref 68), some (.int v1), some (.int v2), some (.int v3)], [.int (md_isIn v2 0 3 (mj_up m 68 2 (.int 0)))], (110, x), (mj_up m 68 2 (.int 0)))
    refine mj_gcp hC 1 ?_
    show P (mj_pick 50 25 ((md_isIn v2 0 3 (mj_up m 68 2 (.int 0))) = 0), [some (.ref 68), some (.int v1), some (.int v2), some (.int v3)], [], (110, x), (mj_up m 68 2 (.int 0)))
    refine mj_pbr (fun c2 => ?_) (fun c2 => ?_)
    · rw [if_pos c2] at h
      refine mj_gcp hC 1 ?_
      show P (51, [some (.ref 68), some (.int v1), some (.int v2), some (.int v3)], [.int (-1)], (110, x), (mj_up m 68 2 (.int 0)))
      cases h
      exact mj_pret hC rfl hR
    · rw [if_neg c2] at h
      refine mj_gcp hC 2 ?_
      show P (mj_pick 29 37 (v2 = 0), [some (.ref 68), some (.int v1), some (.int v2), some (.int v3)], [], (110, x), (mj_up m 68 2 (.int 0)))
      refine mj_pbr (fun c3 => ?_) (fun c3 => ?_)
      · rw [if_pos c3] at h
        refine mj_gcp hC 2 ?_
        show P (31, [some (.ref 68), some (.int v1), some (.int v2), some (.int v3)], [.int v3, .ref 68], (110, x), (mj_up m 68 2 (.int 0)))
        refine mj_pcall hC rfl (md_isWork_x (Nat.le_trans (by decide) hd)) ?_
        show P (34, [some (.ref 68), some (.int v1), some (.int v2), some (.int v3)], [.int (md_isWork v3 (mj_up m 68 2 (.int 0)))], (110, x), (mj_up m 68 2 (.int 0)))
        refine mj_gcp hC 1 ?_
        show P (mj_pick 50 37 ((md_isWork v3 (mj_up m 68 2 (.int 0))) = 0), [some (.ref 68), some (.int v1), some (.int v2), some (.int v3)], [], (110, x), (mj_up m 68 2 (.int 0)))
        refine mj_pbr (fun c4 => ?_) (fun c4 => ?_)
        · rw [if_pos c4] at h
          refine mj_gcp hC 1 ?_
          show P (51, [some (.ref 68), some (.int v1), some (.int v2), some (.int v3)], [.int (-1)], (110, x), (mj_up m 68 2 (.int 0)))
          cases h
          exact mj_pret hC rfl hR
        · rw [if_neg c4] at h
          exact mj_less hC (L0 := [some (.ref 68), some (.int v1), some (.int v2), some (.int v3)]) (And.intro rfl (And.intro rfl (And.intro rfl (And.intro rfl trivial)))) (md_ahead_j37_x hC hd h hR)
      · rw [if_neg c3] at h
        exact mj_less hC (L0 := [some (.ref 68), some (.int v1), some (.int v2), some (.int v3)]) (And.intro rfl (And.intro rfl (And.intro rfl (And.intro rfl trivial)))) (md_ahead_j37_x hC hd h hR)
set_option maxRecDepth 20000 in
theorem md_ahead_x {Ls tp ip x d : Nat} {Z : mj_X} (hd : 9 ≤ d) {v1 : Int32} {v2 : Int32} {v3 : Int32} {m : mj_M} {r : (Int32 × mj_M)} (h : md_ahead v1 v2 v3 m = some r) : mj_Ex false (mj_sh Ls) (mj_rf tp ip) Z d 233 [.ref 68, .int v1, .int v2, .int v3] (110, x) m (some (.int r.1)) (110, x) r.2 := by
  exact mj_Ex_of (cd := mj_cd_233) (L := [some (.ref 68), some (.int v1), some (.int v2), some (.int v3)]) (by omega) (by decide) rfl (Nat.le_of_ble_eq_true rfl) rfl (fun P hC => md_ahead_p hC (by omega) h ⟨rfl, rfl, rfl⟩)
def md_done_l21  (v1 : Int32) (s21 : (Int32 × mj_M)) : Option (Nat × (Int32 × mj_M)) :=
  (if 200 < s21.1 then some (2, (s21.1, s21.2)) else
  (if ((8 : Int32) + v1) < 0 ∨ 16 ≤ (((8 : Int32) + v1) : Int32).toNatClampNeg then none else
  (if (mj_I (s21.2 93 ((8 : Int32) + v1).toNatClampNeg)) = 0 then some (1, (s21.1, s21.2)) else
  (md_hourGoes 1 s21.2).bind fun q6 =>
  some (0, ((s21.1 + 1), q6)))))
def md_done  (v1 : Int32) (m : mj_M) : Option (Int32 × mj_M) :=
  (if (md_isWork v1 (mj_up m 68 2 (.int 0))) = 0 then some ((-1), (mj_up m 68 2 (.int 0))) else
  (md_layTried (mj_up m 68 2 (.int 0))).bind fun q2 =>
  (mj_loop (md_done_l21 v1) mj_F (0, q2)).bind fun q7 =>
  (if q7.1 = 0 then some (q7.2.1, q7.2.2) else some ((-2), q7.2.2)))
set_option maxRecDepth 20000 in
theorem md_done_l21_x {Ls tp ip x d : Nat} {Z : mj_X} {R : Option Value → mj_G → mj_M → Prop} {P : mj_K → Prop} (hC : mj_cls false (mj_sh Ls) (mj_rf tp ip) mj_dv mj_cd_234 (mj_Ex false (mj_sh Ls) (mj_rf tp ip) Z d) R P) (hd : 7 ≤ d) {v1 : Int32} (s21 : (Int32 × mj_M)) {t : Nat} {w : (Int32 × mj_M)} (h : md_done_l21 v1 s21 = some (t, w)) (h0 : t = 0 → P (21, [some (.ref 68), some (.int v1), some (.int w.1)], [], (110, x), w.2)) (h1 : t = 1 → P (40, [none, none, some (.int w.1)], [], (110, x), w.2)) (h2 : t = 2 → P (53, [none, none, none], [], (110, x), w.2)) : P (21, [some (.ref 68), some (.int v1), some (.int s21.1)], [], (110, x), s21.2) := by
  unfold md_done_l21 at h
  refine mj_gcp hC 3 ?_
  show P (mj_pick 53 28 (200 < s21.1), [some (.ref 68), some (.int v1), some (.int s21.1)], [], (110, x), s21.2)
  refine mj_pbr (fun c3 => ?_) (fun c3 => ?_)
  · rw [if_pos c3] at h
    cases h
    exact mj_less hC (L0 := [none, none, none]) trivial (h2 rfl)
  · rw [if_neg c3] at h
    obtain ⟨k4, h⟩ := mj_ifn h
    refine mj_gcp hC 7 ?_
    show _ ∧ (P (mj_pick 40 42 ((mj_I (s21.2 93 ((8 : Int32) + v1).toNatClampNeg)) = 0), [some (.ref 68), some (.int v1), some (.int s21.1)], [], (110, x), s21.2))
    refine And.intro k4 (?_)
    refine mj_pbr (fun c5 => ?_) (fun c5 => ?_)
    · rw [if_pos c5] at h
      cases h
      exact mj_less hC (L0 := [none, none, some (.int s21.1)]) (And.intro rfl trivial) (h1 rfl)
    · rw [if_neg c5] at h
      refine mj_gcp hC 2 ?_
      show P (44, [some (.ref 68), some (.int v1), some (.int s21.1)], [.int 1, .ref 68], (110, x), s21.2)
      obtain ⟨q6, eq6, h⟩ := mj_bnd h
      refine mj_pcall hC rfl (md_hourGoes_x (Nat.le_trans (by decide) hd) eq6) ?_
      show P (47, [some (.ref 68), some (.int v1), some (.int s21.1)], [], (110, x), q6)
      refine mj_gcp hC 2 ?_
      show P (21, [some (.ref 68), some (.int v1), some (.int (s21.1 + 1))], [], (110, x), q6)
      cases h
      exact mj_less hC (L0 := [some (.ref 68), some (.int v1), some (.int (s21.1 + 1))]) (And.intro rfl (And.intro rfl (And.intro rfl trivial))) (h0 rfl)
set_option maxRecDepth 20000 in
theorem md_done_p {Ls tp ip x d : Nat} {Z : mj_X} {R : Option Value → mj_G → mj_M → Prop} {P : mj_K → Prop} (hC : mj_cls false (mj_sh Ls) (mj_rf tp ip) mj_dv mj_cd_234 (mj_Ex false (mj_sh Ls) (mj_rf tp ip) Z d) R P) (hd : 7 ≤ d) {v1 : Int32} {m : mj_M} {r : (Int32 × mj_M)} (h : md_done v1 m = some r) (hR : R (some (.int r.1)) (110, x) r.2) : P (0, [some (.ref 68), some (.int v1), none], [], (110, x), m) := by
  unfold md_done at h
  refine mj_gcp hC 5 ?_
  show P (7, [some (.ref 68), some (.int v1), none], [.int v1, .ref 68], (110, x), (mj_up m 68 2 (.int 0)))
  refine mj_pcall hC rfl (md_isWork_x (Nat.le_trans (by decide) hd)) ?_
  show P (10, [some (.ref 68), some (.int v1), none], [.int (md_isWork v1 (mj_up m 68 2 (.int 0)))], (110, x), (mj_up m 68 2 (.int 0)))
  refine mj_gcp hC 1 ?_
  show P (mj_pick 13 15 ((md_isWork v1 (mj_up m 68 2 (.int 0))) = 0), [some (.ref 68), some (.int v1), none], [], (110, x), (mj_up m 68 2 (.int 0)))
  refine mj_pbr (fun c1 => ?_) (fun c1 => ?_)
  · rw [if_pos c1] at h
    refine mj_gcp hC 1 ?_
    show P (14, [some (.ref 68), some (.int v1), none], [.int (-1)], (110, x), (mj_up m 68 2 (.int 0)))
    cases h
    exact mj_pret hC rfl hR
  · rw [if_neg c1] at h
    refine mj_gcp hC 1 ?_
    show P (16, [some (.ref 68), some (.int v1), none], [.ref 68], (110, x), (mj_up m 68 2 (.int 0)))
    obtain ⟨q2, eq2, h⟩ := mj_bnd h
    refine mj_pcall hC rfl (md_layTried_x (Nat.le_trans (by decide) hd) eq2) ?_
    show P (19, [some (.ref 68), some (.int v1), none], [], (110, x), q2)
    refine mj_gcp hC 2 ?_
    show P (21, [some (.ref 68), some (.int v1), some (.int 0)], [], (110, x), q2)
    obtain ⟨q7, eq7, h⟩ := mj_bnd h
    refine mj_less hC (L0 := [some (.ref 68), some (.int v1), some (.int 0)]) (And.intro rfl (And.intro rfl (And.intro rfl trivial))) ?_
    refine mj_loop_P (A := fun z21 => P (21, [some (.ref 68), some (.int v1), some (.int z21.1)], [], (110, x), z21.2)) (E := fun j z21 => (j = 0 → P (40, [none, none, some (.int z21.1)], [], (110, x), z21.2)) ∧ (¬ j = 0 → P (53, [none, none, none], [], (110, x), z21.2))) (fun zz t w hb h0 h1 => md_done_l21_x hC hd zz hb h0 (fun ht => (h1 0 ht).1 rfl) (fun ht => (h1 1 ht).2 (by decide))) mj_F _ q7 eq7 ⟨fun hj => ?_, fun hj => ?_⟩
    · rw [if_pos hj] at h
      refine mj_gcp hC 1 ?_
      show P (41, [none, none, some (.int q7.2.1)], [.int q7.2.1], (110, x), q7.2.2)
      cases h
      exact mj_pret hC rfl hR
    · rw [if_neg hj] at h
      refine mj_gcp hC 1 ?_
      show P (55, [none, none, none], [.int (-2)], (110, x), q7.2.2)
      cases h
      exact mj_pret hC rfl hR
set_option maxRecDepth 20000 in
theorem md_done_x {Ls tp ip x d : Nat} {Z : mj_X} (hd : 8 ≤ d) {v1 : Int32} {m : mj_M} {r : (Int32 × mj_M)} (h : md_done v1 m = some r) : mj_Ex false (mj_sh Ls) (mj_rf tp ip) Z d 234 [.ref 68, .int v1] (110, x) m (some (.int r.1)) (110, x) r.2 := by
  exact mj_Ex_of (cd := mj_cd_234) (L := [some (.ref 68), some (.int v1), none]) (by omega) (by decide) rfl (Nat.le_of_ble_eq_true rfl) rfl (fun P hC => md_done_p hC (by omega) h ⟨rfl, rfl, rfl⟩)
def md_stops_l11   (s11 : (Int32 × mj_M)) : Option (Nat × (Int32 × mj_M)) :=
  (if 999 < s11.1 then some (2, (s11.1, s11.2)) else
  (if (mj_I (s11.2 98 (1 : Int32).toNatClampNeg)) = 0 then some (1, (s11.1, s11.2)) else
  (md_hourGoes 1 s11.2).bind fun q4 =>
  some (0, ((s11.1 + 1), q4))))
def md_stops   (m : mj_M) : Option (Int32 × mj_M) :=
  (md_layTried (mj_up m 68 2 (.int 0))).bind fun q1 =>
  (mj_loop (md_stops_l11) mj_F (0, q1)).bind fun q5 =>
  (if q5.1 = 0 then some (q5.2.1, q5.2.2) else some ((-2), q5.2.2))
set_option maxRecDepth 20000 in
theorem md_stops_l11_x {Ls tp ip x d : Nat} {Z : mj_X} {R : Option Value → mj_G → mj_M → Prop} {P : mj_K → Prop} (hC : mj_cls false (mj_sh Ls) (mj_rf tp ip) mj_dv mj_cd_235 (mj_Ex false (mj_sh Ls) (mj_rf tp ip) Z d) R P) (hd : 7 ≤ d)  (s11 : (Int32 × mj_M)) {t : Nat} {w : (Int32 × mj_M)} (h : md_stops_l11 s11 = some (t, w)) (h0 : t = 0 → P (11, [some (.ref 68), some (.int w.1)], [], (110, x), w.2)) (h1 : t = 1 → P (27, [none, some (.int w.1)], [], (110, x), w.2)) (h2 : t = 2 → P (40, [none, none], [], (110, x), w.2)) : P (11, [some (.ref 68), some (.int s11.1)], [], (110, x), s11.2) := by
  unfold md_stops_l11 at h
  refine mj_gcp hC 3 ?_
  show P (mj_pick 40 18 (999 < s11.1), [some (.ref 68), some (.int s11.1)], [], (110, x), s11.2)
  refine mj_pbr (fun c2 => ?_) (fun c2 => ?_)
  · rw [if_pos c2] at h
    cases h
    exact mj_less hC (L0 := [none, none]) trivial (h2 rfl)
  · rw [if_neg c2] at h
    refine mj_gcp hC 5 ?_
    show _ ∧ (P (mj_pick 27 29 ((mj_I (s11.2 98 (1 : Int32).toNatClampNeg)) = 0), [some (.ref 68), some (.int s11.1)], [], (110, x), s11.2))
    refine And.intro (show ¬ ((1 : Int32) < 0 ∨ 2 ≤ (1 : Int32).toNatClampNeg) by decide) (?_)
    refine mj_pbr (fun c3 => ?_) (fun c3 => ?_)
    · rw [if_pos c3] at h
      cases h
      exact mj_less hC (L0 := [none, some (.int s11.1)]) (And.intro rfl trivial) (h1 rfl)
    · rw [if_neg c3] at h
      refine mj_gcp hC 2 ?_
      show P (31, [some (.ref 68), some (.int s11.1)], [.int 1, .ref 68], (110, x), s11.2)
      obtain ⟨q4, eq4, h⟩ := mj_bnd h
      refine mj_pcall hC rfl (md_hourGoes_x (Nat.le_trans (by decide) hd) eq4) ?_
      show P (34, [some (.ref 68), some (.int s11.1)], [], (110, x), q4)
      refine mj_gcp hC 2 ?_
      show P (11, [some (.ref 68), some (.int (s11.1 + 1))], [], (110, x), q4)
      cases h
      exact mj_less hC (L0 := [some (.ref 68), some (.int (s11.1 + 1))]) (And.intro rfl (And.intro rfl trivial)) (h0 rfl)
set_option maxRecDepth 20000 in
theorem md_stops_p {Ls tp ip x d : Nat} {Z : mj_X} {R : Option Value → mj_G → mj_M → Prop} {P : mj_K → Prop} (hC : mj_cls false (mj_sh Ls) (mj_rf tp ip) mj_dv mj_cd_235 (mj_Ex false (mj_sh Ls) (mj_rf tp ip) Z d) R P) (hd : 7 ≤ d)  {m : mj_M} {r : (Int32 × mj_M)} (h : md_stops m = some r) (hR : R (some (.int r.1)) (110, x) r.2) : P (0, [some (.ref 68), none], [], (110, x), m) := by
  unfold md_stops at h
  refine mj_gcp hC 4 ?_
  show P (6, [some (.ref 68), none], [.ref 68], (110, x), (mj_up m 68 2 (.int 0)))
  obtain ⟨q1, eq1, h⟩ := mj_bnd h
  refine mj_pcall hC rfl (md_layTried_x (Nat.le_trans (by decide) hd) eq1) ?_
  show P (9, [some (.ref 68), none], [], (110, x), q1)
  refine mj_gcp hC 2 ?_
  show P (11, [some (.ref 68), some (.int 0)], [], (110, x), q1)
  obtain ⟨q5, eq5, h⟩ := mj_bnd h
  refine mj_less hC (L0 := [some (.ref 68), some (.int 0)]) (And.intro rfl (And.intro rfl trivial)) ?_
  refine mj_loop_P (A := fun z11 => P (11, [some (.ref 68), some (.int z11.1)], [], (110, x), z11.2)) (E := fun j z11 => (j = 0 → P (27, [none, some (.int z11.1)], [], (110, x), z11.2)) ∧ (¬ j = 0 → P (40, [none, none], [], (110, x), z11.2))) (fun zz t w hb h0 h1 => md_stops_l11_x hC hd zz hb h0 (fun ht => (h1 0 ht).1 rfl) (fun ht => (h1 1 ht).2 (by decide))) mj_F _ q5 eq5 ⟨fun hj => ?_, fun hj => ?_⟩
  · rw [if_pos hj] at h
    refine mj_gcp hC 1 ?_
    show P (28, [none, some (.int q5.2.1)], [.int q5.2.1], (110, x), q5.2.2)
    cases h
    exact mj_pret hC rfl hR
  · rw [if_neg hj] at h
    refine mj_gcp hC 1 ?_
    show P (42, [none, none], [.int (-2)], (110, x), q5.2.2)
    cases h
    exact mj_pret hC rfl hR
set_option maxRecDepth 20000 in
theorem md_stops_x {Ls tp ip x d : Nat} {Z : mj_X} (hd : 8 ≤ d)  {m : mj_M} {r : (Int32 × mj_M)} (h : md_stops m = some r) : mj_Ex false (mj_sh Ls) (mj_rf tp ip) Z d 235 [.ref 68] (110, x) m (some (.int r.1)) (110, x) r.2 := by
  exact mj_Ex_of (cd := mj_cd_235) (L := [some (.ref 68), none]) (by omega) (by decide) rfl (Nat.le_of_ble_eq_true rfl) rfl (fun P hC => md_stops_p hC (by omega) h ⟨rfl, rfl, rfl⟩)
def md_pace_j124l37   (v1 : Int32) (v2 : Int32) (v3 : Int32) (v4 : Int32) (v5 : Int32) (v6 : Int32)  (m : mj_M) : Option (Nat × (Int32 × Int32 × Int32 × Int32 × mj_M)) :=
  some (0, (v3, v4, v5, (v6 + 1), m))
def md_pace_j113l37   (v1 : Int32) (v2 : Int32) (v6 : Int32) (v7 : Int32) (v8 : Int32)  (m : mj_M) : Option (Nat × (Int32 × Int32 × Int32 × Int32 × mj_M)) :=
  md_pace_j124l37 v1 v2 v6 v7 v8 v6 m
def md_pace_l37  (v1 : Int32) (v2 : Int32) (s37 : (Int32 × Int32 × Int32 × Int32 × mj_M)) : Option (Nat × (Int32 × Int32 × Int32 × Int32 × mj_M)) :=
  (if 100 ≤ s37.2.2.2.1 then some (1, (s37.1, s37.2.1, s37.2.2.1, s37.2.2.2.1, s37.2.2.2.2)) else
  (md_layTried s37.2.2.2.2).bind fun q4 =>
  (md_goMany v1 (mj_up q4 68 66 (.int s37.2.2.2.1))).bind fun q5 =>
  (md_doneAll 1 q5).bind fun q6 =>
  (md_doneAll 0 q5).bind fun q7 =>
  (md_slipsAll 1 q5).bind fun q8 =>
  (md_slipsAll 0 q5).bind fun q9 =>
  (if s37.1 ≤ 0 then md_pace_j113l37 v1 v2 s37.2.2.2.1 (q6 - q7) (q8 - q9) q5 else
  (if (q6 - q7) < s37.2.1 then md_pace_j124l37 v1 v2 s37.1 s37.2.1 s37.2.2.1 s37.2.2.2.1 q5 else
  (if (q6 - q7) = s37.2.1 then (if (q8 - q9) < s37.2.2.1 then md_pace_j113l37 v1 v2 s37.2.2.2.1 (q6 - q7) (q8 - q9) q5 else
  md_pace_j124l37 v1 v2 s37.1 s37.2.1 s37.2.2.1 s37.2.2.2.1 q5) else
  md_pace_j113l37 v1 v2 s37.2.2.2.1 (q6 - q7) (q8 - q9) q5))))
def md_pace  (v1 : Int32) (v2 : Int32) (m : mj_M) : Option (Int32 × mj_M) :=
  (if (md_isIn v1 1 60 (mj_up m 68 2 (.int 0))) = 0 then some ((-1), (mj_up m 68 2 (.int 0))) else
  (if (md_isIn v2 0 2 (mj_up m 68 2 (.int 0))) = 0 then some ((-1), (mj_up m 68 2 (.int 0))) else
  (mj_loop (md_pace_l37 v1 v2) mj_F (0, 0, 0, 1, (mj_up m 68 2 (.int 0)))).bind fun q14 =>
  (md_plainTried q14.2.2.2.2.2).bind fun q15 =>
  (if v2 = 0 then some (q14.2.1, q15) else
  (if v2 = 1 then some (q14.2.2.1, q15) else
  some (q14.2.2.2.1, q15)))))
set_option maxRecDepth 20000 in
theorem md_pace_j124l37_x {Ls tp ip x d : Nat} {Z : mj_X} {R : Option Value → mj_G → mj_M → Prop} {P : mj_K → Prop} (hC : mj_cls false (mj_sh Ls) (mj_rf tp ip) mj_dv mj_cd_236 (mj_Ex false (mj_sh Ls) (mj_rf tp ip) Z d) R P) (hd : 8 ≤ d)  {v1 : Int32} {v2 : Int32} {v3 : Int32} {v4 : Int32} {v5 : Int32} {v6 : Int32}  {m : mj_M} {t : Nat} {w : (Int32 × Int32 × Int32 × Int32 × mj_M)} (h : md_pace_j124l37  v1 v2 v3 v4 v5 v6 m = some (t, w)) (h0 : t = 0 → P (37, [some (.ref 68), some (.int v1), some (.int v2), some (.int w.1), some (.int w.2.1), some (.int w.2.2.1), some (.int w.2.2.2.1), none, none], [], (110, x), w.2.2.2.2)) (h1 : t = 1 → P (130, [some (.ref 68), none, some (.int v2), some (.int w.1), some (.int w.2.1), some (.int w.2.2.1), none, none, none], [], (110, x), w.2.2.2.2)) : P (124, [some (.ref 68), some (.int v1), some (.int v2), some (.int v3), some (.int v4), some (.int v5), some (.int v6), none, none], [], (110, x), m) := by
  unfold md_pace_j124l37 at h
  refine mj_gcp hC 2 ?_
  show P (37, [some (.ref 68), some (.int v1), some (.int v2), some (.int v3), some (.int v4), some (.int v5), some (.int (v6 + 1)), none, none], [], (110, x), m)
  cases h
  exact mj_less hC (L0 := [some (.ref 68), some (.int v1), some (.int v2), some (.int v3), some (.int v4), some (.int v5), some (.int (v6 + 1)), none, none]) (And.intro rfl (And.intro rfl (And.intro rfl (And.intro rfl (And.intro rfl (And.intro rfl (And.intro rfl trivial))))))) (h0 rfl)
set_option maxRecDepth 20000 in
theorem md_pace_j113l37_x {Ls tp ip x d : Nat} {Z : mj_X} {R : Option Value → mj_G → mj_M → Prop} {P : mj_K → Prop} (hC : mj_cls false (mj_sh Ls) (mj_rf tp ip) mj_dv mj_cd_236 (mj_Ex false (mj_sh Ls) (mj_rf tp ip) Z d) R P) (hd : 8 ≤ d)  {v1 : Int32} {v2 : Int32} {v6 : Int32} {v7 : Int32} {v8 : Int32}  {m : mj_M} {t : Nat} {w : (Int32 × Int32 × Int32 × Int32 × mj_M)} (h : md_pace_j113l37  v1 v2 v6 v7 v8 m = some (t, w)) (h0 : t = 0 → P (37, [some (.ref 68), some (.int v1), some (.int v2), some (.int w.1), some (.int w.2.1), some (.int w.2.2.1), some (.int w.2.2.2.1), none, none], [], (110, x), w.2.2.2.2)) (h1 : t = 1 → P (130, [some (.ref 68), none, some (.int v2), some (.int w.1), some (.int w.2.1), some (.int w.2.2.1), none, none, none], [], (110, x), w.2.2.2.2)) : P (113, [some (.ref 68), some (.int v1), some (.int v2), none, none, none, some (.int v6), some (.int v7), some (.int v8)], [], (110, x), m) := by
  unfold md_pace_j113l37 at h
  refine mj_gcp hC 6 ?_
  show P (124, [some (.ref 68), some (.int v1), some (.int v2), some (.int v6), some (.int v7), some (.int v8), some (.int v6), some (.int v7), some (.int v8)], [], (110, x), m)
  exact mj_less hC (L0 := [some (.ref 68), some (.int v1), some (.int v2), some (.int v6), some (.int v7), some (.int v8), some (.int v6), none, none]) (And.intro rfl (And.intro rfl (And.intro rfl (And.intro rfl (And.intro rfl (And.intro rfl (And.intro rfl trivial))))))) (md_pace_j124l37_x hC hd h h0 h1)
set_option maxRecDepth 20000 in
theorem md_pace_l37_x {Ls tp ip x d : Nat} {Z : mj_X} {R : Option Value → mj_G → mj_M → Prop} {P : mj_K → Prop} (hC : mj_cls false (mj_sh Ls) (mj_rf tp ip) mj_dv mj_cd_236 (mj_Ex false (mj_sh Ls) (mj_rf tp ip) Z d) R P) (hd : 8 ≤ d) {v1 : Int32} {v2 : Int32} (s37 : (Int32 × Int32 × Int32 × Int32 × mj_M)) {t : Nat} {w : (Int32 × Int32 × Int32 × Int32 × mj_M)} (h : md_pace_l37 v1 v2 s37 = some (t, w)) (h0 : t = 0 → P (37, [some (.ref 68), some (.int v1), some (.int v2), some (.int w.1), some (.int w.2.1), some (.int w.2.2.1), some (.int w.2.2.2.1), none, none], [], (110, x), w.2.2.2.2)) (h1 : t = 1 → P (130, [some (.ref 68), none, some (.int v2), some (.int w.1), some (.int w.2.1), some (.int w.2.2.1), none, none, none], [], (110, x), w.2.2.2.2)) : P (37, [some (.ref 68), some (.int v1), some (.int v2), some (.int s37.1), some (.int s37.2.1), some (.int s37.2.2.1), some (.int s37.2.2.2.1), none, none], [], (110, x), s37.2.2.2.2) := by
  unfold md_pace_l37 at h
  refine mj_gcp hC 3 ?_
  show P (mj_pick 130 44 (100 ≤ s37.2.2.2.1), [some (.ref 68), some (.int v1), some (.int v2), some (.int s37.1), some (.int s37.2.1), some (.int s37.2.2.1), some (.int s37.2.2.2.1), none, none], [], (110, x), s37.2.2.2.2)
  refine mj_pbr (fun c3 => ?_) (fun c3 => ?_)
  · rw [if_pos c3] at h
    cases h
    exact mj_less hC (L0 := [some (.ref 68), none, some (.int v2), some (.int s37.1), some (.int s37.2.1), some (.int s37.2.2.1), none, none, none]) (And.intro rfl (And.intro rfl (And.intro rfl (And.intro rfl (And.intro rfl trivial))))) (h1 rfl)
  · rw [if_neg c3] at h
    refine mj_gcp hC 1 ?_
    show P (45, [some (.ref 68), some (.int v1), some (.int v2), some (.int s37.1), some (.int s37.2.1), some (.int s37.2.2.1), some (.int s37.2.2.2.1), none, none], [.ref 68], (110, x), s37.2.2.2.2)
    obtain ⟨q4, eq4, h⟩ := mj_bnd h
    refine mj_pcall hC rfl (md_layTried_x (Nat.le_trans (by decide) hd) eq4) ?_
    show P (48, [some (.ref 68), some (.int v1), some (.int v2), some (.int s37.1), some (.int s37.2.1), some (.int s37.2.2.1), some (.int s37.2.2.2.1), none, none], [], (110, x), q4)
    refine mj_gcp hC 5 ?_
    show P (56, [some (.ref 68), some (.int v1), some (.int v2), some (.int s37.1), some (.int s37.2.1), some (.int s37.2.2.1), some (.int s37.2.2.2.1), none, none], [.int v1, .ref 68], (110, x), (mj_up q4 68 66 (.int s37.2.2.2.1)))
    obtain ⟨q5, eq5, h⟩ := mj_bnd h
    refine mj_pcall hC rfl (md_goMany_x (Nat.le_trans (by decide) hd) eq5) ?_
    show P (59, [some (.ref 68), some (.int v1), some (.int v2), some (.int s37.1), some (.int s37.2.1), some (.int s37.2.2.1), some (.int s37.2.2.2.1), none, none], [], (110, x), q5)
    refine mj_gcp hC 2 ?_
    show P (61, [some (.ref 68), some (.int v1), some (.int v2), some (.int s37.1), some (.int s37.2.1), some (.int s37.2.2.1), some (.int s37.2.2.2.1), none, none], [.int 1, .ref 68], (110, x), q5)
    obtain ⟨q6, eq6, h⟩ := mj_bnd h
    refine mj_pcall hC rfl (md_doneAll_x (Nat.le_trans (by decide) hd) eq6) ?_
    show P (64, [some (.ref 68), some (.int v1), some (.int v2), some (.int s37.1), some (.int s37.2.1), some (.int s37.2.2.1), some (.int s37.2.2.2.1), none, none], [.int q6], (110, x), q5)
    refine mj_gcp hC 2 ?_
    show P (66, [some (.ref 68), some (.int v1), some (.int v2), some (.int s37.1), some (.int s37.2.1), some (.int s37.2.2.1), some (.int s37.2.2.2.1), none, none], [.int 0, .ref 68, .int q6], (110, x), q5)
    obtain ⟨q7, eq7, h⟩ := mj_bnd h
    refine mj_pcall hC rfl (md_doneAll_x (Nat.le_trans (by decide) hd) eq7) ?_
    show P (69, [some (.ref 68), some (.int v1), some (.int v2), some (.int s37.1), some (.int s37.2.1), some (.int s37.2.2.1), some (.int s37.2.2.2.1), none, none], [.int q7, .int q6], (110, x), q5)
    refine mj_gcp hC 4 ?_
    show P (74, [some (.ref 68), some (.int v1), some (.int v2), some (.int s37.1), some (.int s37.2.1), some (.int s37.2.2.1), some (.int s37.2.2.2.1), some (.int (q6 - q7)), none], [.int 1, .ref 68], (110, x), q5)
    obtain ⟨q8, eq8, h⟩ := mj_bnd h
    refine mj_pcall hC rfl (md_slipsAll_x (Nat.le_trans (by decide) hd) eq8) ?_
    show P (77, [some (.ref 68), some (.int v1), some (.int v2), some (.int s37.1), some (.int s37.2.1), some (.int s37.2.2.1), some (.int s37.2.2.2.1), some (.int (q6 - q7)), none], [.int q8], (110, x), q5)
    refine mj_gcp hC 2 ?_
    show P (79, [some (.ref 68), some (.int v1), some (.int v2), some (.int s37.1), some (.int s37.2.1), some (.int s37.2.2.1), some (.int s37.2.2.2.1), some (.int (q6 - q7)), none], [.int 0, .ref 68, .int q8], (110, x), q5)
    obtain ⟨q9, eq9, h⟩ := mj_bnd h
    refine mj_pcall hC rfl (md_slipsAll_x (Nat.le_trans (by decide) hd) eq9) ?_
    show P (82, [some (.ref 68), some (.int v1), some (.int v2), some (.int s37.1), some (.int s37.2.1), some (.int s37.2.2.1), some (.int s37.2.2.2.1), some (.int (q6 - q7)), none], [.int q9, .int q8], (110, x), q5)
    refine mj_gcp hC 4 ?_
    show P (mj_pick 113 89 (s37.1 ≤ 0), [some (.ref 68), some (.int v1), some (.int v2), some (.int s37.1), some (.int s37.2.1), some (.int s37.2.2.1), some (.int s37.2.2.2.1), some (.int (q6 - q7)), some (.int (q8 - q9))], [], (110, x), q5)
    refine mj_pbr (fun c10 => ?_) (fun c10 => ?_)
    · rw [if_pos c10] at h
      exact mj_less hC (L0 := [some (.ref 68), some (.int v1), some (.int v2), none, none, none, some (.int s37.2.2.2.1), some (.int (q6 - q7)), some (.int (q8 - q9))]) (And.intro rfl (And.intro rfl (And.intro rfl (And.intro rfl (And.intro rfl (And.intro rfl trivial)))))) (md_pace_j113l37_x hC hd h h0 h1)
    · rw [if_neg c10] at h
      refine mj_gcp hC 3 ?_
      show P (mj_pick 124 96 ((q6 - q7) < s37.2.1), [some (.ref 68), some (.int v1), some (.int v2), some (.int s37.1), some (.int s37.2.1), some (.int s37.2.2.1), some (.int s37.2.2.2.1), some (.int (q6 - q7)), some (.int (q8 - q9))], [], (110, x), q5)
      refine mj_pbr (fun c11 => ?_) (fun c11 => ?_)
      · rw [if_pos c11] at h
        exact mj_less hC (L0 := [some (.ref 68), some (.int v1), some (.int v2), some (.int s37.1), some (.int s37.2.1), some (.int s37.2.2.1), some (.int s37.2.2.2.1), none, none]) (And.intro rfl (And.intro rfl (And.intro rfl (And.intro rfl (And.intro rfl (And.intro rfl (And.intro rfl trivial))))))) (md_pace_j124l37_x hC hd h h0 h1)
      · rw [if_neg c11] at h
        refine mj_gcp hC 3 ?_
        show P (mj_pick 103 113 ((q6 - q7) = s37.2.1), [some (.ref 68), some (.int v1), some (.int v2), some (.int s37.1), some (.int s37.2.1), some (.int s37.2.2.1), some (.int s37.2.2.2.1), some (.int (q6 - q7)), some (.int (q8 - q9))], [], (110, x), q5)
        refine mj_pbr (fun c12 => ?_) (fun c12 => ?_)
        · rw [if_pos c12] at h
          refine mj_gcp hC 3 ?_
          show P (mj_pick 113 110 ((q8 - q9) < s37.2.2.1), [some (.ref 68), some (.int v1), some (.int v2), some (.int s37.1), some (.int s37.2.1), some (.int s37.2.2.1), some (.int s37.2.2.2.1), some (.int (q6 - q7)), some (.int (q8 - q9))], [], (110, x), q5)
          refine mj_pbr (fun c13 => ?_) (fun c13 => ?_)
          · rw [if_pos c13] at h
            exact mj_less hC (L0 := [some (.ref 68), some (.int v1), some (.int v2), none, none, none, some (.int s37.2.2.2.1), some (.int (q6 - q7)), some (.int (q8 - q9))]) (And.intro rfl (And.intro rfl (And.intro rfl (And.intro rfl (And.intro rfl (And.intro rfl trivial)))))) (md_pace_j113l37_x hC hd h h0 h1)
          · rw [if_neg c13] at h
            refine mj_gcp hC 1 ?_
            show P (124, [some (.ref 68), some (.int v1), some (.int v2), some (.int s37.1), some (.int s37.2.1), some (.int s37.2.2.1), some (.int s37.2.2.2.1), some (.int (q6 - q7)), some (.int (q8 - q9))], [], (110, x), q5)
            exact mj_less hC (L0 := [some (.ref 68), some (.int v1), some (.int v2), some (.int s37.1), some (.int s37.2.1), some (.int s37.2.2.1), some (.int s37.2.2.2.1), none, none]) (And.intro rfl (And.intro rfl (And.intro rfl (And.intro rfl (And.intro rfl (And.intro rfl (And.intro rfl trivial))))))) (md_pace_j124l37_x hC hd h h0 h1)
        · rw [if_neg c12] at h
          exact mj_less hC (L0 := [some (.ref 68), some (.int v1), some (.int v2), none, none, none, some (.int s37.2.2.2.1), some (.int (q6 - q7)), some (.int (q8 - q9))]) (And.intro rfl (And.intro rfl (And.intro rfl (And.intro rfl (And.intro rfl (And.intro rfl trivial)))))) (md_pace_j113l37_x hC hd h h0 h1)
set_option maxRecDepth 20000 in
theorem md_pace_p {Ls tp ip x d : Nat} {Z : mj_X} {R : Option Value → mj_G → mj_M → Prop} {P : mj_K → Prop} (hC : mj_cls false (mj_sh Ls) (mj_rf tp ip) mj_dv mj_cd_236 (mj_Ex false (mj_sh Ls) (mj_rf tp ip) Z d) R P) (hd : 8 ≤ d) {v1 : Int32} {v2 : Int32} {m : mj_M} {r : (Int32 × mj_M)} (h : md_pace v1 v2 m = some r) (hR : R (some (.int r.1)) (110, x) r.2) : P (0, [some (.ref 68), some (.int v1), some (.int v2), none, none, none, none, none, none], [], (110, x), m) := by
  unfold md_pace at h
  refine mj_gcp hC 6 ?_
  show P (9, [some (.ref 68), some (.int v1), some (.int v2), none, none, none, none, none, none], [.int 60, .int 1, .int v1], (110, x), (mj_up m 68 2 (.int 0)))
  refine mj_pcall hC rfl (md_isIn_x (Nat.le_trans (by decide) hd)) ?_
  show P (12, [some (.ref 68), some (.int v1), some (.int v2), none, none, none, none, none, none], [.int (md_isIn v1 1 60 (mj_up m 68 2 (.int 0)))], (110, x), (mj_up m 68 2 (.int 0)))
  refine mj_gcp hC 1 ?_
  show P (mj_pick 24 15 ((md_isIn v1 1 60 (mj_up m 68 2 (.int 0))) = 0), [some (.ref 68), some (.int v1), some (.int v2), none, none, none, none, none, none], [], (110, x), (mj_up m 68 2 (.int 0)))
  refine mj_pbr (fun c1 => ?_) (fun c1 => ?_)
  · rw [if_pos c1] at h
    refine mj_gcp hC 1 ?_
    show P (25, [some (.ref 68), some (.int v1), some (.int v2), none, none, none, none, none, none], [.int (-1)], (110, x), (mj_up m 68 2 (.int 0)))
    cases h
    exact mj_pret hC rfl hR
  · rw [if_neg c1] at h
    refine mj_gcp hC 3 ?_
    show P (18, [some (.ref 68), some (.int v1), some (.int v2), none, none, none, none, none, none], [.int 2, .int 0, .int v2], (110, x), (mj_up m 68 2 (.int 0)))
    refine mj_pcall hC rfl (md_isIn_x (Nat.le_trans (by decide) hd)) ?_
    show P (21, [some (.ref 68), some (.int v1), some (.int v2), none, none, none, none, none, none], [.int (md_isIn v2 0 2 (mj_up m 68 2 (.int 0)))], (110, x), (mj_up m 68 2 (.int 0)))
    refine mj_gcp hC 1 ?_
    show P (mj_pick 24 26 ((md_isIn v2 0 2 (mj_up m 68 2 (.int 0))) = 0), [some (.ref 68), some (.int v1), some (.int v2), none, none, none, none, none, none], [], (110, x), (mj_up m 68 2 (.int 0)))
    refine mj_pbr (fun c2 => ?_) (fun c2 => ?_)
    · rw [if_pos c2] at h
      refine mj_gcp hC 1 ?_
      show P (25, [some (.ref 68), some (.int v1), some (.int v2), none, none, none, none, none, none], [.int (-1)], (110, x), (mj_up m 68 2 (.int 0)))
      cases h
      exact mj_pret hC rfl hR
    · rw [if_neg c2] at h
      refine mj_gcp hC 8 ?_
      show P (37, [some (.ref 68), some (.int v1), some (.int v2), some (.int 0), some (.int 0), some (.int 0), some (.int 1), none, none], [], (110, x), (mj_up m 68 2 (.int 0)))
      obtain ⟨q14, eq14, h⟩ := mj_bnd h
      refine mj_less hC (L0 := [some (.ref 68), some (.int v1), some (.int v2), some (.int 0), some (.int 0), some (.int 0), some (.int 1), none, none]) (And.intro rfl (And.intro rfl (And.intro rfl (And.intro rfl (And.intro rfl (And.intro rfl (And.intro rfl trivial))))))) ?_
      refine mj_loop_P (A := fun z37 => P (37, [some (.ref 68), some (.int v1), some (.int v2), some (.int z37.1), some (.int z37.2.1), some (.int z37.2.2.1), some (.int z37.2.2.2.1), none, none], [], (110, x), z37.2.2.2.2)) (E := fun _ z37 => P (130, [some (.ref 68), none, some (.int v2), some (.int z37.1), some (.int z37.2.1), some (.int z37.2.2.1), none, none, none], [], (110, x), z37.2.2.2.2)) (fun zz t w hb h0 h1 => md_pace_l37_x hC hd zz hb h0 (fun ht => h1 0 ht)) mj_F _ q14 eq14 ?_
      refine mj_gcp hC 1 ?_
      show P (131, [some (.ref 68), none, some (.int v2), some (.int q14.2.1), some (.int q14.2.2.1), some (.int q14.2.2.2.1), none, none, none], [.ref 68], (110, x), q14.2.2.2.2.2)
      obtain ⟨q15, eq15, h⟩ := mj_bnd h
      refine mj_pcall hC rfl (md_plainTried_x (Nat.le_trans (by decide) hd) eq15) ?_
      show P (134, [some (.ref 68), none, some (.int v2), some (.int q14.2.1), some (.int q14.2.2.1), some (.int q14.2.2.2.1), none, none, none], [], (110, x), q15)
      refine mj_gcp hC 2 ?_
      show P (mj_pick 138 142 (v2 = 0), [some (.ref 68), none, some (.int v2), some (.int q14.2.1), some (.int q14.2.2.1), some (.int q14.2.2.2.1), none, none, none], [], (110, x), q15)
      refine mj_pbr (fun c16 => ?_) (fun c16 => ?_)
      · rw [if_pos c16] at h
        refine mj_gcp hC 2 ?_
        show P (154, [some (.ref 68), none, some (.int v2), some (.int q14.2.1), some (.int q14.2.2.1), some (.int q14.2.2.2.1), none, none, none], [.int q14.2.1], (110, x), q15)
        cases h
        exact mj_pret hC rfl hR
      · rw [if_neg c16] at h
        refine mj_gcp hC 3 ?_
        show P (mj_pick 147 152 (v2 = 1), [some (.ref 68), none, some (.int v2), some (.int q14.2.1), some (.int q14.2.2.1), some (.int q14.2.2.2.1), none, none, none], [], (110, x), q15)
        refine mj_pbr (fun c17 => ?_) (fun c17 => ?_)
        · rw [if_pos c17] at h
          refine mj_gcp hC 2 ?_
          show P (154, [some (.ref 68), none, some (.int v2), some (.int q14.2.1), some (.int q14.2.2.1), some (.int q14.2.2.2.1), none, none, none], [.int q14.2.2.1], (110, x), q15)
          cases h
          exact mj_pret hC rfl hR
        · rw [if_neg c17] at h
          refine mj_gcp hC 1 ?_
          show P (154, [some (.ref 68), none, some (.int v2), some (.int q14.2.1), some (.int q14.2.2.1), some (.int q14.2.2.2.1), none, none, none], [.int q14.2.2.2.1], (110, x), q15)
          cases h
          exact mj_pret hC rfl hR
set_option maxRecDepth 20000 in
theorem md_pace_x {Ls tp ip x d : Nat} {Z : mj_X} (hd : 9 ≤ d) {v1 : Int32} {v2 : Int32} {m : mj_M} {r : (Int32 × mj_M)} (h : md_pace v1 v2 m = some r) : mj_Ex false (mj_sh Ls) (mj_rf tp ip) Z d 236 [.ref 68, .int v1, .int v2] (110, x) m (some (.int r.1)) (110, x) r.2 := by
  exact mj_Ex_of (cd := mj_cd_236) (L := [some (.ref 68), some (.int v1), some (.int v2), none, none, none, none, none, none]) (by omega) (by decide) rfl (Nat.le_of_ble_eq_true rfl) rfl (fun P hC => md_pace_p hC (by omega) h ⟨rfl, rfl, rfl⟩)
def md_common_l4   (m : mj_M) (s4 : (Int32 × Int32)) : Option (Nat × (Int32 × Int32)) :=
  (if s4.2 = 0 then some (1, (s4.1, s4.2)) else
  (if (s4.2 : Int32) = 0 then none else
  some (0, (s4.2, (s4.1 - s4.1 / s4.2 * s4.2)))))
def md_common  (v0 : Int32) (v1 : Int32) (m : mj_M) : Option Int32 :=
  (mj_loop (md_common_l4 m) mj_F (v0, v1)).bind fun q3 =>
  some q3.2.1
set_option maxRecDepth 20000 in
theorem md_common_l4_x {Ls tp ip x d : Nat} {Z : mj_X} {R : Option Value → mj_G → mj_M → Prop} {P : mj_K → Prop} (hC : mj_cls false (mj_sh Ls) (mj_rf tp ip) mj_dv mj_cd_237 (mj_Ex false (mj_sh Ls) (mj_rf tp ip) Z d) R P) (hd : 0 ≤ d)  {m : mj_M} (s4 : (Int32 × Int32)) {t : Nat} {w : (Int32 × Int32)} (h : md_common_l4 m s4 = some (t, w)) (h0 : t = 0 → P (4, [none, none, some (.int w.1), some (.int w.2), none], [], (110, x), m)) (h1 : t = 1 → P (21, [none, none, some (.int w.1), none, none], [], (110, x), m)) : P (4, [none, none, some (.int s4.1), some (.int s4.2), none], [], (110, x), m) := by
  unfold md_common_l4 at h
  refine mj_gcp hC 2 ?_
  show P (mj_pick 21 8 (s4.2 = 0), [none, none, some (.int s4.1), some (.int s4.2), none], [], (110, x), m)
  refine mj_pbr (fun c1 => ?_) (fun c1 => ?_)
  · rw [if_pos c1] at h
    cases h
    exact mj_less hC (L0 := [none, none, some (.int s4.1), none, none]) (And.intro rfl trivial) (h1 rfl)
  · rw [if_neg c1] at h
    obtain ⟨k2, h⟩ := mj_ifn h
    refine mj_gcp hC 9 ?_
    show _ ∧ (P (4, [none, none, some (.int s4.2), some (.int (s4.1 - s4.1 / s4.2 * s4.2)), some (.int (s4.1 - s4.1 / s4.2 * s4.2))], [], (110, x), m))
    refine And.intro k2 (?_)
    cases h
    exact mj_less hC (L0 := [none, none, some (.int s4.2), some (.int (s4.1 - s4.1 / s4.2 * s4.2)), none]) (And.intro rfl (And.intro rfl trivial)) (h0 rfl)
set_option maxRecDepth 20000 in
theorem md_common_p {Ls tp ip x d : Nat} {Z : mj_X} {R : Option Value → mj_G → mj_M → Prop} {P : mj_K → Prop} (hC : mj_cls false (mj_sh Ls) (mj_rf tp ip) mj_dv mj_cd_237 (mj_Ex false (mj_sh Ls) (mj_rf tp ip) Z d) R P) (hd : 0 ≤ d) {v0 : Int32} {v1 : Int32} {m : mj_M} {r : Int32} (h : md_common v0 v1 m = some r) (hR : R (some (.int r)) (110, x) m) : P (0, [some (.int v0), some (.int v1), none, none, none], [], (110, x), m) := by
  unfold md_common at h
  refine mj_gcp hC 4 ?_
  show P (4, [some (.int v0), some (.int v1), some (.int v0), some (.int v1), none], [], (110, x), m)
  obtain ⟨q3, eq3, h⟩ := mj_bnd h
  refine mj_less hC (L0 := [none, none, some (.int v0), some (.int v1), none]) (And.intro rfl (And.intro rfl trivial)) ?_
  refine mj_loop_P (A := fun z4 => P (4, [none, none, some (.int z4.1), some (.int z4.2), none], [], (110, x), m)) (E := fun _ z4 => P (21, [none, none, some (.int z4.1), none, none], [], (110, x), m)) (fun zz t w hb h0 h1 => md_common_l4_x hC hd zz hb h0 (fun ht => h1 0 ht)) mj_F _ q3 eq3 ?_
  refine mj_gcp hC 1 ?_
  show P (22, [none, none, some (.int q3.2.1), none, none], [.int q3.2.1], (110, x), m)
  cases h
  exact mj_pret hC rfl hR
set_option maxRecDepth 20000 in
theorem md_common_x {Ls tp ip x d : Nat} {Z : mj_X} (hd : 1 ≤ d) {v0 : Int32} {v1 : Int32} {m : mj_M} {r : Int32} (h : md_common v0 v1 m = some r) : mj_Ex false (mj_sh Ls) (mj_rf tp ip) Z d 237 [.int v0, .int v1] (110, x) m (some (.int r)) (110, x) m := by
  exact mj_Ex_of (cd := mj_cd_237) (L := [some (.int v0), some (.int v1), none, none, none]) (by omega) (by decide) rfl (Nat.le_of_ble_eq_true rfl) rfl (fun P hC => md_common_p hC (by omega) h ⟨rfl, rfl, rfl⟩)
def md_bars_j67l31   (v1 : Int32) (v2 : Int32) (v3 : Int32)  (m : mj_M) : Option (Nat × (Int32 × Int32 × mj_M)) :=
  some (0, (v2, (v3 + 1), m))
def md_bars_l31  (v1 : Int32) (s31 : (Int32 × Int32 × mj_M)) : Option (Nat × (Int32 × Int32 × mj_M)) :=
  (if (mj_I (s31.2.2 68 14)) ≤ s31.2.1 then some (1, (s31.1, s31.2.1, s31.2.2)) else
  (if (md_isOf v1 s31.2.1 s31.2.2) = 0 then md_bars_j67l31 v1 s31.1 s31.2.1 s31.2.2 else
  (if s31.2.1 < 0 ∨ 16 ≤ (s31.2.1 : Int32).toNatClampNeg then none else
  (md_common s31.1 (mj_I (s31.2.2 80 s31.2.1.toNatClampNeg)) s31.2.2).bind fun q7 =>
  (if (q7 : Int32) = 0 then none else
  (if s31.2.1 < 0 ∨ 16 ≤ (s31.2.1 : Int32).toNatClampNeg then none else
  md_bars_j67l31 v1 ((s31.1 / q7) * (mj_I (s31.2.2 80 s31.2.1.toNatClampNeg))) s31.2.1 s31.2.2)))))
def md_bars  (v1 : Int32) (m : mj_M) : Option (Int32 × mj_M) :=
  (if v1 < 0 then some ((-1), (mj_up m 68 2 (.int 0))) else
  (if v1 < ((1 : Int32) <<< ((mj_I (m 68 14)) &&& 31)) then (if v1 = 0 then some (0, (mj_up m 68 2 (.int 0))) else
  (mj_loop (md_bars_l31 v1) mj_F (1, 0, (mj_up m 68 2 (.int 0)))).bind fun q10 =>
  some (q10.2.1, q10.2.2.2)) else
  some ((-1), (mj_up m 68 2 (.int 0)))))
set_option maxRecDepth 20000 in
theorem md_bars_j67l31_x {Ls tp ip x d : Nat} {Z : mj_X} {R : Option Value → mj_G → mj_M → Prop} {P : mj_K → Prop} (hC : mj_cls false (mj_sh Ls) (mj_rf tp ip) mj_dv mj_cd_238 (mj_Ex false (mj_sh Ls) (mj_rf tp ip) Z d) R P) (hd : 1 ≤ d)  {v1 : Int32} {v2 : Int32} {v3 : Int32}  {m : mj_M} {t : Nat} {w : (Int32 × Int32 × mj_M)} (h : md_bars_j67l31  v1 v2 v3 m = some (t, w)) (h0 : t = 0 → P (31, [some (.ref 68), some (.int v1), some (.int w.1), some (.int w.2.1)], [], (110, x), w.2.2)) (h1 : t = 1 → P (73, [none, none, some (.int w.1), none], [], (110, x), w.2.2)) : P (67, [some (.ref 68), some (.int v1), some (.int v2), some (.int v3)], [], (110, x), m) := by
  unfold md_bars_j67l31 at h
  refine mj_gcp hC 2 ?_
  show P (31, [some (.ref 68), some (.int v1), some (.int v2), some (.int (v3 + 1))], [], (110, x), m)
  cases h
  exact mj_less hC (L0 := [some (.ref 68), some (.int v1), some (.int v2), some (.int (v3 + 1))]) (And.intro rfl (And.intro rfl (And.intro rfl (And.intro rfl trivial)))) (h0 rfl)
set_option maxRecDepth 20000 in
theorem md_bars_l31_x {Ls tp ip x d : Nat} {Z : mj_X} {R : Option Value → mj_G → mj_M → Prop} {P : mj_K → Prop} (hC : mj_cls false (mj_sh Ls) (mj_rf tp ip) mj_dv mj_cd_238 (mj_Ex false (mj_sh Ls) (mj_rf tp ip) Z d) R P) (hd : 1 ≤ d) {v1 : Int32} (s31 : (Int32 × Int32 × mj_M)) {t : Nat} {w : (Int32 × Int32 × mj_M)} (h : md_bars_l31 v1 s31 = some (t, w)) (h0 : t = 0 → P (31, [some (.ref 68), some (.int v1), some (.int w.1), some (.int w.2.1)], [], (110, x), w.2.2)) (h1 : t = 1 → P (73, [none, none, some (.int w.1), none], [], (110, x), w.2.2)) : P (31, [some (.ref 68), some (.int v1), some (.int s31.1), some (.int s31.2.1)], [], (110, x), s31.2.2) := by
  unfold md_bars_l31 at h
  refine mj_gcp hC 4 ?_
  show P (mj_pick 73 39 ((mj_I (s31.2.2 68 14)) ≤ s31.2.1), [some (.ref 68), some (.int v1), some (.int s31.1), some (.int s31.2.1)], [], (110, x), s31.2.2)
  refine mj_pbr (fun c4 => ?_) (fun c4 => ?_)
  · rw [if_pos c4] at h
    cases h
    exact mj_less hC (L0 := [none, none, some (.int s31.1), none]) (And.intro rfl trivial) (h1 rfl)
  · rw [if_neg c4] at h
    refine mj_gcp hC 2 ?_
    show P (41, [some (.ref 68), some (.int v1), some (.int s31.1), some (.int s31.2.1)], [.int s31.2.1, .int v1], (110, x), s31.2.2)
    refine mj_pcall hC rfl (md_isOf_x (Nat.le_trans (by decide) hd)) ?_
    show P (44, [some (.ref 68), some (.int v1), some (.int s31.1), some (.int s31.2.1)], [.int (md_isOf v1 s31.2.1 s31.2.2)], (110, x), s31.2.2)
    refine mj_gcp hC 1 ?_
    show P (mj_pick 67 47 ((md_isOf v1 s31.2.1 s31.2.2) = 0), [some (.ref 68), some (.int v1), some (.int s31.1), some (.int s31.2.1)], [], (110, x), s31.2.2)
    refine mj_pbr (fun c5 => ?_) (fun c5 => ?_)
    · rw [if_pos c5] at h
      exact mj_less hC (L0 := [some (.ref 68), some (.int v1), some (.int s31.1), some (.int s31.2.1)]) (And.intro rfl (And.intro rfl (And.intro rfl (And.intro rfl trivial)))) (md_bars_j67l31_x hC hd h h0 h1)
    · rw [if_neg c5] at h
      obtain ⟨k6, h⟩ := mj_ifn h
      refine mj_gcp hC 6 ?_
      show _ ∧ (P (55, [some (.ref 68), some (.int v1), some (.int s31.1), some (.int s31.2.1)], [.int (mj_I (s31.2.2 80 s31.2.1.toNatClampNeg)), .int s31.1, .int s31.1], (110, x), s31.2.2))
      refine And.intro k6 (?_)
      obtain ⟨q7, eq7, h⟩ := mj_bnd h
      refine mj_pcall hC rfl (md_common_x (Nat.le_trans (by decide) hd) eq7) ?_
      show P (58, [some (.ref 68), some (.int v1), some (.int s31.1), some (.int s31.2.1)], [.int q7, .int s31.1], (110, x), s31.2.2)
      obtain ⟨k8, h⟩ := mj_ifn h
      obtain ⟨k9, h⟩ := mj_ifn h
      refine mj_gcp hC 7 ?_
      show _ ∧ (_ ∧ (P (67, [some (.ref 68), some (.int v1), some (.int ((s31.1 / q7) * (mj_I (s31.2.2 80 s31.2.1.toNatClampNeg)))), some (.int s31.2.1)], [], (110, x), s31.2.2)))
      refine And.intro k8 (And.intro k9 (?_))
      exact mj_less hC (L0 := [some (.ref 68), some (.int v1), some (.int ((s31.1 / q7) * (mj_I (s31.2.2 80 s31.2.1.toNatClampNeg)))), some (.int s31.2.1)]) (And.intro rfl (And.intro rfl (And.intro rfl (And.intro rfl trivial)))) (md_bars_j67l31_x hC hd h h0 h1)
set_option maxRecDepth 20000 in
theorem md_bars_p {Ls tp ip x d : Nat} {Z : mj_X} {R : Option Value → mj_G → mj_M → Prop} {P : mj_K → Prop} (hC : mj_cls false (mj_sh Ls) (mj_rf tp ip) mj_dv mj_cd_238 (mj_Ex false (mj_sh Ls) (mj_rf tp ip) Z d) R P) (hd : 1 ≤ d) {v1 : Int32} {m : mj_M} {r : (Int32 × mj_M)} (h : md_bars v1 m = some r) (hR : R (some (.int r.1)) (110, x) r.2) : P (0, [some (.ref 68), some (.int v1), none, none], [], (110, x), m) := by
  unfold md_bars at h
  refine mj_gcp hC 5 ?_
  show P (mj_pick 19 9 (v1 < 0), [some (.ref 68), some (.int v1), none, none], [], (110, x), (mj_up m 68 2 (.int 0)))
  refine mj_pbr (fun c1 => ?_) (fun c1 => ?_)
  · rw [if_pos c1] at h
    refine mj_gcp hC 1 ?_
    show P (20, [some (.ref 68), some (.int v1), none, none], [.int (-1)], (110, x), (mj_up m 68 2 (.int 0)))
    cases h
    exact mj_pret hC rfl hR
  · rw [if_neg c1] at h
    refine mj_gcp hC 6 ?_
    show P (mj_pick 21 19 (v1 < ((1 : Int32) <<< ((mj_I (m 68 14)) &&& 31))), [some (.ref 68), some (.int v1), none, none], [], (110, x), (mj_up m 68 2 (.int 0)))
    refine mj_pbr (fun c2 => ?_) (fun c2 => ?_)
    · rw [if_pos c2] at h
      refine mj_gcp hC 2 ?_
      show P (mj_pick 25 27 (v1 = 0), [some (.ref 68), some (.int v1), none, none], [], (110, x), (mj_up m 68 2 (.int 0)))
      refine mj_pbr (fun c3 => ?_) (fun c3 => ?_)
      · rw [if_pos c3] at h
        refine mj_gcp hC 1 ?_
        show P (26, [some (.ref 68), some (.int v1), none, none], [.int 0], (110, x), (mj_up m 68 2 (.int 0)))
        cases h
        exact mj_pret hC rfl hR
      · rw [if_neg c3] at h
        refine mj_gcp hC 4 ?_
        show P (31, [some (.ref 68), some (.int v1), some (.int 1), some (.int 0)], [], (110, x), (mj_up m 68 2 (.int 0)))
        obtain ⟨q10, eq10, h⟩ := mj_bnd h
        refine mj_less hC (L0 := [some (.ref 68), some (.int v1), some (.int 1), some (.int 0)]) (And.intro rfl (And.intro rfl (And.intro rfl (And.intro rfl trivial)))) ?_
        refine mj_loop_P (A := fun z31 => P (31, [some (.ref 68), some (.int v1), some (.int z31.1), some (.int z31.2.1)], [], (110, x), z31.2.2)) (E := fun _ z31 => P (73, [none, none, some (.int z31.1), none], [], (110, x), z31.2.2)) (fun zz t w hb h0 h1 => md_bars_l31_x hC hd zz hb h0 (fun ht => h1 0 ht)) mj_F _ q10 eq10 ?_
        refine mj_gcp hC 1 ?_
        show P (74, [none, none, some (.int q10.2.1), none], [.int q10.2.1], (110, x), q10.2.2.2)
        cases h
        exact mj_pret hC rfl hR
    · rw [if_neg c2] at h
      refine mj_gcp hC 1 ?_
      show P (20, [some (.ref 68), some (.int v1), none, none], [.int (-1)], (110, x), (mj_up m 68 2 (.int 0)))
      cases h
      exact mj_pret hC rfl hR
set_option maxRecDepth 20000 in
theorem md_bars_x {Ls tp ip x d : Nat} {Z : mj_X} (hd : 2 ≤ d) {v1 : Int32} {m : mj_M} {r : (Int32 × mj_M)} (h : md_bars v1 m = some r) : mj_Ex false (mj_sh Ls) (mj_rf tp ip) Z d 238 [.ref 68, .int v1] (110, x) m (some (.int r.1)) (110, x) r.2 := by
  exact mj_Ex_of (cd := mj_cd_238) (L := [some (.ref 68), some (.int v1), none, none]) (by omega) (by decide) rfl (Nat.le_of_ble_eq_true rfl) rfl (fun P hC => md_bars_p hC (by omega) h ⟨rfl, rfl, rfl⟩)
def md_meet_l55  (v1 : Int32) (v3 : Int32) (v4 : Int32) (s55 : (Int32 × mj_M)) : Option (Nat × (Int32 × mj_M)) :=
  (if v4 ≤ s55.1 then some (1, (s55.1, s55.2)) else
  some (0, ((s55.1 + v1), s55.2)))
def md_meet_l74  (v1 : Int32) (v3 : Int32) (v4 : Int32) (s74 : (Int32 × Int32 × mj_M)) : Option (Nat × (Int32 × Int32 × mj_M)) :=
  (if v3 ≤ s74.2.1 then some (2, (s74.1, s74.2.1, s74.2.2)) else
  (if (v3 : Int32) = 0 then none else
  (if ((s74.1 - v4) - (s74.1 - v4) / v3 * v3) = 0 then some (1, (s74.1, s74.2.1, s74.2.2)) else
  some (0, ((s74.1 + v1), (s74.2.1 + 1), s74.2.2)))))
def md_meet  (v1 : Int32) (v2 : Int32) (v3 : Int32) (v4 : Int32) (m : mj_M) : Option (Int32 × mj_M) :=
  (if (md_isIn v1 1 999 (mj_up m 68 2 (.int 0))) = 0 then some ((-1), (mj_up m 68 2 (.int 0))) else
  (if (md_isIn v3 1 999 (mj_up m 68 2 (.int 0))) = 0 then some ((-1), (mj_up m 68 2 (.int 0))) else
  (if (md_isIn v2 0 999 (mj_up m 68 2 (.int 0))) = 0 then some ((-1), (mj_up m 68 2 (.int 0))) else
  (if (md_isIn v4 0 999 (mj_up m 68 2 (.int 0))) = 0 then some ((-1), (mj_up m 68 2 (.int 0))) else
  (mj_loop (md_meet_l55 v1 v3 v4) mj_F (v2, (mj_up m 68 2 (.int 0)))).bind fun q6 =>
  (mj_loop (md_meet_l74 v1 v3 v4) mj_F (q6.2.1, 0, q6.2.2)).bind fun q10 =>
  (if q10.1 = 0 then some (q10.2.1, q10.2.2.2) else some ((-2), q10.2.2.2))))))
set_option maxRecDepth 20000 in
theorem md_meet_l55_x {Ls tp ip x d : Nat} {Z : mj_X} {R : Option Value → mj_G → mj_M → Prop} {P : mj_K → Prop} (hC : mj_cls false (mj_sh Ls) (mj_rf tp ip) mj_dv mj_cd_239 (mj_Ex false (mj_sh Ls) (mj_rf tp ip) Z d) R P) (hd : 1 ≤ d) {v1 : Int32} {v3 : Int32} {v4 : Int32} (s55 : (Int32 × mj_M)) {t : Nat} {w : (Int32 × mj_M)} (h : md_meet_l55 v1 v3 v4 s55 = some (t, w)) (h0 : t = 0 → P (55, [none, some (.int v1), none, some (.int v3), some (.int v4), some (.int w.1), none], [], (110, x), w.2)) (h1 : t = 1 → P (71, [none, some (.int v1), none, some (.int v3), some (.int v4), some (.int w.1), none], [], (110, x), w.2)) : P (55, [none, some (.int v1), none, some (.int v3), some (.int v4), some (.int s55.1), none], [], (110, x), s55.2) := by
  unfold md_meet_l55 at h
  refine mj_gcp hC 3 ?_
  show P (mj_pick 71 62 (v4 ≤ s55.1), [none, some (.int v1), none, some (.int v3), some (.int v4), some (.int s55.1), none], [], (110, x), s55.2)
  refine mj_pbr (fun c5 => ?_) (fun c5 => ?_)
  · rw [if_pos c5] at h
    cases h
    exact mj_less hC (L0 := [none, some (.int v1), none, some (.int v3), some (.int v4), some (.int s55.1), none]) (And.intro rfl (And.intro rfl (And.intro rfl (And.intro rfl trivial)))) (h1 rfl)
  · rw [if_neg c5] at h
    refine mj_gcp hC 5 ?_
    show P (55, [none, some (.int v1), none, some (.int v3), some (.int v4), some (.int (s55.1 + v1)), none], [], (110, x), s55.2)
    cases h
    exact mj_less hC (L0 := [none, some (.int v1), none, some (.int v3), some (.int v4), some (.int (s55.1 + v1)), none]) (And.intro rfl (And.intro rfl (And.intro rfl (And.intro rfl trivial)))) (h0 rfl)
set_option maxRecDepth 20000 in
theorem md_meet_l74_x {Ls tp ip x d : Nat} {Z : mj_X} {R : Option Value → mj_G → mj_M → Prop} {P : mj_K → Prop} (hC : mj_cls false (mj_sh Ls) (mj_rf tp ip) mj_dv mj_cd_239 (mj_Ex false (mj_sh Ls) (mj_rf tp ip) Z d) R P) (hd : 1 ≤ d) {v1 : Int32} {v3 : Int32} {v4 : Int32} (s74 : (Int32 × Int32 × mj_M)) {t : Nat} {w : (Int32 × Int32 × mj_M)} (h : md_meet_l74 v1 v3 v4 s74 = some (t, w)) (h0 : t = 0 → P (74, [none, some (.int v1), none, some (.int v3), some (.int v4), some (.int w.1), some (.int w.2.1)], [], (110, x), w.2.2)) (h1 : t = 1 → P (90, [none, none, none, none, none, some (.int w.1), none], [], (110, x), w.2.2)) (h2 : t = 2 → P (105, [none, none, none, none, none, none, none], [], (110, x), w.2.2)) : P (74, [none, some (.int v1), none, some (.int v3), some (.int v4), some (.int s74.1), some (.int s74.2.1)], [], (110, x), s74.2.2) := by
  unfold md_meet_l74 at h
  refine mj_gcp hC 3 ?_
  show P (mj_pick 105 80 (v3 ≤ s74.2.1), [none, some (.int v1), none, some (.int v3), some (.int v4), some (.int s74.1), some (.int s74.2.1)], [], (110, x), s74.2.2)
  refine mj_pbr (fun c7 => ?_) (fun c7 => ?_)
  · rw [if_pos c7] at h
    cases h
    exact mj_less hC (L0 := [none, none, none, none, none, none, none]) trivial (h2 rfl)
  · rw [if_neg c7] at h
    obtain ⟨k8, h⟩ := mj_ifn h
    refine mj_gcp hC 6 ?_
    show _ ∧ (P (mj_pick 90 93 (((s74.1 - v4) - (s74.1 - v4) / v3 * v3) = 0), [none, some (.int v1), none, some (.int v3), some (.int v4), some (.int s74.1), some (.int s74.2.1)], [], (110, x), s74.2.2))
    refine And.intro k8 (?_)
    refine mj_pbr (fun c9 => ?_) (fun c9 => ?_)
    · rw [if_pos c9] at h
      cases h
      exact mj_less hC (L0 := [none, none, none, none, none, some (.int s74.1), none]) (And.intro rfl trivial) (h1 rfl)
    · rw [if_neg c9] at h
      refine mj_gcp hC 6 ?_
      show P (74, [none, some (.int v1), none, some (.int v3), some (.int v4), some (.int (s74.1 + v1)), some (.int (s74.2.1 + 1))], [], (110, x), s74.2.2)
      cases h
      exact mj_less hC (L0 := [none, some (.int v1), none, some (.int v3), some (.int v4), some (.int (s74.1 + v1)), some (.int (s74.2.1 + 1))]) (And.intro rfl (And.intro rfl (And.intro rfl (And.intro rfl (And.intro rfl trivial))))) (h0 rfl)
set_option maxRecDepth 20000 in
theorem md_meet_p {Ls tp ip x d : Nat} {Z : mj_X} {R : Option Value → mj_G → mj_M → Prop} {P : mj_K → Prop} (hC : mj_cls false (mj_sh Ls) (mj_rf tp ip) mj_dv mj_cd_239 (mj_Ex false (mj_sh Ls) (mj_rf tp ip) Z d) R P) (hd : 1 ≤ d) {v1 : Int32} {v2 : Int32} {v3 : Int32} {v4 : Int32} {m : mj_M} {r : (Int32 × mj_M)} (h : md_meet v1 v2 v3 v4 m = some r) (hR : R (some (.int r.1)) (110, x) r.2) : P (0, [some (.ref 68), some (.int v1), some (.int v2), some (.int v3), some (.int v4), none, none], [], (110, x), m) := by
  unfold md_meet at h
  refine mj_gcp hC 6 ?_
  show P (10, [some (.ref 68), some (.int v1), some (.int v2), some (.int v3), some (.int v4), none, none], [.int 999, .int 1, .int v1], (110, x), (mj_up m 68 2 (.int 0)))
  refine mj_pcall hC rfl (md_isIn_x (Nat.le_trans (by decide) hd)) ?_
  show P (13, [some (.ref 68), some (.int v1), some (.int v2), some (.int v3), some (.int v4), none, none], [.int (md_isIn v1 1 999 (mj_up m 68 2 (.int 0)))], (110, x), (mj_up m 68 2 (.int 0)))
  refine mj_gcp hC 1 ?_
  show P (mj_pick 50 16 ((md_isIn v1 1 999 (mj_up m 68 2 (.int 0))) = 0), [some (.ref 68), some (.int v1), some (.int v2), some (.int v3), some (.int v4), none, none], [], (110, x), (mj_up m 68 2 (.int 0)))
  refine mj_pbr (fun c1 => ?_) (fun c1 => ?_)
  · rw [if_pos c1] at h
    refine mj_gcp hC 1 ?_
    show P (51, [some (.ref 68), some (.int v1), some (.int v2), some (.int v3), some (.int v4), none, none], [.int (-1)], (110, x), (mj_up m 68 2 (.int 0)))
    cases h
    exact mj_pret hC rfl hR
  · rw [if_neg c1] at h
    refine mj_gcp hC 3 ?_
    show P (21, [some (.ref 68), some (.int v1), some (.int v2), some (.int v3), some (.int v4), none, none], [.int 999, .int 1, .int v3], (110, x), (mj_up m 68 2 (.int 0)))
    refine mj_pcall hC rfl (md_isIn_x (Nat.le_trans (by decide) hd)) ?_
    show P (24, [some (.ref 68), some (.int v1), some (.int v2), some (.int v3), some (.int v4), none, none], [.int (md_isIn v3 1 999 (mj_up m 68 2 (.int 0)))], (110, x), (mj_up m 68 2 (.int 0)))
    refine mj_gcp hC 1 ?_
    show P (mj_pick 50 27 ((md_isIn v3 1 999 (mj_up m 68 2 (.int 0))) = 0), [some (.ref 68), some (.int v1), some (.int v2), some (.int v3), some (.int v4), none, none], [], (110, x), (mj_up m 68 2 (.int 0)))
    refine mj_pbr (fun c2 => ?_) (fun c2 => ?_)
    · rw [if_pos c2] at h
      refine mj_gcp hC 1 ?_
      show P (51, [some (.ref 68), some (.int v1), some (.int v2), some (.int v3), some (.int v4), none, none], [.int (-1)], (110, x), (mj_up m 68 2 (.int 0)))
      cases h
      exact mj_pret hC rfl hR
    · rw [if_neg c2] at h
      refine mj_gcp hC 3 ?_
      show P (32, [some (.ref 68), some (.int v1), some (.int v2), some (.int v3), some (.int v4), none, none], [.int 999, .int 0, .int v2], (110, x), (mj_up m 68 2 (.int 0)))
      refine mj_pcall hC rfl (md_isIn_x (Nat.le_trans (by decide) hd)) ?_
      show P (35, [some (.ref 68), some (.int v1), some (.int v2), some (.int v3), some (.int v4), none, none], [.int (md_isIn v2 0 999 (mj_up m 68 2 (.int 0)))], (110, x), (mj_up m 68 2 (.int 0)))
      refine mj_gcp hC 1 ?_
      show P (mj_pick 50 38 ((md_isIn v2 0 999 (mj_up m 68 2 (.int 0))) = 0), [some (.ref 68), some (.int v1), some (.int v2), some (.int v3), some (.int v4), none, none], [], (110, x), (mj_up m 68 2 (.int 0)))
      refine mj_pbr (fun c3 => ?_) (fun c3 => ?_)
      · rw [if_pos c3] at h
        refine mj_gcp hC 1 ?_
        show P (51, [some (.ref 68), some (.int v1), some (.int v2), some (.int v3), some (.int v4), none, none], [.int (-1)], (110, x), (mj_up m 68 2 (.int 0)))
        cases h
        exact mj_pret hC rfl hR
      · rw [if_neg c3] at h
        refine mj_gcp hC 3 ?_
        show P (44, [some (.ref 68), some (.int v1), some (.int v2), some (.int v3), some (.int v4), none, none], [.int 999, .int 0, .int v4], (110, x), (mj_up m 68 2 (.int 0)))
        refine mj_pcall hC rfl (md_isIn_x (Nat.le_trans (by decide) hd)) ?_
        show P (47, [some (.ref 68), some (.int v1), some (.int v2), some (.int v3), some (.int v4), none, none], [.int (md_isIn v4 0 999 (mj_up m 68 2 (.int 0)))], (110, x), (mj_up m 68 2 (.int 0)))
        refine mj_gcp hC 1 ?_
        show P (mj_pick 50 52 ((md_isIn v4 0 999 (mj_up m 68 2 (.int 0))) = 0), [some (.ref 68), some (.int v1), some (.int v2), some (.int v3), some (.int v4), none, none], [], (110, x), (mj_up m 68 2 (.int 0)))
        refine mj_pbr (fun c4 => ?_) (fun c4 => ?_)
        · rw [if_pos c4] at h
          refine mj_gcp hC 1 ?_
          show P (51, [some (.ref 68), some (.int v1), some (.int v2), some (.int v3), some (.int v4), none, none], [.int (-1)], (110, x), (mj_up m 68 2 (.int 0)))
          cases h
          exact mj_pret hC rfl hR
        · rw [if_neg c4] at h
          refine mj_gcp hC 2 ?_
          show P (55, [some (.ref 68), some (.int v1), some (.int v2), some (.int v3), some (.int v4), some (.int v2), none], [], (110, x), (mj_up m 68 2 (.int 0)))
          obtain ⟨q6, eq6, h⟩ := mj_bnd h
          refine mj_less hC (L0 := [none, some (.int v1), none, some (.int v3), some (.int v4), some (.int v2), none]) (And.intro rfl (And.intro rfl (And.intro rfl (And.intro rfl trivial)))) ?_
          refine mj_loop_P (A := fun z55 => P (55, [none, some (.int v1), none, some (.int v3), some (.int v4), some (.int z55.1), none], [], (110, x), z55.2)) (E := fun _ z55 => P (71, [none, some (.int v1), none, some (.int v3), some (.int v4), some (.int z55.1), none], [], (110, x), z55.2)) (fun zz t w hb h0 h1 => md_meet_l55_x hC hd zz hb h0 (fun ht => h1 0 ht)) mj_F _ q6 eq6 ?_
          refine mj_gcp hC 2 ?_
          show P (74, [none, some (.int v1), none, some (.int v3), some (.int v4), some (.int q6.2.1), some (.int 0)], [], (110, x), q6.2.2)
          obtain ⟨q10, eq10, h⟩ := mj_bnd h
          refine mj_less hC (L0 := [none, some (.int v1), none, some (.int v3), some (.int v4), some (.int q6.2.1), some (.int 0)]) (And.intro rfl (And.intro rfl (And.intro rfl (And.intro rfl (And.intro rfl trivial))))) ?_
          refine mj_loop_P (A := fun z74 => P (74, [none, some (.int v1), none, some (.int v3), some (.int v4), some (.int z74.1), some (.int z74.2.1)], [], (110, x), z74.2.2)) (E := fun j z74 => (j = 0 → P (90, [none, none, none, none, none, some (.int z74.1), none], [], (110, x), z74.2.2)) ∧ (¬ j = 0 → P (105, [none, none, none, none, none, none, none], [], (110, x), z74.2.2))) (fun zz t w hb h0 h1 => md_meet_l74_x hC hd zz hb h0 (fun ht => (h1 0 ht).1 rfl) (fun ht => (h1 1 ht).2 (by decide))) mj_F _ q10 eq10 ⟨fun hj => ?_, fun hj => ?_⟩
          · rw [if_pos hj] at h
            refine mj_gcp hC 1 ?_
            show P (92, [none, none, none, none, none, some (.int q10.2.1), none], [.int q10.2.1], (110, x), q10.2.2.2)
            cases h
            exact mj_pret hC rfl hR
          · rw [if_neg hj] at h
            refine mj_gcp hC 1 ?_
            show P (107, [none, none, none, none, none, none, none], [.int (-2)], (110, x), q10.2.2.2)
            cases h
            exact mj_pret hC rfl hR
set_option maxRecDepth 20000 in
theorem md_meet_x {Ls tp ip x d : Nat} {Z : mj_X} (hd : 2 ≤ d) {v1 : Int32} {v2 : Int32} {v3 : Int32} {v4 : Int32} {m : mj_M} {r : (Int32 × mj_M)} (h : md_meet v1 v2 v3 v4 m = some r) : mj_Ex false (mj_sh Ls) (mj_rf tp ip) Z d 239 [.ref 68, .int v1, .int v2, .int v3, .int v4] (110, x) m (some (.int r.1)) (110, x) r.2 := by
  exact mj_Ex_of (cd := mj_cd_239) (L := [some (.ref 68), some (.int v1), some (.int v2), some (.int v3), some (.int v4), none, none]) (by omega) (by decide) rfl (Nat.le_of_ble_eq_true rfl) rfl (fun P hC => md_meet_p hC (by omega) h ⟨rfl, rfl, rfl⟩)
def md_manyOf_l4  (v0 : Int32) (m : mj_M) (s4 : (Int32 × Int32)) : Option (Nat × (Int32 × Int32)) :=
  (if 8 ≤ s4.2 then some (1, (s4.1, s4.2)) else
  some (0, ((s4.1 + ((v0 >>> (s4.2 &&& 31)) &&& 1)), (s4.2 + 1))))
def md_manyOf  (v0 : Int32) (m : mj_M) : Option Int32 :=
  (mj_loop (md_manyOf_l4 v0 m) mj_F (0, 0)).bind fun q2 =>
  some q2.2.1
set_option maxRecDepth 20000 in
theorem md_manyOf_l4_x {Ls tp ip x d : Nat} {Z : mj_X} {R : Option Value → mj_G → mj_M → Prop} {P : mj_K → Prop} (hC : mj_cls false (mj_sh Ls) (mj_rf tp ip) mj_dv mj_cd_240 (mj_Ex false (mj_sh Ls) (mj_rf tp ip) Z d) R P) (hd : 0 ≤ d) {v0 : Int32} {m : mj_M} (s4 : (Int32 × Int32)) {t : Nat} {w : (Int32 × Int32)} (h : md_manyOf_l4 v0 m s4 = some (t, w)) (h0 : t = 0 → P (4, [some (.int v0), some (.int w.1), some (.int w.2)], [], (110, x), m)) (h1 : t = 1 → P (24, [none, some (.int w.1), none], [], (110, x), m)) : P (4, [some (.int v0), some (.int s4.1), some (.int s4.2)], [], (110, x), m) := by
  unfold md_manyOf_l4 at h
  refine mj_gcp hC 3 ?_
  show P (mj_pick 24 10 (8 ≤ s4.2), [some (.int v0), some (.int s4.1), some (.int s4.2)], [], (110, x), m)
  refine mj_pbr (fun c1 => ?_) (fun c1 => ?_)
  · rw [if_pos c1] at h
    cases h
    exact mj_less hC (L0 := [none, some (.int s4.1), none]) (And.intro rfl trivial) (h1 rfl)
  · rw [if_neg c1] at h
    refine mj_gcp hC 10 ?_
    show P (4, [some (.int v0), some (.int (s4.1 + ((v0 >>> (s4.2 &&& 31)) &&& 1))), some (.int (s4.2 + 1))], [], (110, x), m)
    cases h
    exact mj_less hC (L0 := [some (.int v0), some (.int (s4.1 + ((v0 >>> (s4.2 &&& 31)) &&& 1))), some (.int (s4.2 + 1))]) (And.intro rfl (And.intro rfl (And.intro rfl trivial))) (h0 rfl)
set_option maxRecDepth 20000 in
theorem md_manyOf_p {Ls tp ip x d : Nat} {Z : mj_X} {R : Option Value → mj_G → mj_M → Prop} {P : mj_K → Prop} (hC : mj_cls false (mj_sh Ls) (mj_rf tp ip) mj_dv mj_cd_240 (mj_Ex false (mj_sh Ls) (mj_rf tp ip) Z d) R P) (hd : 0 ≤ d) {v0 : Int32} {m : mj_M} {r : Int32} (h : md_manyOf v0 m = some r) (hR : R (some (.int r)) (110, x) m) : P (0, [some (.int v0), none, none], [], (110, x), m) := by
  unfold md_manyOf at h
  refine mj_gcp hC 4 ?_
  show P (4, [some (.int v0), some (.int 0), some (.int 0)], [], (110, x), m)
  obtain ⟨q2, eq2, h⟩ := mj_bnd h
  refine mj_less hC (L0 := [some (.int v0), some (.int 0), some (.int 0)]) (And.intro rfl (And.intro rfl (And.intro rfl trivial))) ?_
  refine mj_loop_P (A := fun z4 => P (4, [some (.int v0), some (.int z4.1), some (.int z4.2)], [], (110, x), m)) (E := fun _ z4 => P (24, [none, some (.int z4.1), none], [], (110, x), m)) (fun zz t w hb h0 h1 => md_manyOf_l4_x hC hd zz hb h0 (fun ht => h1 0 ht)) mj_F _ q2 eq2 ?_
  refine mj_gcp hC 1 ?_
  show P (25, [none, some (.int q2.2.1), none], [.int q2.2.1], (110, x), m)
  cases h
  exact mj_pret hC rfl hR
set_option maxRecDepth 20000 in
theorem md_manyOf_x {Ls tp ip x d : Nat} {Z : mj_X} (hd : 1 ≤ d) {v0 : Int32} {m : mj_M} {r : Int32} (h : md_manyOf v0 m = some r) : mj_Ex false (mj_sh Ls) (mj_rf tp ip) Z d 240 [.int v0] (110, x) m (some (.int r)) (110, x) m := by
  exact mj_Ex_of (cd := mj_cd_240) (L := [some (.int v0), none, none]) (by omega) (by decide) rfl (Nat.le_of_ble_eq_true rfl) rfl (fun P hC => md_manyOf_p hC (by omega) h ⟨rfl, rfl, rfl⟩)
def md_hereBits_j29l4   (v2 : Int32) (s0 : Int32) (s1 : Int32) (m : mj_M) : Option (Nat × (Int32 × Int32)) :=
  some (0, ((s0 ||| s1), (v2 + 1)))
def md_hereBits_l4   (m : mj_M) (s4 : (Int32 × Int32)) : Option (Nat × (Int32 × Int32)) :=
  (if (mj_I (m 68 12)) ≤ s4.2 then some (1, (s4.1, s4.2)) else
  (if s4.2 < 0 ∨ 12 ≤ (s4.2 : Int32).toNatClampNeg then none else
  (if (mj_I (m 97 s4.2.toNatClampNeg)) = 0 then md_hereBits_j29l4 s4.2 s4.1 0 m else
  md_hereBits_j29l4 s4.2 s4.1 ((1 : Int32) <<< (s4.2 &&& 31)) m)))
def md_hereBits   (m : mj_M) : Option Int32 :=
  (mj_loop (md_hereBits_l4 m) mj_F (0, 0)).bind fun q4 =>
  some q4.2.1
set_option maxRecDepth 20000 in
theorem md_hereBits_j29l4_x {Ls tp ip x d : Nat} {Z : mj_X} {R : Option Value → mj_G → mj_M → Prop} {P : mj_K → Prop} (hC : mj_cls false (mj_sh Ls) (mj_rf tp ip) mj_dv mj_cd_241 (mj_Ex false (mj_sh Ls) (mj_rf tp ip) Z d) R P) (hd : 0 ≤ d)  {v2 : Int32} {s0 : Int32} {s1 : Int32} {m : mj_M} {t : Nat} {w : (Int32 × Int32)} (h : md_hereBits_j29l4  v2 s0 s1 m = some (t, w)) (h0 : t = 0 → P (4, [some (.ref 68), some (.int w.1), some (.int w.2)], [], (110, x), m)) (h1 : t = 1 → P (37, [none, some (.int w.1), none], [], (110, x), m)) : P (29, [some (.ref 68), none, some (.int v2)], [.int s1, .int s0], (110, x), m) := by
  unfold md_hereBits_j29l4 at h
  refine mj_gcp hC 4 ?_
  show P (4, [some (.ref 68), some (.int (s0 ||| s1)), some (.int (v2 + 1))], [], (110, x), m)
  cases h
  exact mj_less hC (L0 := [some (.ref 68), some (.int (s0 ||| s1)), some (.int (v2 + 1))]) (And.intro rfl (And.intro rfl (And.intro rfl trivial))) (h0 rfl)
set_option maxRecDepth 20000 in
theorem md_hereBits_l4_x {Ls tp ip x d : Nat} {Z : mj_X} {R : Option Value → mj_G → mj_M → Prop} {P : mj_K → Prop} (hC : mj_cls false (mj_sh Ls) (mj_rf tp ip) mj_dv mj_cd_241 (mj_Ex false (mj_sh Ls) (mj_rf tp ip) Z d) R P) (hd : 0 ≤ d)  {m : mj_M} (s4 : (Int32 × Int32)) {t : Nat} {w : (Int32 × Int32)} (h : md_hereBits_l4 m s4 = some (t, w)) (h0 : t = 0 → P (4, [some (.ref 68), some (.int w.1), some (.int w.2)], [], (110, x), m)) (h1 : t = 1 → P (37, [none, some (.int w.1), none], [], (110, x), m)) : P (4, [some (.ref 68), some (.int s4.1), some (.int s4.2)], [], (110, x), m) := by
  unfold md_hereBits_l4 at h
  refine mj_gcp hC 4 ?_
  show P (mj_pick 37 12 ((mj_I (m 68 12)) ≤ s4.2), [some (.ref 68), some (.int s4.1), some (.int s4.2)], [], (110, x), m)
  refine mj_pbr (fun c1 => ?_) (fun c1 => ?_)
  · rw [if_pos c1] at h
    cases h
    exact mj_less hC (L0 := [none, some (.int s4.1), none]) (And.intro rfl trivial) (h1 rfl)
  · rw [if_neg c1] at h
    obtain ⟨k2, h⟩ := mj_ifn h
    refine mj_gcp hC 6 ?_
    show _ ∧ (P (mj_pick 28 22 ((mj_I (m 97 s4.2.toNatClampNeg)) = 0), [some (.ref 68), some (.int s4.1), some (.int s4.2)], [.int s4.1], (110, x), m))
    refine And.intro k2 (?_)
    refine mj_pbr (fun c3 => ?_) (fun c3 => ?_)
    · rw [if_pos c3] at h
      refine mj_gcp hC 1 ?_
      show P (29, [some (.ref 68), some (.int s4.1), some (.int s4.2)], [.int 0, .int s4.1], (110, x), m)
      exact mj_less hC (L0 := [some (.ref 68), none, some (.int s4.2)]) (And.intro rfl (And.intro rfl trivial)) (md_hereBits_j29l4_x hC hd h h0 h1)
    · rw [if_neg c3] at h
      refine mj_gcp hC 4 ?_
      show P (29, [some (.ref 68), some (.int s4.1), some (.int s4.2)], [.int ((1 : Int32) <<< (s4.2 &&& 31)), .int s4.1], (110, x), m)
      exact mj_less hC (L0 := [some (.ref 68), none, some (.int s4.2)]) (And.intro rfl (And.intro rfl trivial)) (md_hereBits_j29l4_x hC hd h h0 h1)
set_option maxRecDepth 20000 in
theorem md_hereBits_p {Ls tp ip x d : Nat} {Z : mj_X} {R : Option Value → mj_G → mj_M → Prop} {P : mj_K → Prop} (hC : mj_cls false (mj_sh Ls) (mj_rf tp ip) mj_dv mj_cd_241 (mj_Ex false (mj_sh Ls) (mj_rf tp ip) Z d) R P) (hd : 0 ≤ d)  {m : mj_M} {r : Int32} (h : md_hereBits m = some r) (hR : R (some (.int r)) (110, x) m) : P (0, [some (.ref 68), none, none], [], (110, x), m) := by
  unfold md_hereBits at h
  refine mj_gcp hC 4 ?_
  show P (4, [some (.ref 68), some (.int 0), some (.int 0)], [], (110, x), m)
  obtain ⟨q4, eq4, h⟩ := mj_bnd h
  refine mj_less hC (L0 := [some (.ref 68), some (.int 0), some (.int 0)]) (And.intro rfl (And.intro rfl (And.intro rfl trivial))) ?_
  refine mj_loop_P (A := fun z4 => P (4, [some (.ref 68), some (.int z4.1), some (.int z4.2)], [], (110, x), m)) (E := fun _ z4 => P (37, [none, some (.int z4.1), none], [], (110, x), m)) (fun zz t w hb h0 h1 => md_hereBits_l4_x hC hd zz hb h0 (fun ht => h1 0 ht)) mj_F _ q4 eq4 ?_
  refine mj_gcp hC 1 ?_
  show P (38, [none, some (.int q4.2.1), none], [.int q4.2.1], (110, x), m)
  cases h
  exact mj_pret hC rfl hR
set_option maxRecDepth 20000 in
theorem md_hereBits_x {Ls tp ip x d : Nat} {Z : mj_X} (hd : 1 ≤ d)  {m : mj_M} {r : Int32} (h : md_hereBits m = some r) : mj_Ex false (mj_sh Ls) (mj_rf tp ip) Z d 241 [.ref 68] (110, x) m (some (.int r)) (110, x) m := by
  exact mj_Ex_of (cd := mj_cd_241) (L := [some (.ref 68), none, none]) (by omega) (by decide) rfl (Nat.le_of_ble_eq_true rfl) rfl (fun P hC => md_hereBits_p hC (by omega) h ⟨rfl, rfl, rfl⟩)
def md_comesTo_j54l22   (v2 : Int32) (v3 : Int32) (v4 : Int32) (v5 : Int32) (v6 : Int32)  (m : mj_M) : Option (Nat × (Int32 × Int32)) :=
  some (0, (v5, (v6 + 1)))
def md_comesTo_l22  (v2 : Int32) (v3 : Int32) (v4 : Int32) (m : mj_M) (s22 : (Int32 × Int32)) : Option (Nat × (Int32 × Int32)) :=
  (if (mj_I (m 68 12)) ≤ s22.2 then some (1, (s22.1, s22.2)) else
  (if (md_isOf v3 s22.2 m) = 0 then md_comesTo_j54l22 v2 v3 v4 s22.1 s22.2 m else
  (if s22.2 < 0 ∨ 12 ≤ (s22.2 : Int32).toNatClampNeg then none else
  md_comesTo_j54l22 v2 v3 v4 (s22.1 ||| ((mj_I (m 76 s22.2.toNatClampNeg)) &&& v2)) s22.2 m)))
def md_comesTo_l7  (v2 : Int32) (m : mj_M) (s7 : (Int32 × Int32)) : Option (Nat × (Int32 × Int32)) :=
  (if (mj_I (m 68 12)) ≤ s7.2 then some (1, (s7.1, s7.2)) else
  (mj_loop (md_comesTo_l22 v2 s7.1 s7.2 m) mj_F (s7.1, 0)).bind fun q5 =>
  some (0, (q5.2.1, (s7.2 + 1))))
def md_comesTo  (v1 : Int32) (v2 : Int32) (m : mj_M) : Option Int32 :=
  (mj_loop (md_comesTo_l7 v2 m) mj_F (((1 : Int32) <<< (v1 &&& 31)), 0)).bind fun q6 =>
  some q6.2.1
set_option maxRecDepth 20000 in
theorem md_comesTo_j54l22_x {Ls tp ip x d : Nat} {Z : mj_X} {R : Option Value → mj_G → mj_M → Prop} {P : mj_K → Prop} (hC : mj_cls false (mj_sh Ls) (mj_rf tp ip) mj_dv mj_cd_242 (mj_Ex false (mj_sh Ls) (mj_rf tp ip) Z d) R P) (hd : 1 ≤ d)  {v2 : Int32} {v3 : Int32} {v4 : Int32} {v5 : Int32} {v6 : Int32}  {m : mj_M} {t : Nat} {w : (Int32 × Int32)} (h : md_comesTo_j54l22  v2 v3 v4 v5 v6 m = some (t, w)) (h0 : t = 0 → P (22, [some (.ref 68), none, some (.int v2), some (.int v3), some (.int v4), some (.int w.1), some (.int w.2)], [], (110, x), m)) (h1 : t = 1 → P (60, [some (.ref 68), none, some (.int v2), none, some (.int v4), some (.int w.1), none], [], (110, x), m)) : P (54, [some (.ref 68), none, some (.int v2), some (.int v3), some (.int v4), some (.int v5), some (.int v6)], [], (110, x), m) := by
  unfold md_comesTo_j54l22 at h
  refine mj_gcp hC 2 ?_
  show P (22, [some (.ref 68), none, some (.int v2), some (.int v3), some (.int v4), some (.int v5), some (.int (v6 + 1))], [], (110, x), m)
  cases h
  exact mj_less hC (L0 := [some (.ref 68), none, some (.int v2), some (.int v3), some (.int v4), some (.int v5), some (.int (v6 + 1))]) (And.intro rfl (And.intro rfl (And.intro rfl (And.intro rfl (And.intro rfl (And.intro rfl trivial)))))) (h0 rfl)
set_option maxRecDepth 20000 in
theorem md_comesTo_l22_x {Ls tp ip x d : Nat} {Z : mj_X} {R : Option Value → mj_G → mj_M → Prop} {P : mj_K → Prop} (hC : mj_cls false (mj_sh Ls) (mj_rf tp ip) mj_dv mj_cd_242 (mj_Ex false (mj_sh Ls) (mj_rf tp ip) Z d) R P) (hd : 1 ≤ d) {v2 : Int32} {v3 : Int32} {v4 : Int32} {m : mj_M} (s22 : (Int32 × Int32)) {t : Nat} {w : (Int32 × Int32)} (h : md_comesTo_l22 v2 v3 v4 m s22 = some (t, w)) (h0 : t = 0 → P (22, [some (.ref 68), none, some (.int v2), some (.int v3), some (.int v4), some (.int w.1), some (.int w.2)], [], (110, x), m)) (h1 : t = 1 → P (60, [some (.ref 68), none, some (.int v2), none, some (.int v4), some (.int w.1), none], [], (110, x), m)) : P (22, [some (.ref 68), none, some (.int v2), some (.int v3), some (.int v4), some (.int s22.1), some (.int s22.2)], [], (110, x), m) := by
  unfold md_comesTo_l22 at h
  refine mj_gcp hC 4 ?_
  show P (mj_pick 60 31 ((mj_I (m 68 12)) ≤ s22.2), [some (.ref 68), none, some (.int v2), some (.int v3), some (.int v4), some (.int s22.1), some (.int s22.2)], [], (110, x), m)
  refine mj_pbr (fun c2 => ?_) (fun c2 => ?_)
  · rw [if_pos c2] at h
    cases h
    exact mj_less hC (L0 := [some (.ref 68), none, some (.int v2), none, some (.int v4), some (.int s22.1), none]) (And.intro rfl (And.intro rfl (And.intro rfl (And.intro rfl trivial)))) (h1 rfl)
  · rw [if_neg c2] at h
    refine mj_gcp hC 2 ?_
    show P (34, [some (.ref 68), none, some (.int v2), some (.int v3), some (.int v4), some (.int s22.1), some (.int s22.2)], [.int s22.2, .int v3], (110, x), m)
    refine mj_pcall hC rfl (md_isOf_x (Nat.le_trans (by decide) hd)) ?_
    show P (37, [some (.ref 68), none, some (.int v2), some (.int v3), some (.int v4), some (.int s22.1), some (.int s22.2)], [.int (md_isOf v3 s22.2 m)], (110, x), m)
    refine mj_gcp hC 1 ?_
    show P (mj_pick 54 40 ((md_isOf v3 s22.2 m) = 0), [some (.ref 68), none, some (.int v2), some (.int v3), some (.int v4), some (.int s22.1), some (.int s22.2)], [], (110, x), m)
    refine mj_pbr (fun c3 => ?_) (fun c3 => ?_)
    · rw [if_pos c3] at h
      exact mj_less hC (L0 := [some (.ref 68), none, some (.int v2), some (.int v3), some (.int v4), some (.int s22.1), some (.int s22.2)]) (And.intro rfl (And.intro rfl (And.intro rfl (And.intro rfl (And.intro rfl (And.intro rfl trivial)))))) (md_comesTo_j54l22_x hC hd h h0 h1)
    · rw [if_neg c3] at h
      obtain ⟨k4, h⟩ := mj_ifn h
      refine mj_gcp hC 9 ?_
      show _ ∧ (P (54, [some (.ref 68), none, some (.int v2), some (.int v3), some (.int v4), some (.int (s22.1 ||| ((mj_I (m 76 s22.2.toNatClampNeg)) &&& v2))), some (.int s22.2)], [], (110, x), m))
      refine And.intro k4 (?_)
      exact mj_less hC (L0 := [some (.ref 68), none, some (.int v2), some (.int v3), some (.int v4), some (.int (s22.1 ||| ((mj_I (m 76 s22.2.toNatClampNeg)) &&& v2))), some (.int s22.2)]) (And.intro rfl (And.intro rfl (And.intro rfl (And.intro rfl (And.intro rfl (And.intro rfl trivial)))))) (md_comesTo_j54l22_x hC hd h h0 h1)
set_option maxRecDepth 20000 in
theorem md_comesTo_l7_x {Ls tp ip x d : Nat} {Z : mj_X} {R : Option Value → mj_G → mj_M → Prop} {P : mj_K → Prop} (hC : mj_cls false (mj_sh Ls) (mj_rf tp ip) mj_dv mj_cd_242 (mj_Ex false (mj_sh Ls) (mj_rf tp ip) Z d) R P) (hd : 1 ≤ d) {v2 : Int32} {m : mj_M} (s7 : (Int32 × Int32)) {t : Nat} {w : (Int32 × Int32)} (h : md_comesTo_l7 v2 m s7 = some (t, w)) (h0 : t = 0 → P (7, [some (.ref 68), none, some (.int v2), some (.int w.1), some (.int w.2), none, none], [], (110, x), m)) (h1 : t = 1 → P (69, [none, none, none, some (.int w.1), none, none, none], [], (110, x), m)) : P (7, [some (.ref 68), none, some (.int v2), some (.int s7.1), some (.int s7.2), none, none], [], (110, x), m) := by
  unfold md_comesTo_l7 at h
  refine mj_gcp hC 4 ?_
  show P (mj_pick 69 16 ((mj_I (m 68 12)) ≤ s7.2), [some (.ref 68), none, some (.int v2), some (.int s7.1), some (.int s7.2), none, none], [], (110, x), m)
  refine mj_pbr (fun c1 => ?_) (fun c1 => ?_)
  · rw [if_pos c1] at h
    cases h
    exact mj_less hC (L0 := [none, none, none, some (.int s7.1), none, none, none]) (And.intro rfl trivial) (h1 rfl)
  · rw [if_neg c1] at h
    refine mj_gcp hC 4 ?_
    show P (22, [some (.ref 68), none, some (.int v2), some (.int s7.1), some (.int s7.2), some (.int s7.1), some (.int 0)], [], (110, x), m)
    obtain ⟨q5, eq5, h⟩ := mj_bnd h
    refine mj_less hC (L0 := [some (.ref 68), none, some (.int v2), some (.int s7.1), some (.int s7.2), some (.int s7.1), some (.int 0)]) (And.intro rfl (And.intro rfl (And.intro rfl (And.intro rfl (And.intro rfl (And.intro rfl trivial)))))) ?_
    refine mj_loop_P (A := fun z22 => P (22, [some (.ref 68), none, some (.int v2), some (.int s7.1), some (.int s7.2), some (.int z22.1), some (.int z22.2)], [], (110, x), m)) (E := fun _ z22 => P (60, [some (.ref 68), none, some (.int v2), none, some (.int s7.2), some (.int z22.1), none], [], (110, x), m)) (fun zz t w hb h0 h1 => md_comesTo_l22_x hC hd zz hb h0 (fun ht => h1 0 ht)) mj_F _ q5 eq5 ?_
    refine mj_gcp hC 4 ?_
    show P (7, [some (.ref 68), none, some (.int v2), some (.int q5.2.1), some (.int (s7.2 + 1)), some (.int q5.2.1), none], [], (110, x), m)
    cases h
    exact mj_less hC (L0 := [some (.ref 68), none, some (.int v2), some (.int q5.2.1), some (.int (s7.2 + 1)), none, none]) (And.intro rfl (And.intro rfl (And.intro rfl (And.intro rfl trivial)))) (h0 rfl)
set_option maxRecDepth 20000 in
theorem md_comesTo_p {Ls tp ip x d : Nat} {Z : mj_X} {R : Option Value → mj_G → mj_M → Prop} {P : mj_K → Prop} (hC : mj_cls false (mj_sh Ls) (mj_rf tp ip) mj_dv mj_cd_242 (mj_Ex false (mj_sh Ls) (mj_rf tp ip) Z d) R P) (hd : 1 ≤ d) {v1 : Int32} {v2 : Int32} {m : mj_M} {r : Int32} (h : md_comesTo v1 v2 m = some r) (hR : R (some (.int r)) (110, x) m) : P (0, [some (.ref 68), some (.int v1), some (.int v2), none, none, none, none], [], (110, x), m) := by
  unfold md_comesTo at h
  refine mj_gcp hC 6 ?_
  show P (7, [some (.ref 68), some (.int v1), some (.int v2), some (.int ((1 : Int32) <<< (v1 &&& 31))), some (.int 0), none, none], [], (110, x), m)
  obtain ⟨q6, eq6, h⟩ := mj_bnd h
  refine mj_less hC (L0 := [some (.ref 68), none, some (.int v2), some (.int ((1 : Int32) <<< (v1 &&& 31))), some (.int 0), none, none]) (And.intro rfl (And.intro rfl (And.intro rfl (And.intro rfl trivial)))) ?_
  refine mj_loop_P (A := fun z7 => P (7, [some (.ref 68), none, some (.int v2), some (.int z7.1), some (.int z7.2), none, none], [], (110, x), m)) (E := fun _ z7 => P (69, [none, none, none, some (.int z7.1), none, none, none], [], (110, x), m)) (fun zz t w hb h0 h1 => md_comesTo_l7_x hC hd zz hb h0 (fun ht => h1 0 ht)) mj_F _ q6 eq6 ?_
  refine mj_gcp hC 1 ?_
  show P (70, [none, none, none, some (.int q6.2.1), none, none, none], [.int q6.2.1], (110, x), m)
  cases h
  exact mj_pret hC rfl hR
set_option maxRecDepth 20000 in
theorem md_comesTo_x {Ls tp ip x d : Nat} {Z : mj_X} (hd : 2 ≤ d) {v1 : Int32} {v2 : Int32} {m : mj_M} {r : Int32} (h : md_comesTo v1 v2 m = some r) : mj_Ex false (mj_sh Ls) (mj_rf tp ip) Z d 242 [.ref 68, .int v1, .int v2] (110, x) m (some (.int r)) (110, x) m := by
  exact mj_Ex_of (cd := mj_cd_242) (L := [some (.ref 68), some (.int v1), some (.int v2), none, none, none, none]) (by omega) (by decide) rfl (Nat.le_of_ble_eq_true rfl) rfl (fun P hC => md_comesTo_p hC (by omega) h ⟨rfl, rfl, rfl⟩)
def md_cut_j157l73   (v1 : Int32) (v2 : Int32) (v3 : Int32) (v4 : Int32) (v5 : Int32)  (m : mj_M) : Option (Nat × (Int32 × Int32 × mj_M)) :=
  some (0, (v4, (v5 + 1), m))
def md_cut_j135l73   (v1 : Int32) (v2 : Int32) (v3 : Int32) (v4 : Int32) (v5 : Int32)  (m : mj_M) : Option (Nat × (Int32 × Int32 × mj_M)) :=
  (md_comesTo v1 (v3 &&& (v5 ^^^ (-1))) m).bind fun q16 =>
  (if (md_isOf q16 v2 m) = 0 then md_cut_j157l73 v1 v2 v3 v5 v5 m else
  md_cut_j157l73 v1 v2 v3 v4 v5 m)
def md_cut_l73  (v1 : Int32) (v2 : Int32) (v3 : Int32) (s73 : (Int32 × Int32 × mj_M)) : Option (Nat × (Int32 × Int32 × mj_M)) :=
  (if ((1 : Int32) <<< ((mj_I (s73.2.2 68 12)) &&& 31)) ≤ s73.2.1 then some (1, (s73.1, s73.2.1, s73.2.2)) else
  (if (s73.2.1 &&& (v3 ^^^ (-1))) = 0 then (if (md_isOf s73.2.1 v1 s73.2.2) = 0 then (if (md_isOf s73.2.1 v2 s73.2.2) = 0 then (if s73.1 < 0 then md_cut_j135l73 v1 v2 v3 s73.1 s73.2.1 s73.2.2 else
  (md_manyOf s73.2.1 s73.2.2).bind fun q18 =>
  (md_manyOf s73.1 s73.2.2).bind fun q19 =>
  (if q18 < q19 then md_cut_j135l73 v1 v2 v3 s73.1 s73.2.1 s73.2.2 else
  md_cut_j157l73 v1 v2 v3 s73.1 s73.2.1 s73.2.2)) else
  md_cut_j157l73 v1 v2 v3 s73.1 s73.2.1 s73.2.2) else
  md_cut_j157l73 v1 v2 v3 s73.1 s73.2.1 s73.2.2) else
  md_cut_j157l73 v1 v2 v3 s73.1 s73.2.1 s73.2.2))
def md_cut  (v1 : Int32) (v2 : Int32) (m : mj_M) : Option (Int32 × mj_M) :=
  (if (md_isMan v1 (mj_up m 68 2 (.int 0))) = 0 then some ((-1), (mj_up m 68 2 (.int 0))) else
  (if (md_isMan v2 (mj_up m 68 2 (.int 0))) = 0 then some ((-1), (mj_up m 68 2 (.int 0))) else
  (if v1 = v2 then some ((-1), (mj_up m 68 2 (.int 0))) else
  (if v1 < 0 ∨ 12 ≤ (v1 : Int32).toNatClampNeg then none else
  (if (mj_I (m 97 v1.toNatClampNeg)) = 0 then some ((-1), (mj_up m 68 2 (.int 0))) else
  (if v2 < 0 ∨ 12 ≤ (v2 : Int32).toNatClampNeg then none else
  (if (mj_I (m 97 v2.toNatClampNeg)) = 0 then some ((-1), (mj_up m 68 2 (.int 0))) else
  (if v1 < 0 ∨ 12 ≤ (v1 : Int32).toNatClampNeg then none else
  (if (md_isOf (mj_I (m 76 v1.toNatClampNeg)) v2 (mj_up m 68 2 (.int 0))) = 0 then (md_hereBits (mj_up m 68 2 (.int 0))).bind fun q10 =>
  (mj_loop (md_cut_l73 v1 v2 q10) mj_F ((-1), 0, (mj_up m 68 2 (.int 0)))).bind fun q21 =>
  some (q21.2.1, q21.2.2.2) else
  some ((-2), (mj_up m 68 2 (.int 0))))))))))))
set_option maxRecDepth 20000 in
theorem md_cut_j157l73_x {Ls tp ip x d : Nat} {Z : mj_X} {R : Option Value → mj_G → mj_M → Prop} {P : mj_K → Prop} (hC : mj_cls false (mj_sh Ls) (mj_rf tp ip) mj_dv mj_cd_243 (mj_Ex false (mj_sh Ls) (mj_rf tp ip) Z d) R P) (hd : 2 ≤ d)  {v1 : Int32} {v2 : Int32} {v3 : Int32} {v4 : Int32} {v5 : Int32}  {m : mj_M} {t : Nat} {w : (Int32 × Int32 × mj_M)} (h : md_cut_j157l73  v1 v2 v3 v4 v5 m = some (t, w)) (h0 : t = 0 → P (73, [some (.ref 68), some (.int v1), some (.int v2), some (.int v3), some (.int w.1), some (.int w.2.1)], [], (110, x), w.2.2)) (h1 : t = 1 → P (163, [none, none, none, none, some (.int w.1), none], [], (110, x), w.2.2)) : P (157, [some (.ref 68), some (.int v1), some (.int v2), some (.int v3), some (.int v4), some (.int v5)], [], (110, x), m) := by
  unfold md_cut_j157l73 at h
  refine mj_gcp hC 2 ?_
  show P (73, [some (.ref 68), some (.int v1), some (.int v2), some (.int v3), some (.int v4), some (.int (v5 + 1))], [], (110, x), m)
  cases h
  exact mj_less hC (L0 := [some (.ref 68), some (.int v1), some (.int v2), some (.int v3), some (.int v4), some (.int (v5 + 1))]) (And.intro rfl (And.intro rfl (And.intro rfl (And.intro rfl (And.intro rfl (And.intro rfl trivial)))))) (h0 rfl)
set_option maxRecDepth 20000 in
theorem md_cut_j135l73_x {Ls tp ip x d : Nat} {Z : mj_X} {R : Option Value → mj_G → mj_M → Prop} {P : mj_K → Prop} (hC : mj_cls false (mj_sh Ls) (mj_rf tp ip) mj_dv mj_cd_243 (mj_Ex false (mj_sh Ls) (mj_rf tp ip) Z d) R P) (hd : 2 ≤ d)  {v1 : Int32} {v2 : Int32} {v3 : Int32} {v4 : Int32} {v5 : Int32}  {m : mj_M} {t : Nat} {w : (Int32 × Int32 × mj_M)} (h : md_cut_j135l73  v1 v2 v3 v4 v5 m = some (t, w)) (h0 : t = 0 → P (73, [some (.ref 68), some (.int v1), some (.int v2), some (.int v3), some (.int w.1), some (.int w.2.1)], [], (110, x), w.2.2)) (h1 : t = 1 → P (163, [none, none, none, none, some (.int w.1), none], [], (110, x), w.2.2)) : P (135, [some (.ref 68), some (.int v1), some (.int v2), some (.int v3), some (.int v4), some (.int v5)], [], (110, x), m) := by
  unfold md_cut_j135l73 at h
  refine mj_gcp hC 7 ?_
  show P (143, [some (.ref 68), some (.int v1), some (.int v2), some (.int v3), some (.int v4), some (.int v5)], [.int (v3 &&& (v5 ^^^ (-1))), .int v1, .ref 68], (110, x), m)
  obtain ⟨q16, eq16, h⟩ := mj_bnd h
  refine mj_pcall hC rfl (md_comesTo_x (Nat.le_trans (by decide) hd) eq16) ?_
  show P (146, [some (.ref 68), some (.int v1), some (.int v2), some (.int v3), some (.int v4), some (.int v5)], [.int q16], (110, x), m)
  refine mj_gcp hC 1 ?_
  show P (147, [some (.ref 68), some (.int v1), some (.int v2), some (.int v3), some (.int v4), some (.int v5)], [.int v2, .int q16], (110, x), m)
  refine mj_pcall hC rfl (md_isOf_x (Nat.le_trans (by decide) hd)) ?_
  show P (150, [some (.ref 68), some (.int v1), some (.int v2), some (.int v3), some (.int v4), some (.int v5)], [.int (md_isOf q16 v2 m)], (110, x), m)
  refine mj_gcp hC 1 ?_
  show P (mj_pick 153 157 ((md_isOf q16 v2 m) = 0), [some (.ref 68), some (.int v1), some (.int v2), some (.int v3), some (.int v4), some (.int v5)], [], (110, x), m)
  refine mj_pbr (fun c17 => ?_) (fun c17 => ?_)
  · rw [if_pos c17] at h
    refine mj_gcp hC 2 ?_
    show P (157, [some (.ref 68), some (.int v1), some (.int v2), some (.int v3), some (.int v5), some (.int v5)], [], (110, x), m)
    exact mj_less hC (L0 := [some (.ref 68), some (.int v1), some (.int v2), some (.int v3), some (.int v5), some (.int v5)]) (And.intro rfl (And.intro rfl (And.intro rfl (And.intro rfl (And.intro rfl (And.intro rfl trivial)))))) (md_cut_j157l73_x hC hd h h0 h1)
  · rw [if_neg c17] at h
    exact mj_less hC (L0 := [some (.ref 68), some (.int v1), some (.int v2), some (.int v3), some (.int v4), some (.int v5)]) (And.intro rfl (And.intro rfl (And.intro rfl (And.intro rfl (And.intro rfl (And.intro rfl trivial)))))) (md_cut_j157l73_x hC hd h h0 h1)
set_option maxRecDepth 20000 in
theorem md_cut_l73_x {Ls tp ip x d : Nat} {Z : mj_X} {R : Option Value → mj_G → mj_M → Prop} {P : mj_K → Prop} (hC : mj_cls false (mj_sh Ls) (mj_rf tp ip) mj_dv mj_cd_243 (mj_Ex false (mj_sh Ls) (mj_rf tp ip) Z d) R P) (hd : 2 ≤ d) {v1 : Int32} {v2 : Int32} {v3 : Int32} (s73 : (Int32 × Int32 × mj_M)) {t : Nat} {w : (Int32 × Int32 × mj_M)} (h : md_cut_l73 v1 v2 v3 s73 = some (t, w)) (h0 : t = 0 → P (73, [some (.ref 68), some (.int v1), some (.int v2), some (.int v3), some (.int w.1), some (.int w.2.1)], [], (110, x), w.2.2)) (h1 : t = 1 → P (163, [none, none, none, none, some (.int w.1), none], [], (110, x), w.2.2)) : P (73, [some (.ref 68), some (.int v1), some (.int v2), some (.int v3), some (.int s73.1), some (.int s73.2.1)], [], (110, x), s73.2.2) := by
  unfold md_cut_l73 at h
  refine mj_gcp hC 6 ?_
  show P (mj_pick 163 84 (((1 : Int32) <<< ((mj_I (s73.2.2 68 12)) &&& 31)) ≤ s73.2.1), [some (.ref 68), some (.int v1), some (.int v2), some (.int v3), some (.int s73.1), some (.int s73.2.1)], [], (110, x), s73.2.2)
  refine mj_pbr (fun c11 => ?_) (fun c11 => ?_)
  · rw [if_pos c11] at h
    cases h
    exact mj_less hC (L0 := [none, none, none, none, some (.int s73.1), none]) (And.intro rfl trivial) (h1 rfl)
  · rw [if_neg c11] at h
    refine mj_gcp hC 6 ?_
    show P (mj_pick 93 157 ((s73.2.1 &&& (v3 ^^^ (-1))) = 0), [some (.ref 68), some (.int v1), some (.int v2), some (.int v3), some (.int s73.1), some (.int s73.2.1)], [], (110, x), s73.2.2)
    refine mj_pbr (fun c12 => ?_) (fun c12 => ?_)
    · rw [if_pos c12] at h
      refine mj_gcp hC 2 ?_
      show P (96, [some (.ref 68), some (.int v1), some (.int v2), some (.int v3), some (.int s73.1), some (.int s73.2.1)], [.int v1, .int s73.2.1], (110, x), s73.2.2)
      refine mj_pcall hC rfl (md_isOf_x (Nat.le_trans (by decide) hd)) ?_
      show P (99, [some (.ref 68), some (.int v1), some (.int v2), some (.int v3), some (.int s73.1), some (.int s73.2.1)], [.int (md_isOf s73.2.1 v1 s73.2.2)], (110, x), s73.2.2)
      refine mj_gcp hC 1 ?_
      show P (mj_pick 102 157 ((md_isOf s73.2.1 v1 s73.2.2) = 0), [some (.ref 68), some (.int v1), some (.int v2), some (.int v3), some (.int s73.1), some (.int s73.2.1)], [], (110, x), s73.2.2)
      refine mj_pbr (fun c13 => ?_) (fun c13 => ?_)
      · rw [if_pos c13] at h
        refine mj_gcp hC 2 ?_
        show P (105, [some (.ref 68), some (.int v1), some (.int v2), some (.int v3), some (.int s73.1), some (.int s73.2.1)], [.int v2, .int s73.2.1], (110, x), s73.2.2)
        refine mj_pcall hC rfl (md_isOf_x (Nat.le_trans (by decide) hd)) ?_
        show P (108, [some (.ref 68), some (.int v1), some (.int v2), some (.int v3), some (.int s73.1), some (.int s73.2.1)], [.int (md_isOf s73.2.1 v2 s73.2.2)], (110, x), s73.2.2)
        refine mj_gcp hC 1 ?_
        show P (mj_pick 114 111 ((md_isOf s73.2.1 v2 s73.2.2) = 0), [some (.ref 68), some (.int v1), some (.int v2), some (.int v3), some (.int s73.1), some (.int s73.2.1)], [], (110, x), s73.2.2)
        refine mj_pbr (fun c14 => ?_) (fun c14 => ?_)
        · rw [if_pos c14] at h
          refine mj_gcp hC 2 ?_
          show P (mj_pick 135 119 (s73.1 < 0), [some (.ref 68), some (.int v1), some (.int v2), some (.int v3), some (.int s73.1), some (.int s73.2.1)], [], (110, x), s73.2.2)
          refine mj_pbr (fun c15 => ?_) (fun c15 => ?_)
          · rw [if_pos c15] at h
            exact mj_less hC (L0 := [some (.ref 68), some (.int v1), some (.int v2), some (.int v3), some (.int s73.1), some (.int s73.2.1)]) (And.intro rfl (And.intro rfl (And.intro rfl (And.intro rfl (And.intro rfl (And.intro rfl trivial)))))) (md_cut_j135l73_x hC hd h h0 h1)
          · rw [if_neg c15] at h
            refine mj_gcp hC 1 ?_
            show P (121, [some (.ref 68), some (.int v1), some (.int v2), some (.int v3), some (.int s73.1), some (.int s73.2.1)], [.int s73.2.1], (110, x), s73.2.2)
            obtain ⟨q18, eq18, h⟩ := mj_bnd h
            refine mj_pcall hC rfl (md_manyOf_x (Nat.le_trans (by decide) hd) eq18) ?_
            show P (124, [some (.ref 68), some (.int v1), some (.int v2), some (.int v3), some (.int s73.1), some (.int s73.2.1)], [.int q18], (110, x), s73.2.2)
            refine mj_gcp hC 1 ?_
            show P (126, [some (.ref 68), some (.int v1), some (.int v2), some (.int v3), some (.int s73.1), some (.int s73.2.1)], [.int s73.1, .int q18], (110, x), s73.2.2)
            obtain ⟨q19, eq19, h⟩ := mj_bnd h
            refine mj_pcall hC rfl (md_manyOf_x (Nat.le_trans (by decide) hd) eq19) ?_
            show P (129, [some (.ref 68), some (.int v1), some (.int v2), some (.int v3), some (.int s73.1), some (.int s73.2.1)], [.int q19, .int q18], (110, x), s73.2.2)
            refine mj_gcp hC 1 ?_
            show P (mj_pick 135 132 (q18 < q19), [some (.ref 68), some (.int v1), some (.int v2), some (.int v3), some (.int s73.1), some (.int s73.2.1)], [], (110, x), s73.2.2)
            refine mj_pbr (fun c20 => ?_) (fun c20 => ?_)
            · rw [if_pos c20] at h
              exact mj_less hC (L0 := [some (.ref 68), some (.int v1), some (.int v2), some (.int v3), some (.int s73.1), some (.int s73.2.1)]) (And.intro rfl (And.intro rfl (And.intro rfl (And.intro rfl (And.intro rfl (And.intro rfl trivial)))))) (md_cut_j135l73_x hC hd h h0 h1)
            · rw [if_neg c20] at h
              refine mj_gcp hC 1 ?_
              show P (157, [some (.ref 68), some (.int v1), some (.int v2), some (.int v3), some (.int s73.1), some (.int s73.2.1)], [], (110, x), s73.2.2)
              exact mj_less hC (L0 := [some (.ref 68), some (.int v1), some (.int v2), some (.int v3), some (.int s73.1), some (.int s73.2.1)]) (And.intro rfl (And.intro rfl (And.intro rfl (And.intro rfl (And.intro rfl (And.intro rfl trivial)))))) (md_cut_j157l73_x hC hd h h0 h1)
        · rw [if_neg c14] at h
          refine mj_gcp hC 1 ?_
          show P (157, [some (.ref 68), some (.int v1), some (.int v2), some (.int v3), some (.int s73.1), some (.int s73.2.1)], [], (110, x), s73.2.2)
          exact mj_less hC (L0 := [some (.ref 68), some (.int v1), some (.int v2), some (.int v3), some (.int s73.1), some (.int s73.2.1)]) (And.intro rfl (And.intro rfl (And.intro rfl (And.intro rfl (And.intro rfl (And.intro rfl trivial)))))) (md_cut_j157l73_x hC hd h h0 h1)
      · rw [if_neg c13] at h
        exact mj_less hC (L0 := [some (.ref 68), some (.int v1), some (.int v2), some (.int v3), some (.int s73.1), some (.int s73.2.1)]) (And.intro rfl (And.intro rfl (And.intro rfl (And.intro rfl (And.intro rfl (And.intro rfl trivial)))))) (md_cut_j157l73_x hC hd h h0 h1)
    · rw [if_neg c12] at h
      exact mj_less hC (L0 := [some (.ref 68), some (.int v1), some (.int v2), some (.int v3), some (.int s73.1), some (.int s73.2.1)]) (And.intro rfl (And.intro rfl (And.intro rfl (And.intro rfl (And.intro rfl (And.intro rfl trivial)))))) (md_cut_j157l73_x hC hd h h0 h1)
set_option maxRecDepth 20000 in
theorem md_cut_p {Ls tp ip x d : Nat} {Z : mj_X} {R : Option Value → mj_G → mj_M → Prop} {P : mj_K → Prop} (hC : mj_cls false (mj_sh Ls) (mj_rf tp ip) mj_dv mj_cd_243 (mj_Ex false (mj_sh Ls) (mj_rf tp ip) Z d) R P) (hd : 2 ≤ d) {v1 : Int32} {v2 : Int32} {m : mj_M} {r : (Int32 × mj_M)} (h : md_cut v1 v2 m = some r) (hR : R (some (.int r.1)) (110, x) r.2) : P (0, [some (.ref 68), some (.int v1), some (.int v2), none, none, none], [], (110, x), m) := by
  unfold md_cut at h
  refine mj_gcp hC 5 ?_
  show P (7, [some (.ref 68), some (.int v1), some (.int v2), none, none, none], [.int v1, .ref 68], (110, x), (mj_up m 68 2 (.int 0)))
  refine mj_pcall hC rfl (md_isMan_x (Nat.le_trans (by decide) hd)) ?_
  show P (10, [some (.ref 68), some (.int v1), some (.int v2), none, none, none], [.int (md_isMan v1 (mj_up m 68 2 (.int 0)))], (110, x), (mj_up m 68 2 (.int 0)))
  refine mj_gcp hC 1 ?_
  show P (mj_pick 44 13 ((md_isMan v1 (mj_up m 68 2 (.int 0))) = 0), [some (.ref 68), some (.int v1), some (.int v2), none, none, none], [], (110, x), (mj_up m 68 2 (.int 0)))
  refine mj_pbr (fun c1 => ?_) (fun c1 => ?_)
  · rw [if_pos c1] at h
    refine mj_gcp hC 1 ?_
    show P (45, [some (.ref 68), some (.int v1), some (.int v2), none, none, none], [.int (-1)], (110, x), (mj_up m 68 2 (.int 0)))
    cases h
    exact mj_pret hC rfl hR
  · rw [if_neg c1] at h
    refine mj_gcp hC 2 ?_
    show P (15, [some (.ref 68), some (.int v1), some (.int v2), none, none, none], [.int v2, .ref 68], (110, x), (mj_up m 68 2 (.int 0)))
    refine mj_pcall hC rfl (md_isMan_x (Nat.le_trans (by decide) hd)) ?_
    show P (18, [some (.ref 68), some (.int v1), some (.int v2), none, none, none], [.int (md_isMan v2 (mj_up m 68 2 (.int 0)))], (110, x), (mj_up m 68 2 (.int 0)))
    refine mj_gcp hC 1 ?_
    show P (mj_pick 44 21 ((md_isMan v2 (mj_up m 68 2 (.int 0))) = 0), [some (.ref 68), some (.int v1), some (.int v2), none, none, none], [], (110, x), (mj_up m 68 2 (.int 0)))
    refine mj_pbr (fun c2 => ?_) (fun c2 => ?_)
    · rw [if_pos c2] at h
      refine mj_gcp hC 1 ?_
      show P (45, [some (.ref 68), some (.int v1), some (.int v2), none, none, none], [.int (-1)], (110, x), (mj_up m 68 2 (.int 0)))
      cases h
      exact mj_pret hC rfl hR
    · rw [if_neg c2] at h
      refine mj_gcp hC 3 ?_
      show P (mj_pick 44 26 (v1 = v2), [some (.ref 68), some (.int v1), some (.int v2), none, none, none], [], (110, x), (mj_up m 68 2 (.int 0)))
      refine mj_pbr (fun c3 => ?_) (fun c3 => ?_)
      · rw [if_pos c3] at h
        refine mj_gcp hC 1 ?_
        show P (45, [some (.ref 68), some (.int v1), some (.int v2), none, none, none], [.int (-1)], (110, x), (mj_up m 68 2 (.int 0)))
        cases h
        exact mj_pret hC rfl hR
      · rw [if_neg c3] at h
        obtain ⟨k4, h⟩ := mj_ifn h
        refine mj_gcp hC 5 ?_
        show _ ∧ (P (mj_pick 44 35 ((mj_I (m 97 v1.toNatClampNeg)) = 0), [some (.ref 68), some (.int v1), some (.int v2), none, none, none], [], (110, x), (mj_up m 68 2 (.int 0))))
        refine And.intro k4 (?_)
        refine mj_pbr (fun c5 => ?_) (fun c5 => ?_)
        · rw [if_pos c5] at h
          refine mj_gcp hC 1 ?_
          show P (45, [some (.ref 68), some (.int v1), some (.int v2), none, none, none], [.int (-1)], (110, x), (mj_up m 68 2 (.int 0)))
          cases h
          exact mj_pret hC rfl hR
        · rw [if_neg c5] at h
          obtain ⟨k6, h⟩ := mj_ifn h
          refine mj_gcp hC 5 ?_
          show _ ∧ (P (mj_pick 44 46 ((mj_I (m 97 v2.toNatClampNeg)) = 0), [some (.ref 68), some (.int v1), some (.int v2), none, none, none], [], (110, x), (mj_up m 68 2 (.int 0))))
          refine And.intro k6 (?_)
          refine mj_pbr (fun c7 => ?_) (fun c7 => ?_)
          · rw [if_pos c7] at h
            refine mj_gcp hC 1 ?_
            show P (45, [some (.ref 68), some (.int v1), some (.int v2), none, none, none], [.int (-1)], (110, x), (mj_up m 68 2 (.int 0)))
            cases h
            exact mj_pret hC rfl hR
          · rw [if_neg c7] at h
            obtain ⟨k8, h⟩ := mj_ifn h
            refine mj_gcp hC 5 ?_
            show _ ∧ (P (53, [some (.ref 68), some (.int v1), some (.int v2), none, none, none], [.int v2, .int (mj_I (m 76 v1.toNatClampNeg))], (110, x), (mj_up m 68 2 (.int 0))))
            refine And.intro k8 (?_)
            refine mj_pcall hC rfl (md_isOf_x (Nat.le_trans (by decide) hd)) ?_
            show P (56, [some (.ref 68), some (.int v1), some (.int v2), none, none, none], [.int (md_isOf (mj_I (m 76 v1.toNatClampNeg)) v2 (mj_up m 68 2 (.int 0)))], (110, x), (mj_up m 68 2 (.int 0)))
            refine mj_gcp hC 1 ?_
            show P (mj_pick 62 59 ((md_isOf (mj_I (m 76 v1.toNatClampNeg)) v2 (mj_up m 68 2 (.int 0))) = 0), [some (.ref 68), some (.int v1), some (.int v2), none, none, none], [], (110, x), (mj_up m 68 2 (.int 0)))
            refine mj_pbr (fun c9 => ?_) (fun c9 => ?_)
            · rw [if_pos c9] at h
              refine mj_gcp hC 1 ?_
              show P (63, [some (.ref 68), some (.int v1), some (.int v2), none, none, none], [.ref 68], (110, x), (mj_up m 68 2 (.int 0)))
              obtain ⟨q10, eq10, h⟩ := mj_bnd h
              refine mj_pcall hC rfl (md_hereBits_x (Nat.le_trans (by decide) hd) eq10) ?_
              show P (66, [some (.ref 68), some (.int v1), some (.int v2), none, none, none], [.int q10], (110, x), (mj_up m 68 2 (.int 0)))
              refine mj_gcp hC 5 ?_
              show P (73, [some (.ref 68), some (.int v1), some (.int v2), some (.int q10), some (.int (-1)), some (.int 0)], [], (110, x), (mj_up m 68 2 (.int 0)))
              obtain ⟨q21, eq21, h⟩ := mj_bnd h
              refine mj_less hC (L0 := [some (.ref 68), some (.int v1), some (.int v2), some (.int q10), some (.int (-1)), some (.int 0)]) (And.intro rfl (And.intro rfl (And.intro rfl (And.intro rfl (And.intro rfl (And.intro rfl trivial)))))) ?_
              refine mj_loop_P (A := fun z73 => P (73, [some (.ref 68), some (.int v1), some (.int v2), some (.int q10), some (.int z73.1), some (.int z73.2.1)], [], (110, x), z73.2.2)) (E := fun _ z73 => P (163, [none, none, none, none, some (.int z73.1), none], [], (110, x), z73.2.2)) (fun zz t w hb h0 h1 => md_cut_l73_x hC hd zz hb h0 (fun ht => h1 0 ht)) mj_F _ q21 eq21 ?_
              refine mj_gcp hC 1 ?_
              show P (165, [none, none, none, none, some (.int q21.2.1), none], [.int q21.2.1], (110, x), q21.2.2.2)
              cases h
              exact mj_pret hC rfl hR
            · rw [if_neg c9] at h
              refine mj_gcp hC 1 ?_
              show P (61, [some (.ref 68), some (.int v1), some (.int v2), none, none, none], [.int (-2)], (110, x), (mj_up m 68 2 (.int 0)))
              cases h
              exact mj_pret hC rfl hR
set_option maxRecDepth 20000 in
theorem md_cut_x {Ls tp ip x d : Nat} {Z : mj_X} (hd : 3 ≤ d) {v1 : Int32} {v2 : Int32} {m : mj_M} {r : (Int32 × mj_M)} (h : md_cut v1 v2 m = some r) : mj_Ex false (mj_sh Ls) (mj_rf tp ip) Z d 243 [.ref 68, .int v1, .int v2] (110, x) m (some (.int r.1)) (110, x) r.2 := by
  exact mj_Ex_of (cd := mj_cd_243) (L := [some (.ref 68), some (.int v1), some (.int v2), none, none, none]) (by omega) (by decide) rfl (Nat.le_of_ble_eq_true rfl) rfl (fun P hC => md_cut_p hC (by omega) h ⟨rfl, rfl, rfl⟩)
def md_reaches  (v1 : Int32) (m : mj_M) : Option (Int32 × mj_M) :=
  (if (md_isMan v1 (mj_up m 68 2 (.int 0))) = 0 then some ((-1), (mj_up m 68 2 (.int 0))) else
  (if v1 < 0 ∨ 12 ≤ (v1 : Int32).toNatClampNeg then none else
  (if (mj_I (m 97 v1.toNatClampNeg)) = 0 then some ((-1), (mj_up m 68 2 (.int 0))) else
  (md_hereBits (mj_up m 68 2 (.int 0))).bind fun q4 =>
  (md_comesTo v1 q4 (mj_up m 68 2 (.int 0))).bind fun q5 =>
  some (q5, (mj_up m 68 2 (.int 0))))))
set_option maxRecDepth 20000 in
theorem md_reaches_p {Ls tp ip x d : Nat} {Z : mj_X} {R : Option Value → mj_G → mj_M → Prop} {P : mj_K → Prop} (hC : mj_cls false (mj_sh Ls) (mj_rf tp ip) mj_dv mj_cd_244 (mj_Ex false (mj_sh Ls) (mj_rf tp ip) Z d) R P) (hd : 2 ≤ d) {v1 : Int32} {m : mj_M} {r : (Int32 × mj_M)} (h : md_reaches v1 m = some r) (hR : R (some (.int r.1)) (110, x) r.2) : P (0, [some (.ref 68), some (.int v1)], [], (110, x), m) := by
  unfold md_reaches at h
  refine mj_gcp hC 5 ?_
  show P (7, [some (.ref 68), some (.int v1)], [.int v1, .ref 68], (110, x), (mj_up m 68 2 (.int 0)))
  refine mj_pcall hC rfl (md_isMan_x (Nat.le_trans (by decide) hd)) ?_
  show P (10, [some (.ref 68), some (.int v1)], [.int (md_isMan v1 (mj_up m 68 2 (.int 0)))], (110, x), (mj_up m 68 2 (.int 0)))
  refine mj_gcp hC 1 ?_
  show P (mj_pick 34 13 ((md_isMan v1 (mj_up m 68 2 (.int 0))) = 0), [some (.ref 68), some (.int v1)], [], (110, x), (mj_up m 68 2 (.int 0)))
  refine mj_pbr (fun c1 => ?_) (fun c1 => ?_)
  · rw [if_pos c1] at h
    refine mj_gcp hC 1 ?_
    show P (35, [some (.ref 68), some (.int v1)], [.int (-1)], (110, x), (mj_up m 68 2 (.int 0)))
    cases h
    exact mj_pret hC rfl hR
  · rw [if_neg c1] at h
    obtain ⟨k2, h⟩ := mj_ifn h
    refine mj_gcp hC 5 ?_
    show _ ∧ (P (mj_pick 34 22 ((mj_I (m 97 v1.toNatClampNeg)) = 0), [some (.ref 68), some (.int v1)], [], (110, x), (mj_up m 68 2 (.int 0))))
    refine And.intro k2 (?_)
    refine mj_pbr (fun c3 => ?_) (fun c3 => ?_)
    · rw [if_pos c3] at h
      refine mj_gcp hC 1 ?_
      show P (35, [some (.ref 68), some (.int v1)], [.int (-1)], (110, x), (mj_up m 68 2 (.int 0)))
      cases h
      exact mj_pret hC rfl hR
    · rw [if_neg c3] at h
      refine mj_gcp hC 3 ?_
      show P (25, [some (.ref 68), some (.int v1)], [.ref 68, .int v1, .ref 68], (110, x), (mj_up m 68 2 (.int 0)))
      obtain ⟨q4, eq4, h⟩ := mj_bnd h
      refine mj_pcall hC rfl (md_hereBits_x (Nat.le_trans (by decide) hd) eq4) ?_
      show P (28, [some (.ref 68), some (.int v1)], [.int q4, .int v1, .ref 68], (110, x), (mj_up m 68 2 (.int 0)))
      obtain ⟨q5, eq5, h⟩ := mj_bnd h
      refine mj_pcall hC rfl (md_comesTo_x (Nat.le_trans (by decide) hd) eq5) ?_
      show P (31, [some (.ref 68), some (.int v1)], [.int q5], (110, x), (mj_up m 68 2 (.int 0)))
      refine mj_gcp hC 1 ?_
      show P (35, [some (.ref 68), some (.int v1)], [.int q5], (110, x), (mj_up m 68 2 (.int 0)))
      cases h
      exact mj_pret hC rfl hR
set_option maxRecDepth 20000 in
theorem md_reaches_x {Ls tp ip x d : Nat} {Z : mj_X} (hd : 3 ≤ d) {v1 : Int32} {m : mj_M} {r : (Int32 × mj_M)} (h : md_reaches v1 m = some r) : mj_Ex false (mj_sh Ls) (mj_rf tp ip) Z d 244 [.ref 68, .int v1] (110, x) m (some (.int r.1)) (110, x) r.2 := by
  exact mj_Ex_of (cd := mj_cd_244) (L := [some (.ref 68), some (.int v1)]) (by omega) (by decide) rfl (Nat.le_of_ble_eq_true rfl) rfl (fun P hC => md_reaches_p hC (by omega) h ⟨rfl, rfl, rfl⟩)
def md_pack_j60l22   (v1 : Int32) (v3 : Int32) (s0 : Int32) (s1 : Int32) (m : mj_M) : Option (Nat × (Int32 × Int32 × mj_M)) :=
  some (0, ((s0 ||| s1), (v3 + 1), m))
def md_pack_l22  (v1 : Int32) (s22 : (Int32 × Int32 × mj_M)) : Option (Nat × (Int32 × Int32 × mj_M)) :=
  (if (mj_I (s22.2.2 68 14)) ≤ s22.2.1 then some (2, (s22.1, s22.2.1, s22.2.2)) else
  (if s22.2.1 < 0 ∨ 16 ≤ (s22.2.1 : Int32).toNatClampNeg then none else
  (if (mj_I (s22.2.2 93 s22.2.1.toNatClampNeg)) ≤ v1 then (if s22.2.1 < 0 ∨ 16 ≤ (s22.2.1 : Int32).toNatClampNeg then none else
  (if (mj_I (s22.2.2 93 s22.2.1.toNatClampNeg)) ≤ 0 then md_pack_j60l22 v1 s22.2.1 s22.1 0 s22.2.2 else
  md_pack_j60l22 v1 s22.2.1 s22.1 ((1 : Int32) <<< (s22.2.1 &&& 31)) s22.2.2)) else
  some (1, (s22.1, s22.2.1, s22.2.2)))))
def md_pack_j274l107   (v1 : Int32) (v2 : Int32) (v3 : Int32) (v4 : Int32)  (m : mj_M) : Option (Nat × (Int32 × mj_M)) :=
  some (0, ((v4 + 1), m))
def md_pack_j258l107   (v1 : Int32) (v2 : Int32) (v3 : Int32) (v4 : Int32) (v7 : Int32) (v8 : Int32)  (m : mj_M) : Option (Nat × (Int32 × mj_M)) :=
  (if v3 < 0 ∨ 256 ≤ (v3 : Int32).toNatClampNeg then none else
  (if v3 < 0 ∨ 256 ≤ (v3 : Int32).toNatClampNeg then none else
  md_pack_j274l107 v1 v2 v3 v4 (mj_up (mj_up m 102 v3.toNatClampNeg (.int v7)) 103 v3.toNatClampNeg (.int v8))))
def md_pack_j220l107   (v1 : Int32) (v2 : Int32) (v3 : Int32) (v4 : Int32) (v7 : Int32) (s0 : Int32) (m : mj_M) : Option (Nat × (Int32 × mj_M)) :=
  (if v3 < 0 ∨ 256 ≤ (v3 : Int32).toNatClampNeg then none else
  (if (mj_I (m 102 v3.toNatClampNeg)) < v7 then md_pack_j274l107 v1 v2 v3 v4 m else
  (if v3 < 0 ∨ 256 ≤ (v3 : Int32).toNatClampNeg then none else
  (if v7 = (mj_I (m 102 v3.toNatClampNeg)) then (if v3 < 0 ∨ 256 ≤ (v3 : Int32).toNatClampNeg then none else
  (if s0 < (mj_I (m 103 v3.toNatClampNeg)) then md_pack_j258l107 v1 v2 v3 v4 v7 s0 m else
  md_pack_j274l107 v1 v2 v3 v4 m)) else
  md_pack_j258l107 v1 v2 v3 v4 v7 s0 m))))
def md_pack_j188l107   (v1 : Int32) (v2 : Int32) (v3 : Int32) (v4 : Int32) (v5 : Int32) (v6 : Int32) (s0 : Int32) (m : mj_M) : Option (Nat × (Int32 × mj_M)) :=
  (if v6 = 0 then (if v4 < 0 ∨ 16 ≤ (v4 : Int32).toNatClampNeg then none else
  md_pack_j220l107 v1 v2 v3 v4 s0 (mj_I (m 93 v4.toNatClampNeg)) m) else
  (if v5 < 0 ∨ 256 ≤ (v5 : Int32).toNatClampNeg then none else
  (if v4 < 0 ∨ 16 ≤ (v4 : Int32).toNatClampNeg then none else
  md_pack_j220l107 v1 v2 v3 v4 s0 ((mj_I (m 103 v5.toNatClampNeg)) + (mj_I (m 93 v4.toNatClampNeg))) m)))
def md_pack_j162l107   (v1 : Int32) (v2 : Int32) (v3 : Int32) (v4 : Int32) (v5 : Int32) (s0 : Int32) (m : mj_M) : Option (Nat × (Int32 × mj_M)) :=
  (if s0 = 0 then (if v5 < 0 ∨ 256 ≤ (v5 : Int32).toNatClampNeg then none else
  md_pack_j188l107 v1 v2 v3 v4 v5 s0 ((mj_I (m 102 v5.toNatClampNeg)) + 1) m) else
  (if v5 < 0 ∨ 256 ≤ (v5 : Int32).toNatClampNeg then none else
  md_pack_j188l107 v1 v2 v3 v4 v5 s0 (mj_I (m 102 v5.toNatClampNeg)) m))
def md_pack_l107  (v1 : Int32) (v2 : Int32) (v3 : Int32) (s107 : (Int32 × mj_M)) : Option (Nat × (Int32 × mj_M)) :=
  (if (mj_I (s107.2 68 14)) ≤ s107.1 then some (1, (s107.1, s107.2)) else
  (if (md_isOf v3 s107.1 s107.2) = 0 then md_pack_j274l107 v1 v2 v3 s107.1 s107.2 else
  (if (v3 &&& (((1 : Int32) <<< (s107.1 &&& 31)) ^^^ (-1))) < 0 ∨ 256 ≤ ((v3 &&& (((1 : Int32) <<< (s107.1 &&& 31)) ^^^ (-1))) : Int32).toNatClampNeg then none else
  (if s107.1 < 0 ∨ 16 ≤ (s107.1 : Int32).toNatClampNeg then none else
  (if v1 < ((mj_I (s107.2 103 (v3 &&& (((1 : Int32) <<< (s107.1 &&& 31)) ^^^ (-1))).toNatClampNeg)) + (mj_I (s107.2 93 s107.1.toNatClampNeg))) then md_pack_j162l107 v1 v2 v3 s107.1 (v3 &&& (((1 : Int32) <<< (s107.1 &&& 31)) ^^^ (-1))) 0 s107.2 else
  md_pack_j162l107 v1 v2 v3 s107.1 (v3 &&& (((1 : Int32) <<< (s107.1 &&& 31)) ^^^ (-1))) 1 s107.2)))))
def md_pack_l84  (v1 : Int32) (v2 : Int32) (s84 : (Int32 × mj_M)) : Option (Nat × (Int32 × mj_M)) :=
  (if v2 < s84.1 then some (1, (s84.1, s84.2)) else
  (if s84.1 < 0 ∨ 256 ≤ (s84.1 : Int32).toNatClampNeg then none else
  (if s84.1 < 0 ∨ 256 ≤ (s84.1 : Int32).toNatClampNeg then none else
  (mj_loop (md_pack_l107 v1 v2 s84.1) mj_F (0, (mj_up (mj_up s84.2 102 s84.1.toNatClampNeg (.int 99)) 103 s84.1.toNatClampNeg (.int 0)))).bind fun q31 =>
  some (0, ((s84.1 + 1), q31.2.2)))))
def md_pack  (v1 : Int32) (m : mj_M) : Option (Int32 × mj_M) :=
  (if (md_isIn v1 1 9999 (mj_up m 68 2 (.int 0))) = 0 then some ((-1), (mj_up m 68 2 (.int 0))) else
  (mj_loop (md_pack_l22 v1) mj_F (0, 0, (mj_up m 68 2 (.int 0)))).bind fun q7 =>
  (if q7.1 = 0 then some ((-2), q7.2.2.2) else (mj_loop (md_pack_l84 v1 q7.2.1) mj_F (1, (mj_up (mj_up q7.2.2.2 102 (0 : Int32).toNatClampNeg (.int 0)) 103 (0 : Int32).toNatClampNeg (.int v1)))).bind fun q32 =>
  (if q7.2.1 < 0 ∨ 256 ≤ (q7.2.1 : Int32).toNatClampNeg then none else
  some ((mj_I (q32.2.2 102 q7.2.1.toNatClampNeg)), q32.2.2))))
set_option maxRecDepth 20000 in
theorem md_pack_j60l22_x {Ls tp ip x d : Nat} {Z : mj_X} {R : Option Value → mj_G → mj_M → Prop} {P : mj_K → Prop} (hC : mj_cls false (mj_sh Ls) (mj_rf tp ip) mj_dv mj_cd_245 (mj_Ex false (mj_sh Ls) (mj_rf tp ip) Z d) R P) (hd : 1 ≤ d)  {v1 : Int32} {v3 : Int32} {s0 : Int32} {s1 : Int32} {m : mj_M} {t : Nat} {w : (Int32 × Int32 × mj_M)} (h : md_pack_j60l22  v1 v3 s0 s1 m = some (t, w)) (h0 : t = 0 → P (22, [some (.ref 68), some (.int v1), some (.int w.1), some (.int w.2.1), none, none, none, none, none], [], (110, x), w.2.2)) (h1 : t = 1 → P (40, [none, none, none, none, none, none, none, none, none], [], (110, x), w.2.2)) (h2 : t = 2 → P (68, [some (.ref 68), some (.int v1), some (.int w.1), none, none, none, none, none, none], [], (110, x), w.2.2)) : P (60, [some (.ref 68), some (.int v1), none, some (.int v3), none, none, none, none, none], [.int s1, .int s0], (110, x), m) := by
  unfold md_pack_j60l22 at h
  refine mj_gcp hC 4 ?_
  show P (22, [some (.ref 68), some (.int v1), some (.int (s0 ||| s1)), some (.int (v3 + 1)), none, none, none, none, none], [], (110, x), m)
  cases h
  exact mj_less hC (L0 := [some (.ref 68), some (.int v1), some (.int (s0 ||| s1)), some (.int (v3 + 1)), none, none, none, none, none]) (And.intro rfl (And.intro rfl (And.intro rfl (And.intro rfl trivial)))) (h0 rfl)
set_option maxRecDepth 20000 in
theorem md_pack_l22_x {Ls tp ip x d : Nat} {Z : mj_X} {R : Option Value → mj_G → mj_M → Prop} {P : mj_K → Prop} (hC : mj_cls false (mj_sh Ls) (mj_rf tp ip) mj_dv mj_cd_245 (mj_Ex false (mj_sh Ls) (mj_rf tp ip) Z d) R P) (hd : 1 ≤ d) {v1 : Int32} (s22 : (Int32 × Int32 × mj_M)) {t : Nat} {w : (Int32 × Int32 × mj_M)} (h : md_pack_l22 v1 s22 = some (t, w)) (h0 : t = 0 → P (22, [some (.ref 68), some (.int v1), some (.int w.1), some (.int w.2.1), none, none, none, none, none], [], (110, x), w.2.2)) (h1 : t = 1 → P (40, [none, none, none, none, none, none, none, none, none], [], (110, x), w.2.2)) (h2 : t = 2 → P (68, [some (.ref 68), some (.int v1), some (.int w.1), none, none, none, none, none, none], [], (110, x), w.2.2)) : P (22, [some (.ref 68), some (.int v1), some (.int s22.1), some (.int s22.2.1), none, none, none, none, none], [], (110, x), s22.2.2) := by
  unfold md_pack_l22 at h
  refine mj_gcp hC 4 ?_
  show P (mj_pick 68 30 ((mj_I (s22.2.2 68 14)) ≤ s22.2.1), [some (.ref 68), some (.int v1), some (.int s22.1), some (.int s22.2.1), none, none, none, none, none], [], (110, x), s22.2.2)
  refine mj_pbr (fun c2 => ?_) (fun c2 => ?_)
  · rw [if_pos c2] at h
    cases h
    exact mj_less hC (L0 := [some (.ref 68), some (.int v1), some (.int s22.1), none, none, none, none, none, none]) (And.intro rfl (And.intro rfl (And.intro rfl trivial))) (h2 rfl)
  · rw [if_neg c2] at h
    obtain ⟨k3, h⟩ := mj_ifn h
    refine mj_gcp hC 6 ?_
    show _ ∧ (P (mj_pick 43 40 ((mj_I (s22.2.2 93 s22.2.1.toNatClampNeg)) ≤ v1), [some (.ref 68), some (.int v1), some (.int s22.1), some (.int s22.2.1), none, none, none, none, none], [], (110, x), s22.2.2))
    refine And.intro k3 (?_)
    refine mj_pbr (fun c4 => ?_) (fun c4 => ?_)
    · rw [if_pos c4] at h
      obtain ⟨k5, h⟩ := mj_ifn h
      refine mj_gcp hC 6 ?_
      show _ ∧ (P (mj_pick 59 53 ((mj_I (s22.2.2 93 s22.2.1.toNatClampNeg)) ≤ 0), [some (.ref 68), some (.int v1), some (.int s22.1), some (.int s22.2.1), none, none, none, none, none], [.int s22.1], (110, x), s22.2.2))
      refine And.intro k5 (?_)
      refine mj_pbr (fun c6 => ?_) (fun c6 => ?_)
      · rw [if_pos c6] at h
        refine mj_gcp hC 1 ?_
        show P (60, [some (.ref 68), some (.int v1), some (.int s22.1), some (.int s22.2.1), none, none, none, none, none], [.int 0, .int s22.1], (110, x), s22.2.2)
        exact mj_less hC (L0 := [some (.ref 68), some (.int v1), none, some (.int s22.2.1), none, none, none, none, none]) (And.intro rfl (And.intro rfl (And.intro rfl trivial))) (md_pack_j60l22_x hC hd h h0 h1 h2)
      · rw [if_neg c6] at h
        refine mj_gcp hC 4 ?_
        show P (60, [some (.ref 68), some (.int v1), some (.int s22.1), some (.int s22.2.1), none, none, none, none, none], [.int ((1 : Int32) <<< (s22.2.1 &&& 31)), .int s22.1], (110, x), s22.2.2)
        exact mj_less hC (L0 := [some (.ref 68), some (.int v1), none, some (.int s22.2.1), none, none, none, none, none]) (And.intro rfl (And.intro rfl (And.intro rfl trivial))) (md_pack_j60l22_x hC hd h h0 h1 h2)
    · rw [if_neg c4] at h
      cases h
      exact mj_less hC (L0 := [none, none, none, none, none, none, none, none, none]) trivial (h1 rfl)
set_option maxRecDepth 20000 in
theorem md_pack_j274l107_x {Ls tp ip x d : Nat} {Z : mj_X} {R : Option Value → mj_G → mj_M → Prop} {P : mj_K → Prop} (hC : mj_cls false (mj_sh Ls) (mj_rf tp ip) mj_dv mj_cd_245 (mj_Ex false (mj_sh Ls) (mj_rf tp ip) Z d) R P) (hd : 1 ≤ d)  {v1 : Int32} {v2 : Int32} {v3 : Int32} {v4 : Int32}  {m : mj_M} {t : Nat} {w : (Int32 × mj_M)} (h : md_pack_j274l107  v1 v2 v3 v4 m = some (t, w)) (h0 : t = 0 → P (107, [some (.ref 68), some (.int v1), some (.int v2), some (.int v3), some (.int w.1), none, none, none, none], [], (110, x), w.2)) (h1 : t = 1 → P (280, [some (.ref 68), some (.int v1), some (.int v2), some (.int v3), none, none, none, none, none], [], (110, x), w.2)) : P (274, [some (.ref 68), some (.int v1), some (.int v2), some (.int v3), some (.int v4), none, none, none, none], [], (110, x), m) := by
  unfold md_pack_j274l107 at h
  refine mj_gcp hC 2 ?_
  show P (107, [some (.ref 68), some (.int v1), some (.int v2), some (.int v3), some (.int (v4 + 1)), none, none, none, none], [], (110, x), m)
  cases h
  exact mj_less hC (L0 := [some (.ref 68), some (.int v1), some (.int v2), some (.int v3), some (.int (v4 + 1)), none, none, none, none]) (And.intro rfl (And.intro rfl (And.intro rfl (And.intro rfl (And.intro rfl trivial))))) (h0 rfl)
set_option maxRecDepth 20000 in
theorem md_pack_j258l107_x {Ls tp ip x d : Nat} {Z : mj_X} {R : Option Value → mj_G → mj_M → Prop} {P : mj_K → Prop} (hC : mj_cls false (mj_sh Ls) (mj_rf tp ip) mj_dv mj_cd_245 (mj_Ex false (mj_sh Ls) (mj_rf tp ip) Z d) R P) (hd : 1 ≤ d)  {v1 : Int32} {v2 : Int32} {v3 : Int32} {v4 : Int32} {v7 : Int32} {v8 : Int32}  {m : mj_M} {t : Nat} {w : (Int32 × mj_M)} (h : md_pack_j258l107  v1 v2 v3 v4 v7 v8 m = some (t, w)) (h0 : t = 0 → P (107, [some (.ref 68), some (.int v1), some (.int v2), some (.int v3), some (.int w.1), none, none, none, none], [], (110, x), w.2)) (h1 : t = 1 → P (280, [some (.ref 68), some (.int v1), some (.int v2), some (.int v3), none, none, none, none, none], [], (110, x), w.2)) : P (258, [some (.ref 68), some (.int v1), some (.int v2), some (.int v3), some (.int v4), none, none, some (.int v7), some (.int v8)], [], (110, x), m) := by
  unfold md_pack_j258l107 at h
  obtain ⟨k26, h⟩ := mj_ifn h
  obtain ⟨k27, h⟩ := mj_ifn h
  refine mj_gcp hC 10 ?_
  show _ ∧ (_ ∧ (P (274, [some (.ref 68), some (.int v1), some (.int v2), some (.int v3), some (.int v4), none, none, some (.int v7), some (.int v8)], [], (110, x), (mj_up (mj_up m 102 v3.toNatClampNeg (.int v7)) 103 v3.toNatClampNeg (.int v8)))))
  refine And.intro k26 (And.intro k27 (?_))
  exact mj_less hC (L0 := [some (.ref 68), some (.int v1), some (.int v2), some (.int v3), some (.int v4), none, none, none, none]) (And.intro rfl (And.intro rfl (And.intro rfl (And.intro rfl (And.intro rfl trivial))))) (md_pack_j274l107_x hC hd h h0 h1)
set_option maxRecDepth 20000 in
theorem md_pack_j220l107_x {Ls tp ip x d : Nat} {Z : mj_X} {R : Option Value → mj_G → mj_M → Prop} {P : mj_K → Prop} (hC : mj_cls false (mj_sh Ls) (mj_rf tp ip) mj_dv mj_cd_245 (mj_Ex false (mj_sh Ls) (mj_rf tp ip) Z d) R P) (hd : 1 ≤ d)  {v1 : Int32} {v2 : Int32} {v3 : Int32} {v4 : Int32} {v7 : Int32} {s0 : Int32} {m : mj_M} {t : Nat} {w : (Int32 × mj_M)} (h : md_pack_j220l107  v1 v2 v3 v4 v7 s0 m = some (t, w)) (h0 : t = 0 → P (107, [some (.ref 68), some (.int v1), some (.int v2), some (.int v3), some (.int w.1), none, none, none, none], [], (110, x), w.2)) (h1 : t = 1 → P (280, [some (.ref 68), some (.int v1), some (.int v2), some (.int v3), none, none, none, none, none], [], (110, x), w.2)) : P (220, [some (.ref 68), some (.int v1), some (.int v2), some (.int v3), some (.int v4), none, none, some (.int v7), none], [.int s0], (110, x), m) := by
  unfold md_pack_j220l107 at h
  obtain ⟨k20, h⟩ := mj_ifn h
  refine mj_gcp hC 7 ?_
  show _ ∧ (P (mj_pick 274 233 ((mj_I (m 102 v3.toNatClampNeg)) < v7), [some (.ref 68), some (.int v1), some (.int v2), some (.int v3), some (.int v4), none, none, some (.int v7), some (.int s0)], [], (110, x), m))
  refine And.intro k20 (?_)
  refine mj_pbr (fun c21 => ?_) (fun c21 => ?_)
  · rw [if_pos c21] at h
    exact mj_less hC (L0 := [some (.ref 68), some (.int v1), some (.int v2), some (.int v3), some (.int v4), none, none, none, none]) (And.intro rfl (And.intro rfl (And.intro rfl (And.intro rfl (And.intro rfl trivial))))) (md_pack_j274l107_x hC hd h h0 h1)
  · rw [if_neg c21] at h
    obtain ⟨k22, h⟩ := mj_ifn h
    refine mj_gcp hC 6 ?_
    show _ ∧ (P (mj_pick 244 258 (v7 = (mj_I (m 102 v3.toNatClampNeg))), [some (.ref 68), some (.int v1), some (.int v2), some (.int v3), some (.int v4), none, none, some (.int v7), some (.int s0)], [], (110, x), m))
    refine And.intro k22 (?_)
    refine mj_pbr (fun c23 => ?_) (fun c23 => ?_)
    · rw [if_pos c23] at h
      obtain ⟨k24, h⟩ := mj_ifn h
      refine mj_gcp hC 6 ?_
      show _ ∧ (P (mj_pick 258 255 (s0 < (mj_I (m 103 v3.toNatClampNeg))), [some (.ref 68), some (.int v1), some (.int v2), some (.int v3), some (.int v4), none, none, some (.int v7), some (.int s0)], [], (110, x), m))
      refine And.intro k24 (?_)
      refine mj_pbr (fun c25 => ?_) (fun c25 => ?_)
      · rw [if_pos c25] at h
        exact mj_less hC (L0 := [some (.ref 68), some (.int v1), some (.int v2), some (.int v3), some (.int v4), none, none, some (.int v7), some (.int s0)]) (And.intro rfl (And.intro rfl (And.intro rfl (And.intro rfl (And.intro rfl (And.intro rfl (And.intro rfl trivial))))))) (md_pack_j258l107_x hC hd h h0 h1)
      · rw [if_neg c25] at h
        refine mj_gcp hC 1 ?_
        show P (274, [some (.ref 68), some (.int v1), some (.int v2), some (.int v3), some (.int v4), none, none, some (.int v7), some (.int s0)], [], (110, x), m)
        exact mj_less hC (L0 := [some (.ref 68), some (.int v1), some (.int v2), some (.int v3), some (.int v4), none, none, none, none]) (And.intro rfl (And.intro rfl (And.intro rfl (And.intro rfl (And.intro rfl trivial))))) (md_pack_j274l107_x hC hd h h0 h1)
    · rw [if_neg c23] at h
      exact mj_less hC (L0 := [some (.ref 68), some (.int v1), some (.int v2), some (.int v3), some (.int v4), none, none, some (.int v7), some (.int s0)]) (And.intro rfl (And.intro rfl (And.intro rfl (And.intro rfl (And.intro rfl (And.intro rfl (And.intro rfl trivial))))))) (md_pack_j258l107_x hC hd h h0 h1)
set_option maxRecDepth 20000 in
theorem md_pack_j188l107_x {Ls tp ip x d : Nat} {Z : mj_X} {R : Option Value → mj_G → mj_M → Prop} {P : mj_K → Prop} (hC : mj_cls false (mj_sh Ls) (mj_rf tp ip) mj_dv mj_cd_245 (mj_Ex false (mj_sh Ls) (mj_rf tp ip) Z d) R P) (hd : 1 ≤ d)  {v1 : Int32} {v2 : Int32} {v3 : Int32} {v4 : Int32} {v5 : Int32} {v6 : Int32} {s0 : Int32} {m : mj_M} {t : Nat} {w : (Int32 × mj_M)} (h : md_pack_j188l107  v1 v2 v3 v4 v5 v6 s0 m = some (t, w)) (h0 : t = 0 → P (107, [some (.ref 68), some (.int v1), some (.int v2), some (.int v3), some (.int w.1), none, none, none, none], [], (110, x), w.2)) (h1 : t = 1 → P (280, [some (.ref 68), some (.int v1), some (.int v2), some (.int v3), none, none, none, none, none], [], (110, x), w.2)) : P (188, [some (.ref 68), some (.int v1), some (.int v2), some (.int v3), some (.int v4), some (.int v5), some (.int v6), none, none], [.int s0], (110, x), m) := by
  unfold md_pack_j188l107 at h
  refine mj_gcp hC 3 ?_
  show P (mj_pick 213 195 (v6 = 0), [some (.ref 68), some (.int v1), some (.int v2), some (.int v3), some (.int v4), some (.int v5), some (.int v6), some (.int s0), none], [], (110, x), m)
  refine mj_pbr (fun c18 => ?_) (fun c18 => ?_)
  · rw [if_pos c18] at h
    obtain ⟨k19, h⟩ := mj_ifn h
    refine mj_gcp hC 4 ?_
    show _ ∧ (P (220, [some (.ref 68), some (.int v1), some (.int v2), some (.int v3), some (.int v4), some (.int v5), some (.int v6), some (.int s0), none], [.int (mj_I (m 93 v4.toNatClampNeg))], (110, x), m))
    refine And.intro k19 (?_)
    exact mj_less hC (L0 := [some (.ref 68), some (.int v1), some (.int v2), some (.int v3), some (.int v4), none, none, some (.int s0), none]) (And.intro rfl (And.intro rfl (And.intro rfl (And.intro rfl (And.intro rfl (And.intro rfl trivial)))))) (md_pack_j220l107_x hC hd h h0 h1)
  · rw [if_neg c18] at h
    obtain ⟨k28, h⟩ := mj_ifn h
    obtain ⟨k29, h⟩ := mj_ifn h
    refine mj_gcp hC 10 ?_
    show _ ∧ (_ ∧ (P (220, [some (.ref 68), some (.int v1), some (.int v2), some (.int v3), some (.int v4), some (.int v5), some (.int v6), some (.int s0), none], [.int ((mj_I (m 103 v5.toNatClampNeg)) + (mj_I (m 93 v4.toNatClampNeg)))], (110, x), m)))
    refine And.intro k28 (And.intro k29 (?_))
    exact mj_less hC (L0 := [some (.ref 68), some (.int v1), some (.int v2), some (.int v3), some (.int v4), none, none, some (.int s0), none]) (And.intro rfl (And.intro rfl (And.intro rfl (And.intro rfl (And.intro rfl (And.intro rfl trivial)))))) (md_pack_j220l107_x hC hd h h0 h1)
set_option maxRecDepth 20000 in
theorem md_pack_j162l107_x {Ls tp ip x d : Nat} {Z : mj_X} {R : Option Value → mj_G → mj_M → Prop} {P : mj_K → Prop} (hC : mj_cls false (mj_sh Ls) (mj_rf tp ip) mj_dv mj_cd_245 (mj_Ex false (mj_sh Ls) (mj_rf tp ip) Z d) R P) (hd : 1 ≤ d)  {v1 : Int32} {v2 : Int32} {v3 : Int32} {v4 : Int32} {v5 : Int32} {s0 : Int32} {m : mj_M} {t : Nat} {w : (Int32 × mj_M)} (h : md_pack_j162l107  v1 v2 v3 v4 v5 s0 m = some (t, w)) (h0 : t = 0 → P (107, [some (.ref 68), some (.int v1), some (.int v2), some (.int v3), some (.int w.1), none, none, none, none], [], (110, x), w.2)) (h1 : t = 1 → P (280, [some (.ref 68), some (.int v1), some (.int v2), some (.int v3), none, none, none, none, none], [], (110, x), w.2)) : P (162, [some (.ref 68), some (.int v1), some (.int v2), some (.int v3), some (.int v4), some (.int v5), none, none, none], [.int s0], (110, x), m) := by
  unfold md_pack_j162l107 at h
  refine mj_gcp hC 3 ?_
  show P (mj_pick 179 169 (s0 = 0), [some (.ref 68), some (.int v1), some (.int v2), some (.int v3), some (.int v4), some (.int v5), some (.int s0), none, none], [], (110, x), m)
  refine mj_pbr (fun c16 => ?_) (fun c16 => ?_)
  · rw [if_pos c16] at h
    obtain ⟨k17, h⟩ := mj_ifn h
    refine mj_gcp hC 6 ?_
    show _ ∧ (P (188, [some (.ref 68), some (.int v1), some (.int v2), some (.int v3), some (.int v4), some (.int v5), some (.int s0), none, none], [.int ((mj_I (m 102 v5.toNatClampNeg)) + 1)], (110, x), m))
    refine And.intro k17 (?_)
    exact mj_less hC (L0 := [some (.ref 68), some (.int v1), some (.int v2), some (.int v3), some (.int v4), some (.int v5), some (.int s0), none, none]) (And.intro rfl (And.intro rfl (And.intro rfl (And.intro rfl (And.intro rfl (And.intro rfl (And.intro rfl trivial))))))) (md_pack_j188l107_x hC hd h h0 h1)
  · rw [if_neg c16] at h
    obtain ⟨k30, h⟩ := mj_ifn h
    refine mj_gcp hC 5 ?_
    show _ ∧ (P (188, [some (.ref 68), some (.int v1), some (.int v2), some (.int v3), some (.int v4), some (.int v5), some (.int s0), none, none], [.int (mj_I (m 102 v5.toNatClampNeg))], (110, x), m))
    refine And.intro k30 (?_)
    exact mj_less hC (L0 := [some (.ref 68), some (.int v1), some (.int v2), some (.int v3), some (.int v4), some (.int v5), some (.int s0), none, none]) (And.intro rfl (And.intro rfl (And.intro rfl (And.intro rfl (And.intro rfl (And.intro rfl (And.intro rfl trivial))))))) (md_pack_j188l107_x hC hd h h0 h1)
set_option maxRecDepth 20000 in
theorem md_pack_l107_x {Ls tp ip x d : Nat} {Z : mj_X} {R : Option Value → mj_G → mj_M → Prop} {P : mj_K → Prop} (hC : mj_cls false (mj_sh Ls) (mj_rf tp ip) mj_dv mj_cd_245 (mj_Ex false (mj_sh Ls) (mj_rf tp ip) Z d) R P) (hd : 1 ≤ d) {v1 : Int32} {v2 : Int32} {v3 : Int32} (s107 : (Int32 × mj_M)) {t : Nat} {w : (Int32 × mj_M)} (h : md_pack_l107 v1 v2 v3 s107 = some (t, w)) (h0 : t = 0 → P (107, [some (.ref 68), some (.int v1), some (.int v2), some (.int v3), some (.int w.1), none, none, none, none], [], (110, x), w.2)) (h1 : t = 1 → P (280, [some (.ref 68), some (.int v1), some (.int v2), some (.int v3), none, none, none, none, none], [], (110, x), w.2)) : P (107, [some (.ref 68), some (.int v1), some (.int v2), some (.int v3), some (.int s107.1), none, none, none, none], [], (110, x), s107.2) := by
  unfold md_pack_l107 at h
  refine mj_gcp hC 4 ?_
  show P (mj_pick 280 116 ((mj_I (s107.2 68 14)) ≤ s107.1), [some (.ref 68), some (.int v1), some (.int v2), some (.int v3), some (.int s107.1), none, none, none, none], [], (110, x), s107.2)
  refine mj_pbr (fun c11 => ?_) (fun c11 => ?_)
  · rw [if_pos c11] at h
    cases h
    exact mj_less hC (L0 := [some (.ref 68), some (.int v1), some (.int v2), some (.int v3), none, none, none, none, none]) (And.intro rfl (And.intro rfl (And.intro rfl (And.intro rfl trivial)))) (h1 rfl)
  · rw [if_neg c11] at h
    refine mj_gcp hC 2 ?_
    show P (119, [some (.ref 68), some (.int v1), some (.int v2), some (.int v3), some (.int s107.1), none, none, none, none], [.int s107.1, .int v3], (110, x), s107.2)
    refine mj_pcall hC rfl (md_isOf_x (Nat.le_trans (by decide) hd)) ?_
    show P (122, [some (.ref 68), some (.int v1), some (.int v2), some (.int v3), some (.int s107.1), none, none, none, none], [.int (md_isOf v3 s107.1 s107.2)], (110, x), s107.2)
    refine mj_gcp hC 1 ?_
    show P (mj_pick 125 128 ((md_isOf v3 s107.1 s107.2) = 0), [some (.ref 68), some (.int v1), some (.int v2), some (.int v3), some (.int s107.1), none, none, none, none], [], (110, x), s107.2)
    refine mj_pbr (fun c12 => ?_) (fun c12 => ?_)
    · rw [if_pos c12] at h
      refine mj_gcp hC 1 ?_
      show P (274, [some (.ref 68), some (.int v1), some (.int v2), some (.int v3), some (.int s107.1), none, none, none, none], [], (110, x), s107.2)
      exact mj_less hC (L0 := [some (.ref 68), some (.int v1), some (.int v2), some (.int v3), some (.int s107.1), none, none, none, none]) (And.intro rfl (And.intro rfl (And.intro rfl (And.intro rfl (And.intro rfl trivial))))) (md_pack_j274l107_x hC hd h h0 h1)
    · rw [if_neg c12] at h
      obtain ⟨k13, h⟩ := mj_ifn h
      obtain ⟨k14, h⟩ := mj_ifn h
      refine mj_gcp hC 19 ?_
      show _ ∧ (_ ∧ (P (mj_pick 161 157 (v1 < ((mj_I (s107.2 103 (v3 &&& (((1 : Int32) <<< (s107.1 &&& 31)) ^^^ (-1))).toNatClampNeg)) + (mj_I (s107.2 93 s107.1.toNatClampNeg)))), [some (.ref 68), some (.int v1), some (.int v2), some (.int v3), some (.int s107.1), some (.int (v3 &&& (((1 : Int32) <<< (s107.1 &&& 31)) ^^^ (-1)))), none, none, none], [], (110, x), s107.2)))
      refine And.intro k13 (And.intro k14 (?_))
      refine mj_pbr (fun c15 => ?_) (fun c15 => ?_)
      · rw [if_pos c15] at h
        refine mj_gcp hC 1 ?_
        show P (162, [some (.ref 68), some (.int v1), some (.int v2), some (.int v3), some (.int s107.1), some (.int (v3 &&& (((1 : Int32) <<< (s107.1 &&& 31)) ^^^ (-1)))), none, none, none], [.int 0], (110, x), s107.2)
        exact mj_less hC (L0 := [some (.ref 68), some (.int v1), some (.int v2), some (.int v3), some (.int s107.1), some (.int (v3 &&& (((1 : Int32) <<< (s107.1 &&& 31)) ^^^ (-1)))), none, none, none]) (And.intro rfl (And.intro rfl (And.intro rfl (And.intro rfl (And.intro rfl (And.intro rfl trivial)))))) (md_pack_j162l107_x hC hd h h0 h1)
      · rw [if_neg c15] at h
        refine mj_gcp hC 2 ?_
        show P (162, [some (.ref 68), some (.int v1), some (.int v2), some (.int v3), some (.int s107.1), some (.int (v3 &&& (((1 : Int32) <<< (s107.1 &&& 31)) ^^^ (-1)))), none, none, none], [.int 1], (110, x), s107.2)
        exact mj_less hC (L0 := [some (.ref 68), some (.int v1), some (.int v2), some (.int v3), some (.int s107.1), some (.int (v3 &&& (((1 : Int32) <<< (s107.1 &&& 31)) ^^^ (-1)))), none, none, none]) (And.intro rfl (And.intro rfl (And.intro rfl (And.intro rfl (And.intro rfl (And.intro rfl trivial)))))) (md_pack_j162l107_x hC hd h h0 h1)
set_option maxRecDepth 20000 in
theorem md_pack_l84_x {Ls tp ip x d : Nat} {Z : mj_X} {R : Option Value → mj_G → mj_M → Prop} {P : mj_K → Prop} (hC : mj_cls false (mj_sh Ls) (mj_rf tp ip) mj_dv mj_cd_245 (mj_Ex false (mj_sh Ls) (mj_rf tp ip) Z d) R P) (hd : 1 ≤ d) {v1 : Int32} {v2 : Int32} (s84 : (Int32 × mj_M)) {t : Nat} {w : (Int32 × mj_M)} (h : md_pack_l84 v1 v2 s84 = some (t, w)) (h0 : t = 0 → P (84, [some (.ref 68), some (.int v1), some (.int v2), some (.int w.1), none, none, none, none, none], [], (110, x), w.2)) (h1 : t = 1 → P (286, [some (.ref 68), none, some (.int v2), none, none, none, none, none, none], [], (110, x), w.2)) : P (84, [some (.ref 68), some (.int v1), some (.int v2), some (.int s84.1), none, none, none, none, none], [], (110, x), s84.2) := by
  unfold md_pack_l84 at h
  refine mj_gcp hC 3 ?_
  show P (mj_pick 286 89 (v2 < s84.1), [some (.ref 68), some (.int v1), some (.int v2), some (.int s84.1), none, none, none, none, none], [], (110, x), s84.2)
  refine mj_pbr (fun c8 => ?_) (fun c8 => ?_)
  · rw [if_pos c8] at h
    cases h
    exact mj_less hC (L0 := [some (.ref 68), none, some (.int v2), none, none, none, none, none, none]) (And.intro rfl (And.intro rfl trivial)) (h1 rfl)
  · rw [if_neg c8] at h
    obtain ⟨k9, h⟩ := mj_ifn h
    obtain ⟨k10, h⟩ := mj_ifn h
    refine mj_gcp hC 12 ?_
    show _ ∧ (_ ∧ (P (107, [some (.ref 68), some (.int v1), some (.int v2), some (.int s84.1), some (.int 0), none, none, none, none], [], (110, x), (mj_up (mj_up s84.2 102 s84.1.toNatClampNeg (.int 99)) 103 s84.1.toNatClampNeg (.int 0)))))
    refine And.intro k9 (And.intro k10 (?_))
    obtain ⟨q31, eq31, h⟩ := mj_bnd h
    refine mj_less hC (L0 := [some (.ref 68), some (.int v1), some (.int v2), some (.int s84.1), some (.int 0), none, none, none, none]) (And.intro rfl (And.intro rfl (And.intro rfl (And.intro rfl (And.intro rfl trivial))))) ?_
    refine mj_loop_P (A := fun z107 => P (107, [some (.ref 68), some (.int v1), some (.int v2), some (.int s84.1), some (.int z107.1), none, none, none, none], [], (110, x), z107.2)) (E := fun _ z107 => P (280, [some (.ref 68), some (.int v1), some (.int v2), some (.int s84.1), none, none, none, none, none], [], (110, x), z107.2)) (fun zz t w hb h0 h1 => md_pack_l107_x hC hd zz hb h0 (fun ht => h1 0 ht)) mj_F _ q31 eq31 ?_
    refine mj_gcp hC 2 ?_
    show P (84, [some (.ref 68), some (.int v1), some (.int v2), some (.int (s84.1 + 1)), none, none, none, none, none], [], (110, x), q31.2.2)
    cases h
    exact mj_less hC (L0 := [some (.ref 68), some (.int v1), some (.int v2), some (.int (s84.1 + 1)), none, none, none, none, none]) (And.intro rfl (And.intro rfl (And.intro rfl (And.intro rfl trivial)))) (h0 rfl)
set_option maxRecDepth 20000 in
theorem md_pack_p {Ls tp ip x d : Nat} {Z : mj_X} {R : Option Value → mj_G → mj_M → Prop} {P : mj_K → Prop} (hC : mj_cls false (mj_sh Ls) (mj_rf tp ip) mj_dv mj_cd_245 (mj_Ex false (mj_sh Ls) (mj_rf tp ip) Z d) R P) (hd : 1 ≤ d) {v1 : Int32} {m : mj_M} {r : (Int32 × mj_M)} (h : md_pack v1 m = some r) (hR : R (some (.int r.1)) (110, x) r.2) : P (0, [some (.ref 68), some (.int v1), none, none, none, none, none, none, none], [], (110, x), m) := by
  unfold md_pack at h
  refine mj_gcp hC 6 ?_
  show P (10, [some (.ref 68), some (.int v1), none, none, none, none, none, none, none], [.int 9999, .int 1, .int v1], (110, x), (mj_up m 68 2 (.int 0)))
  refine mj_pcall hC rfl (md_isIn_x (Nat.le_trans (by decide) hd)) ?_
  show P (13, [some (.ref 68), some (.int v1), none, none, none, none, none, none, none], [.int (md_isIn v1 1 9999 (mj_up m 68 2 (.int 0)))], (110, x), (mj_up m 68 2 (.int 0)))
  refine mj_gcp hC 1 ?_
  show P (mj_pick 16 18 ((md_isIn v1 1 9999 (mj_up m 68 2 (.int 0))) = 0), [some (.ref 68), some (.int v1), none, none, none, none, none, none, none], [], (110, x), (mj_up m 68 2 (.int 0)))
  refine mj_pbr (fun c1 => ?_) (fun c1 => ?_)
  · rw [if_pos c1] at h
    refine mj_gcp hC 1 ?_
    show P (17, [some (.ref 68), some (.int v1), none, none, none, none, none, none, none], [.int (-1)], (110, x), (mj_up m 68 2 (.int 0)))
    cases h
    exact mj_pret hC rfl hR
  · rw [if_neg c1] at h
    refine mj_gcp hC 4 ?_
    show P (22, [some (.ref 68), some (.int v1), some (.int 0), some (.int 0), none, none, none, none, none], [], (110, x), (mj_up m 68 2 (.int 0)))
    obtain ⟨q7, eq7, h⟩ := mj_bnd h
    refine mj_less hC (L0 := [some (.ref 68), some (.int v1), some (.int 0), some (.int 0), none, none, none, none, none]) (And.intro rfl (And.intro rfl (And.intro rfl (And.intro rfl trivial)))) ?_
    refine mj_loop_P (A := fun z22 => P (22, [some (.ref 68), some (.int v1), some (.int z22.1), some (.int z22.2.1), none, none, none, none, none], [], (110, x), z22.2.2)) (E := fun j z22 => (j = 0 → P (40, [none, none, none, none, none, none, none, none, none], [], (110, x), z22.2.2)) ∧ (¬ j = 0 → P (68, [some (.ref 68), some (.int v1), some (.int z22.1), none, none, none, none, none, none], [], (110, x), z22.2.2))) (fun zz t w hb h0 h1 => md_pack_l22_x hC hd zz hb h0 (fun ht => (h1 0 ht).1 rfl) (fun ht => (h1 1 ht).2 (by decide))) mj_F _ q7 eq7 ⟨fun hj => ?_, fun hj => ?_⟩
    · rw [if_pos hj] at h
      refine mj_gcp hC 1 ?_
      show P (42, [none, none, none, none, none, none, none, none, none], [.int (-2)], (110, x), q7.2.2.2)
      cases h
      exact mj_pret hC rfl hR
    · rw [if_neg hj] at h
      refine mj_gcp hC 12 ?_
      show _ ∧ (_ ∧ (P (84, [some (.ref 68), some (.int v1), some (.int q7.2.1), some (.int 1), none, none, none, none, none], [], (110, x), (mj_up (mj_up q7.2.2.2 102 (0 : Int32).toNatClampNeg (.int 0)) 103 (0 : Int32).toNatClampNeg (.int v1)))))
      refine And.intro (show ¬ ((0 : Int32) < 0 ∨ 256 ≤ (0 : Int32).toNatClampNeg) by decide) (And.intro (show ¬ ((0 : Int32) < 0 ∨ 256 ≤ (0 : Int32).toNatClampNeg) by decide) (?_))
      obtain ⟨q32, eq32, h⟩ := mj_bnd h
      refine mj_less hC (L0 := [some (.ref 68), some (.int v1), some (.int q7.2.1), some (.int 1), none, none, none, none, none]) (And.intro rfl (And.intro rfl (And.intro rfl (And.intro rfl trivial)))) ?_
      refine mj_loop_P (A := fun z84 => P (84, [some (.ref 68), some (.int v1), some (.int q7.2.1), some (.int z84.1), none, none, none, none, none], [], (110, x), z84.2)) (E := fun _ z84 => P (286, [some (.ref 68), none, some (.int q7.2.1), none, none, none, none, none, none], [], (110, x), z84.2)) (fun zz t w hb h0 h1 => md_pack_l84_x hC hd zz hb h0 (fun ht => h1 0 ht)) mj_F _ q32 eq32 ?_
      obtain ⟨k33, h⟩ := mj_ifn h
      refine mj_gcp hC 4 ?_
      show _ ∧ (P (292, [some (.ref 68), none, some (.int q7.2.1), none, none, none, none, none, none], [.int (mj_I (q32.2.2 102 q7.2.1.toNatClampNeg))], (110, x), q32.2.2))
      refine And.intro k33 (?_)
      cases h
      exact mj_pret hC rfl hR
set_option maxRecDepth 20000 in
theorem md_pack_x {Ls tp ip x d : Nat} {Z : mj_X} (hd : 2 ≤ d) {v1 : Int32} {m : mj_M} {r : (Int32 × mj_M)} (h : md_pack v1 m = some r) : mj_Ex false (mj_sh Ls) (mj_rf tp ip) Z d 245 [.ref 68, .int v1] (110, x) m (some (.int r.1)) (110, x) r.2 := by
  exact mj_Ex_of (cd := mj_cd_245) (L := [some (.ref 68), some (.int v1), none, none, none, none, none, none, none]) (by omega) (by decide) rfl (Nat.le_of_ble_eq_true rfl) rfl (fun P hC => md_pack_p hC (by omega) h ⟨rfl, rfl, rfl⟩)
def md_canon_l30  (v1 : Int32) (v2 : Int32) (s30 : (Int32 × mj_M)) : Option (Nat × (Int32 × mj_M)) :=
  (if v2 < 0 ∨ 16 ≤ (v2 : Int32).toNatClampNeg then none else
  (if v1 < 0 ∨ 16 ≤ (v1 : Int32).toNatClampNeg then none else
  (if (mj_I (s30.2 79 v1.toNatClampNeg)) ≤ (s30.1 + (mj_I (s30.2 79 v2.toNatClampNeg))) then some (1, (s30.1, s30.2)) else
  (if v1 < 0 ∨ 16 ≤ (v1 : Int32).toNatClampNeg then none else
  some (0, ((s30.1 + (mj_I (s30.2 80 v1.toNatClampNeg))), s30.2))))))
def md_canon  (v1 : Int32) (v2 : Int32) (m : mj_M) : Option (Int32 × mj_M) :=
  (if (md_isWork v1 (mj_up m 68 2 (.int 0))) = 0 then some ((-1), (mj_up m 68 2 (.int 0))) else
  (if (md_isWork v2 (mj_up m 68 2 (.int 0))) = 0 then some ((-1), (mj_up m 68 2 (.int 0))) else
  (if v1 = v2 then some ((-1), (mj_up m 68 2 (.int 0))) else
  (mj_loop (md_canon_l30 v1 v2) mj_F (0, (mj_up m 68 2 (.int 0)))).bind fun q8 =>
  some (q8.2.1, q8.2.2))))
set_option maxRecDepth 20000 in
theorem md_canon_l30_x {Ls tp ip x d : Nat} {Z : mj_X} {R : Option Value → mj_G → mj_M → Prop} {P : mj_K → Prop} (hC : mj_cls false (mj_sh Ls) (mj_rf tp ip) mj_dv mj_cd_246 (mj_Ex false (mj_sh Ls) (mj_rf tp ip) Z d) R P) (hd : 1 ≤ d) {v1 : Int32} {v2 : Int32} (s30 : (Int32 × mj_M)) {t : Nat} {w : (Int32 × mj_M)} (h : md_canon_l30 v1 v2 s30 = some (t, w)) (h0 : t = 0 → P (30, [some (.ref 68), some (.int v1), some (.int v2), some (.int w.1)], [], (110, x), w.2)) (h1 : t = 1 → P (59, [none, none, none, some (.int w.1)], [], (110, x), w.2)) : P (30, [some (.ref 68), some (.int v1), some (.int v2), some (.int s30.1)], [], (110, x), s30.2) := by
  unfold md_canon_l30 at h
  obtain ⟨k4, h⟩ := mj_ifn h
  obtain ⟨k5, h⟩ := mj_ifn h
  refine mj_gcp hC 11 ?_
  show _ ∧ (_ ∧ (P (mj_pick 59 47 ((mj_I (s30.2 79 v1.toNatClampNeg)) ≤ (s30.1 + (mj_I (s30.2 79 v2.toNatClampNeg)))), [some (.ref 68), some (.int v1), some (.int v2), some (.int s30.1)], [], (110, x), s30.2)))
  refine And.intro k4 (And.intro k5 (?_))
  refine mj_pbr (fun c6 => ?_) (fun c6 => ?_)
  · rw [if_pos c6] at h
    cases h
    exact mj_less hC (L0 := [none, none, none, some (.int s30.1)]) (And.intro rfl trivial) (h1 rfl)
  · rw [if_neg c6] at h
    obtain ⟨k7, h⟩ := mj_ifn h
    refine mj_gcp hC 8 ?_
    show _ ∧ (P (30, [some (.ref 68), some (.int v1), some (.int v2), some (.int (s30.1 + (mj_I (s30.2 80 v1.toNatClampNeg))))], [], (110, x), s30.2))
    refine And.intro k7 (?_)
    cases h
    exact mj_less hC (L0 := [some (.ref 68), some (.int v1), some (.int v2), some (.int (s30.1 + (mj_I (s30.2 80 v1.toNatClampNeg))))]) (And.intro rfl (And.intro rfl (And.intro rfl (And.intro rfl trivial)))) (h0 rfl)
set_option maxRecDepth 20000 in
theorem md_canon_p {Ls tp ip x d : Nat} {Z : mj_X} {R : Option Value → mj_G → mj_M → Prop} {P : mj_K → Prop} (hC : mj_cls false (mj_sh Ls) (mj_rf tp ip) mj_dv mj_cd_246 (mj_Ex false (mj_sh Ls) (mj_rf tp ip) Z d) R P) (hd : 1 ≤ d) {v1 : Int32} {v2 : Int32} {m : mj_M} {r : (Int32 × mj_M)} (h : md_canon v1 v2 m = some r) (hR : R (some (.int r.1)) (110, x) r.2) : P (0, [some (.ref 68), some (.int v1), some (.int v2), none], [], (110, x), m) := by
  unfold md_canon at h
  refine mj_gcp hC 5 ?_
  show P (7, [some (.ref 68), some (.int v1), some (.int v2), none], [.int v1, .ref 68], (110, x), (mj_up m 68 2 (.int 0)))
  refine mj_pcall hC rfl (md_isWork_x (Nat.le_trans (by decide) hd)) ?_
  show P (10, [some (.ref 68), some (.int v1), some (.int v2), none], [.int (md_isWork v1 (mj_up m 68 2 (.int 0)))], (110, x), (mj_up m 68 2 (.int 0)))
  refine mj_gcp hC 1 ?_
  show P (mj_pick 26 13 ((md_isWork v1 (mj_up m 68 2 (.int 0))) = 0), [some (.ref 68), some (.int v1), some (.int v2), none], [], (110, x), (mj_up m 68 2 (.int 0)))
  refine mj_pbr (fun c1 => ?_) (fun c1 => ?_)
  · rw [if_pos c1] at h
    refine mj_gcp hC 1 ?_
    show P (27, [some (.ref 68), some (.int v1), some (.int v2), none], [.int (-1)], (110, x), (mj_up m 68 2 (.int 0)))
    cases h
    exact mj_pret hC rfl hR
  · rw [if_neg c1] at h
    refine mj_gcp hC 2 ?_
    show P (15, [some (.ref 68), some (.int v1), some (.int v2), none], [.int v2, .ref 68], (110, x), (mj_up m 68 2 (.int 0)))
    refine mj_pcall hC rfl (md_isWork_x (Nat.le_trans (by decide) hd)) ?_
    show P (18, [some (.ref 68), some (.int v1), some (.int v2), none], [.int (md_isWork v2 (mj_up m 68 2 (.int 0)))], (110, x), (mj_up m 68 2 (.int 0)))
    refine mj_gcp hC 1 ?_
    show P (mj_pick 26 21 ((md_isWork v2 (mj_up m 68 2 (.int 0))) = 0), [some (.ref 68), some (.int v1), some (.int v2), none], [], (110, x), (mj_up m 68 2 (.int 0)))
    refine mj_pbr (fun c2 => ?_) (fun c2 => ?_)
    · rw [if_pos c2] at h
      refine mj_gcp hC 1 ?_
      show P (27, [some (.ref 68), some (.int v1), some (.int v2), none], [.int (-1)], (110, x), (mj_up m 68 2 (.int 0)))
      cases h
      exact mj_pret hC rfl hR
    · rw [if_neg c2] at h
      refine mj_gcp hC 3 ?_
      show P (mj_pick 26 28 (v1 = v2), [some (.ref 68), some (.int v1), some (.int v2), none], [], (110, x), (mj_up m 68 2 (.int 0)))
      refine mj_pbr (fun c3 => ?_) (fun c3 => ?_)
      · rw [if_pos c3] at h
        refine mj_gcp hC 1 ?_
        show P (27, [some (.ref 68), some (.int v1), some (.int v2), none], [.int (-1)], (110, x), (mj_up m 68 2 (.int 0)))
        cases h
        exact mj_pret hC rfl hR
      · rw [if_neg c3] at h
        refine mj_gcp hC 2 ?_
        show P (30, [some (.ref 68), some (.int v1), some (.int v2), some (.int 0)], [], (110, x), (mj_up m 68 2 (.int 0)))
        obtain ⟨q8, eq8, h⟩ := mj_bnd h
        refine mj_less hC (L0 := [some (.ref 68), some (.int v1), some (.int v2), some (.int 0)]) (And.intro rfl (And.intro rfl (And.intro rfl (And.intro rfl trivial)))) ?_
        refine mj_loop_P (A := fun z30 => P (30, [some (.ref 68), some (.int v1), some (.int v2), some (.int z30.1)], [], (110, x), z30.2)) (E := fun _ z30 => P (59, [none, none, none, some (.int z30.1)], [], (110, x), z30.2)) (fun zz t w hb h0 h1 => md_canon_l30_x hC hd zz hb h0 (fun ht => h1 0 ht)) mj_F _ q8 eq8 ?_
        refine mj_gcp hC 1 ?_
        show P (60, [none, none, none, some (.int q8.2.1)], [.int q8.2.1], (110, x), q8.2.2)
        cases h
        exact mj_pret hC rfl hR
set_option maxRecDepth 20000 in
theorem md_canon_x {Ls tp ip x d : Nat} {Z : mj_X} (hd : 2 ≤ d) {v1 : Int32} {v2 : Int32} {m : mj_M} {r : (Int32 × mj_M)} (h : md_canon v1 v2 m = some r) : mj_Ex false (mj_sh Ls) (mj_rf tp ip) Z d 246 [.ref 68, .int v1, .int v2] (110, x) m (some (.int r.1)) (110, x) r.2 := by
  exact mj_Ex_of (cd := mj_cd_246) (L := [some (.ref 68), some (.int v1), some (.int v2), none]) (by omega) (by decide) rfl (Nat.le_of_ble_eq_true rfl) rfl (fun P hC => md_canon_p hC (by omega) h ⟨rfl, rfl, rfl⟩)
def md_crowd_j68l31   (v3 : Int32) (s0 : Int32) (s1 : Int32) (m : mj_M) : Option (Nat × (Int32 × Int32 × mj_M)) :=
  some (0, ((s0 ||| s1), (v3 + 1), m))
def md_crowd_j67l31   (v3 : Int32) (s0 : Int32) (m : mj_M) : Option (Nat × (Int32 × Int32 × mj_M)) :=
  md_crowd_j68l31 v3 s0 0 m
def md_crowd_l31   (s31 : (Int32 × Int32 × mj_M)) : Option (Nat × (Int32 × Int32 × mj_M)) :=
  (if (mj_I (s31.2.2 68 14)) ≤ s31.2.1 then some (1, (s31.1, s31.2.1, s31.2.2)) else
  (if s31.2.1 < 0 ∨ 16 ≤ (s31.2.1 : Int32).toNatClampNeg then none else
  (if (mj_I (s31.2.2 93 s31.2.1.toNatClampNeg)) ≤ 0 then md_crowd_j67l31 s31.2.1 s31.1 s31.2.2 else
  (if ((8 : Int32) + s31.2.1) < 0 ∨ 16 ≤ (((8 : Int32) + s31.2.1) : Int32).toNatClampNeg then none else
  (if (mj_I (s31.2.2 93 ((8 : Int32) + s31.2.1).toNatClampNeg)) = 0 then md_crowd_j68l31 s31.2.1 s31.1 ((1 : Int32) <<< (s31.2.1 &&& 31)) s31.2.2 else
  md_crowd_j67l31 s31.2.1 s31.1 s31.2.2)))))
def md_crowd  (v1 : Int32) (m : mj_M) : Option (Int32 × mj_M) :=
  (if (md_isIn v1 0 200 (mj_up m 68 2 (.int 0))) = 0 then some ((-1), (mj_up m 68 2 (.int 0))) else
  (md_layTried (mj_up m 68 2 (.int 0))).bind fun q2 =>
  (md_goMany v1 q2).bind fun q3 =>
  (mj_loop (md_crowd_l31) mj_F (0, 0, q3)).bind fun q9 =>
  some (q9.2.1, q9.2.2.2))
set_option maxRecDepth 20000 in
theorem md_crowd_j68l31_x {Ls tp ip x d : Nat} {Z : mj_X} {R : Option Value → mj_G → mj_M → Prop} {P : mj_K → Prop} (hC : mj_cls false (mj_sh Ls) (mj_rf tp ip) mj_dv mj_cd_247 (mj_Ex false (mj_sh Ls) (mj_rf tp ip) Z d) R P) (hd : 8 ≤ d)  {v3 : Int32} {s0 : Int32} {s1 : Int32} {m : mj_M} {t : Nat} {w : (Int32 × Int32 × mj_M)} (h : md_crowd_j68l31  v3 s0 s1 m = some (t, w)) (h0 : t = 0 → P (31, [some (.ref 68), none, some (.int w.1), some (.int w.2.1)], [], (110, x), w.2.2)) (h1 : t = 1 → P (76, [none, none, some (.int w.1), none], [], (110, x), w.2.2)) : P (68, [some (.ref 68), none, none, some (.int v3)], [.int s1, .int s0], (110, x), m) := by
  unfold md_crowd_j68l31 at h
  refine mj_gcp hC 4 ?_
  show P (31, [some (.ref 68), none, some (.int (s0 ||| s1)), some (.int (v3 + 1))], [], (110, x), m)
  cases h
  exact mj_less hC (L0 := [some (.ref 68), none, some (.int (s0 ||| s1)), some (.int (v3 + 1))]) (And.intro rfl (And.intro rfl (And.intro rfl trivial))) (h0 rfl)
set_option maxRecDepth 20000 in
theorem md_crowd_j67l31_x {Ls tp ip x d : Nat} {Z : mj_X} {R : Option Value → mj_G → mj_M → Prop} {P : mj_K → Prop} (hC : mj_cls false (mj_sh Ls) (mj_rf tp ip) mj_dv mj_cd_247 (mj_Ex false (mj_sh Ls) (mj_rf tp ip) Z d) R P) (hd : 8 ≤ d)  {v3 : Int32} {s0 : Int32} {m : mj_M} {t : Nat} {w : (Int32 × Int32 × mj_M)} (h : md_crowd_j67l31  v3 s0 m = some (t, w)) (h0 : t = 0 → P (31, [some (.ref 68), none, some (.int w.1), some (.int w.2.1)], [], (110, x), w.2.2)) (h1 : t = 1 → P (76, [none, none, some (.int w.1), none], [], (110, x), w.2.2)) : P (67, [some (.ref 68), none, none, some (.int v3)], [.int s0], (110, x), m) := by
  unfold md_crowd_j67l31 at h
  refine mj_gcp hC 1 ?_
  show P (68, [some (.ref 68), none, none, some (.int v3)], [.int 0, .int s0], (110, x), m)
  exact mj_less hC (L0 := [some (.ref 68), none, none, some (.int v3)]) (And.intro rfl (And.intro rfl trivial)) (md_crowd_j68l31_x hC hd h h0 h1)
set_option maxRecDepth 20000 in
theorem md_crowd_l31_x {Ls tp ip x d : Nat} {Z : mj_X} {R : Option Value → mj_G → mj_M → Prop} {P : mj_K → Prop} (hC : mj_cls false (mj_sh Ls) (mj_rf tp ip) mj_dv mj_cd_247 (mj_Ex false (mj_sh Ls) (mj_rf tp ip) Z d) R P) (hd : 8 ≤ d)  (s31 : (Int32 × Int32 × mj_M)) {t : Nat} {w : (Int32 × Int32 × mj_M)} (h : md_crowd_l31 s31 = some (t, w)) (h0 : t = 0 → P (31, [some (.ref 68), none, some (.int w.1), some (.int w.2.1)], [], (110, x), w.2.2)) (h1 : t = 1 → P (76, [none, none, some (.int w.1), none], [], (110, x), w.2.2)) : P (31, [some (.ref 68), none, some (.int s31.1), some (.int s31.2.1)], [], (110, x), s31.2.2) := by
  unfold md_crowd_l31 at h
  refine mj_gcp hC 4 ?_
  show P (mj_pick 76 39 ((mj_I (s31.2.2 68 14)) ≤ s31.2.1), [some (.ref 68), none, some (.int s31.1), some (.int s31.2.1)], [], (110, x), s31.2.2)
  refine mj_pbr (fun c4 => ?_) (fun c4 => ?_)
  · rw [if_pos c4] at h
    cases h
    exact mj_less hC (L0 := [none, none, some (.int s31.1), none]) (And.intro rfl trivial) (h1 rfl)
  · rw [if_neg c4] at h
    obtain ⟨k5, h⟩ := mj_ifn h
    refine mj_gcp hC 6 ?_
    show _ ∧ (P (mj_pick 67 49 ((mj_I (s31.2.2 93 s31.2.1.toNatClampNeg)) ≤ 0), [some (.ref 68), none, some (.int s31.1), some (.int s31.2.1)], [.int s31.1], (110, x), s31.2.2))
    refine And.intro k5 (?_)
    refine mj_pbr (fun c6 => ?_) (fun c6 => ?_)
    · rw [if_pos c6] at h
      exact mj_less hC (L0 := [some (.ref 68), none, none, some (.int s31.2.1)]) (And.intro rfl (And.intro rfl trivial)) (md_crowd_j67l31_x hC hd h h0 h1)
    · rw [if_neg c6] at h
      obtain ⟨k7, h⟩ := mj_ifn h
      refine mj_gcp hC 7 ?_
      show _ ∧ (P (mj_pick 61 67 ((mj_I (s31.2.2 93 ((8 : Int32) + s31.2.1).toNatClampNeg)) = 0), [some (.ref 68), none, some (.int s31.1), some (.int s31.2.1)], [.int s31.1], (110, x), s31.2.2))
      refine And.intro k7 (?_)
      refine mj_pbr (fun c8 => ?_) (fun c8 => ?_)
      · rw [if_pos c8] at h
        refine mj_gcp hC 4 ?_
        show P (68, [some (.ref 68), none, some (.int s31.1), some (.int s31.2.1)], [.int ((1 : Int32) <<< (s31.2.1 &&& 31)), .int s31.1], (110, x), s31.2.2)
        exact mj_less hC (L0 := [some (.ref 68), none, none, some (.int s31.2.1)]) (And.intro rfl (And.intro rfl trivial)) (md_crowd_j68l31_x hC hd h h0 h1)
      · rw [if_neg c8] at h
        exact mj_less hC (L0 := [some (.ref 68), none, none, some (.int s31.2.1)]) (And.intro rfl (And.intro rfl trivial)) (md_crowd_j67l31_x hC hd h h0 h1)
set_option maxRecDepth 20000 in
theorem md_crowd_p {Ls tp ip x d : Nat} {Z : mj_X} {R : Option Value → mj_G → mj_M → Prop} {P : mj_K → Prop} (hC : mj_cls false (mj_sh Ls) (mj_rf tp ip) mj_dv mj_cd_247 (mj_Ex false (mj_sh Ls) (mj_rf tp ip) Z d) R P) (hd : 8 ≤ d) {v1 : Int32} {m : mj_M} {r : (Int32 × mj_M)} (h : md_crowd v1 m = some r) (hR : R (some (.int r.1)) (110, x) r.2) : P (0, [some (.ref 68), some (.int v1), none, none], [], (110, x), m) := by
  unfold md_crowd at h
  refine mj_gcp hC 6 ?_
  show P (10, [some (.ref 68), some (.int v1), none, none], [.int 200, .int 0, .int v1], (110, x), (mj_up m 68 2 (.int 0)))
  refine mj_pcall hC rfl (md_isIn_x (Nat.le_trans (by decide) hd)) ?_
  show P (13, [some (.ref 68), some (.int v1), none, none], [.int (md_isIn v1 0 200 (mj_up m 68 2 (.int 0)))], (110, x), (mj_up m 68 2 (.int 0)))
  refine mj_gcp hC 1 ?_
  show P (mj_pick 16 18 ((md_isIn v1 0 200 (mj_up m 68 2 (.int 0))) = 0), [some (.ref 68), some (.int v1), none, none], [], (110, x), (mj_up m 68 2 (.int 0)))
  refine mj_pbr (fun c1 => ?_) (fun c1 => ?_)
  · rw [if_pos c1] at h
    refine mj_gcp hC 1 ?_
    show P (17, [some (.ref 68), some (.int v1), none, none], [.int (-1)], (110, x), (mj_up m 68 2 (.int 0)))
    cases h
    exact mj_pret hC rfl hR
  · rw [if_neg c1] at h
    refine mj_gcp hC 1 ?_
    show P (19, [some (.ref 68), some (.int v1), none, none], [.ref 68], (110, x), (mj_up m 68 2 (.int 0)))
    obtain ⟨q2, eq2, h⟩ := mj_bnd h
    refine mj_pcall hC rfl (md_layTried_x (Nat.le_trans (by decide) hd) eq2) ?_
    show P (22, [some (.ref 68), some (.int v1), none, none], [], (110, x), q2)
    refine mj_gcp hC 2 ?_
    show P (24, [some (.ref 68), some (.int v1), none, none], [.int v1, .ref 68], (110, x), q2)
    obtain ⟨q3, eq3, h⟩ := mj_bnd h
    refine mj_pcall hC rfl (md_goMany_x (Nat.le_trans (by decide) hd) eq3) ?_
    show P (27, [some (.ref 68), some (.int v1), none, none], [], (110, x), q3)
    refine mj_gcp hC 4 ?_
    show P (31, [some (.ref 68), some (.int v1), some (.int 0), some (.int 0)], [], (110, x), q3)
    obtain ⟨q9, eq9, h⟩ := mj_bnd h
    refine mj_less hC (L0 := [some (.ref 68), none, some (.int 0), some (.int 0)]) (And.intro rfl (And.intro rfl (And.intro rfl trivial))) ?_
    refine mj_loop_P (A := fun z31 => P (31, [some (.ref 68), none, some (.int z31.1), some (.int z31.2.1)], [], (110, x), z31.2.2)) (E := fun _ z31 => P (76, [none, none, some (.int z31.1), none], [], (110, x), z31.2.2)) (fun zz t w hb h0 h1 => md_crowd_l31_x hC hd zz hb h0 (fun ht => h1 0 ht)) mj_F _ q9 eq9 ?_
    refine mj_gcp hC 1 ?_
    show P (77, [none, none, some (.int q9.2.1), none], [.int q9.2.1], (110, x), q9.2.2.2)
    cases h
    exact mj_pret hC rfl hR
set_option maxRecDepth 20000 in
theorem md_crowd_x {Ls tp ip x d : Nat} {Z : mj_X} (hd : 9 ≤ d) {v1 : Int32} {m : mj_M} {r : (Int32 × mj_M)} (h : md_crowd v1 m = some r) : mj_Ex false (mj_sh Ls) (mj_rf tp ip) Z d 247 [.ref 68, .int v1] (110, x) m (some (.int r.1)) (110, x) r.2 := by
  exact mj_Ex_of (cd := mj_cd_247) (L := [some (.ref 68), some (.int v1), none, none]) (by omega) (by decide) rfl (Nat.le_of_ble_eq_true rfl) rfl (fun P hC => md_crowd_p hC (by omega) h ⟨rfl, rfl, rfl⟩)
def md_off_j98l48   (v1 : Int32) (v2 : Int32) (v3 : Int32) (v5 : Int32) (v6 : Int32) (s0 : Int32) (s1 : Int32) (m : mj_M) : Option (Nat × (Int32 × Int32 × Int32 × mj_M)) :=
  some (0, ((s0 + s1), v5, (v6 + 1), m))
def md_off_j77l48   (v1 : Int32) (v2 : Int32) (v3 : Int32) (v4 : Int32) (v6 : Int32) (s0 : Int32) (s1 : Int32) (m : mj_M) : Option (Nat × (Int32 × Int32 × Int32 × mj_M)) :=
  (if (md_isOf (mj_I (m 68 62)) v1 m) = 0 then md_off_j98l48 v1 v2 v3 (s0 + s1) v6 v4 0 m else
  md_off_j98l48 v1 v2 v3 (s0 + s1) v6 v4 1 m)
def md_off_l48  (v1 : Int32) (v2 : Int32) (v3 : Int32) (s48 : (Int32 × Int32 × Int32 × mj_M)) : Option (Nat × (Int32 × Int32 × Int32 × mj_M)) :=
  (if v2 ≤ s48.2.2.1 then some (1, (s48.1, s48.2.1, s48.2.2.1, s48.2.2.2)) else
  (md_hourGoes 1 s48.2.2.2).bind fun q6 =>
  (if (md_isOf (mj_I (q6 68 61)) v1 q6) = 0 then md_off_j77l48 v1 v2 v3 s48.1 s48.2.2.1 s48.2.1 0 q6 else
  md_off_j77l48 v1 v2 v3 s48.1 s48.2.2.1 s48.2.1 1 q6))
def md_off  (v1 : Int32) (v2 : Int32) (v3 : Int32) (m : mj_M) : Option (Int32 × mj_M) :=
  (if (md_isMan v1 (mj_up m 68 2 (.int 0))) = 0 then some ((-1), (mj_up m 68 2 (.int 0))) else
  (if (md_isIn v2 1 200 (mj_up m 68 2 (.int 0))) = 0 then some ((-1), (mj_up m 68 2 (.int 0))) else
  (if (md_isIn v3 0 1 (mj_up m 68 2 (.int 0))) = 0 then some ((-1), (mj_up m 68 2 (.int 0))) else
  (md_layTried (mj_up m 68 2 (.int 0))).bind fun q4 =>
  (mj_loop (md_off_l48 v1 v2 v3) mj_F (0, 0, 0, q4)).bind fun q9 =>
  (if q9.2.2.1 = 0 then some (v3, q9.2.2.2.2) else
  (md_common q9.2.2.1 q9.2.1 q9.2.2.2.2).bind fun q11 =>
  (if v3 = 0 then (if (q11 : Int32) = 0 then none else
  some ((q9.2.1 / q11), q9.2.2.2.2)) else
  (if (q11 : Int32) = 0 then none else
  some ((q9.2.2.1 / q11), q9.2.2.2.2)))))))
set_option maxRecDepth 20000 in
theorem md_off_j98l48_x {Ls tp ip x d : Nat} {Z : mj_X} {R : Option Value → mj_G → mj_M → Prop} {P : mj_K → Prop} (hC : mj_cls false (mj_sh Ls) (mj_rf tp ip) mj_dv mj_cd_248 (mj_Ex false (mj_sh Ls) (mj_rf tp ip) Z d) R P) (hd : 7 ≤ d)  {v1 : Int32} {v2 : Int32} {v3 : Int32} {v5 : Int32} {v6 : Int32} {s0 : Int32} {s1 : Int32} {m : mj_M} {t : Nat} {w : (Int32 × Int32 × Int32 × mj_M)} (h : md_off_j98l48  v1 v2 v3 v5 v6 s0 s1 m = some (t, w)) (h0 : t = 0 → P (48, [some (.ref 68), some (.int v1), some (.int v2), some (.int v3), some (.int w.1), some (.int w.2.1), some (.int w.2.2.1)], [], (110, x), w.2.2.2)) (h1 : t = 1 → P (107, [none, none, none, some (.int v3), some (.int w.1), some (.int w.2.1), none], [], (110, x), w.2.2.2)) : P (98, [some (.ref 68), some (.int v1), some (.int v2), some (.int v3), none, some (.int v5), some (.int v6)], [.int s1, .int s0], (110, x), m) := by
  unfold md_off_j98l48 at h
  refine mj_gcp hC 4 ?_
  show P (48, [some (.ref 68), some (.int v1), some (.int v2), some (.int v3), some (.int (s0 + s1)), some (.int v5), some (.int (v6 + 1))], [], (110, x), m)
  cases h
  exact mj_less hC (L0 := [some (.ref 68), some (.int v1), some (.int v2), some (.int v3), some (.int (s0 + s1)), some (.int v5), some (.int (v6 + 1))]) (And.intro rfl (And.intro rfl (And.intro rfl (And.intro rfl (And.intro rfl (And.intro rfl (And.intro rfl trivial))))))) (h0 rfl)
set_option maxRecDepth 20000 in
theorem md_off_j77l48_x {Ls tp ip x d : Nat} {Z : mj_X} {R : Option Value → mj_G → mj_M → Prop} {P : mj_K → Prop} (hC : mj_cls false (mj_sh Ls) (mj_rf tp ip) mj_dv mj_cd_248 (mj_Ex false (mj_sh Ls) (mj_rf tp ip) Z d) R P) (hd : 7 ≤ d)  {v1 : Int32} {v2 : Int32} {v3 : Int32} {v4 : Int32} {v6 : Int32} {s0 : Int32} {s1 : Int32} {m : mj_M} {t : Nat} {w : (Int32 × Int32 × Int32 × mj_M)} (h : md_off_j77l48  v1 v2 v3 v4 v6 s0 s1 m = some (t, w)) (h0 : t = 0 → P (48, [some (.ref 68), some (.int v1), some (.int v2), some (.int v3), some (.int w.1), some (.int w.2.1), some (.int w.2.2.1)], [], (110, x), w.2.2.2)) (h1 : t = 1 → P (107, [none, none, none, some (.int v3), some (.int w.1), some (.int w.2.1), none], [], (110, x), w.2.2.2)) : P (77, [some (.ref 68), some (.int v1), some (.int v2), some (.int v3), some (.int v4), none, some (.int v6)], [.int s1, .int s0], (110, x), m) := by
  unfold md_off_j77l48 at h
  refine mj_gcp hC 6 ?_
  show P (87, [some (.ref 68), some (.int v1), some (.int v2), some (.int v3), some (.int v4), some (.int (s0 + s1)), some (.int v6)], [.int v1, .int (mj_I (m 68 62)), .int v4], (110, x), m)
  refine mj_pcall hC rfl (md_isOf_x (Nat.le_trans (by decide) hd)) ?_
  show P (90, [some (.ref 68), some (.int v1), some (.int v2), some (.int v3), some (.int v4), some (.int (s0 + s1)), some (.int v6)], [.int (md_isOf (mj_I (m 68 62)) v1 m), .int v4], (110, x), m)
  refine mj_gcp hC 1 ?_
  show P (mj_pick 97 93 ((md_isOf (mj_I (m 68 62)) v1 m) = 0), [some (.ref 68), some (.int v1), some (.int v2), some (.int v3), some (.int v4), some (.int (s0 + s1)), some (.int v6)], [.int v4], (110, x), m)
  refine mj_pbr (fun c8 => ?_) (fun c8 => ?_)
  · rw [if_pos c8] at h
    refine mj_gcp hC 1 ?_
    show P (98, [some (.ref 68), some (.int v1), some (.int v2), some (.int v3), some (.int v4), some (.int (s0 + s1)), some (.int v6)], [.int 0, .int v4], (110, x), m)
    exact mj_less hC (L0 := [some (.ref 68), some (.int v1), some (.int v2), some (.int v3), none, some (.int (s0 + s1)), some (.int v6)]) (And.intro rfl (And.intro rfl (And.intro rfl (And.intro rfl (And.intro rfl (And.intro rfl trivial)))))) (md_off_j98l48_x hC hd h h0 h1)
  · rw [if_neg c8] at h
    refine mj_gcp hC 2 ?_
    show P (98, [some (.ref 68), some (.int v1), some (.int v2), some (.int v3), some (.int v4), some (.int (s0 + s1)), some (.int v6)], [.int 1, .int v4], (110, x), m)
    exact mj_less hC (L0 := [some (.ref 68), some (.int v1), some (.int v2), some (.int v3), none, some (.int (s0 + s1)), some (.int v6)]) (And.intro rfl (And.intro rfl (And.intro rfl (And.intro rfl (And.intro rfl (And.intro rfl trivial)))))) (md_off_j98l48_x hC hd h h0 h1)
set_option maxRecDepth 20000 in
theorem md_off_l48_x {Ls tp ip x d : Nat} {Z : mj_X} {R : Option Value → mj_G → mj_M → Prop} {P : mj_K → Prop} (hC : mj_cls false (mj_sh Ls) (mj_rf tp ip) mj_dv mj_cd_248 (mj_Ex false (mj_sh Ls) (mj_rf tp ip) Z d) R P) (hd : 7 ≤ d) {v1 : Int32} {v2 : Int32} {v3 : Int32} (s48 : (Int32 × Int32 × Int32 × mj_M)) {t : Nat} {w : (Int32 × Int32 × Int32 × mj_M)} (h : md_off_l48 v1 v2 v3 s48 = some (t, w)) (h0 : t = 0 → P (48, [some (.ref 68), some (.int v1), some (.int v2), some (.int v3), some (.int w.1), some (.int w.2.1), some (.int w.2.2.1)], [], (110, x), w.2.2.2)) (h1 : t = 1 → P (107, [none, none, none, some (.int v3), some (.int w.1), some (.int w.2.1), none], [], (110, x), w.2.2.2)) : P (48, [some (.ref 68), some (.int v1), some (.int v2), some (.int v3), some (.int s48.1), some (.int s48.2.1), some (.int s48.2.2.1)], [], (110, x), s48.2.2.2) := by
  unfold md_off_l48 at h
  refine mj_gcp hC 3 ?_
  show P (mj_pick 107 54 (v2 ≤ s48.2.2.1), [some (.ref 68), some (.int v1), some (.int v2), some (.int v3), some (.int s48.1), some (.int s48.2.1), some (.int s48.2.2.1)], [], (110, x), s48.2.2.2)
  refine mj_pbr (fun c5 => ?_) (fun c5 => ?_)
  · rw [if_pos c5] at h
    cases h
    exact mj_less hC (L0 := [none, none, none, some (.int v3), some (.int s48.1), some (.int s48.2.1), none]) (And.intro rfl (And.intro rfl (And.intro rfl trivial))) (h1 rfl)
  · rw [if_neg c5] at h
    refine mj_gcp hC 2 ?_
    show P (56, [some (.ref 68), some (.int v1), some (.int v2), some (.int v3), some (.int s48.1), some (.int s48.2.1), some (.int s48.2.2.1)], [.int 1, .ref 68], (110, x), s48.2.2.2)
    obtain ⟨q6, eq6, h⟩ := mj_bnd h
    refine mj_pcall hC rfl (md_hourGoes_x (Nat.le_trans (by decide) hd) eq6) ?_
    show P (59, [some (.ref 68), some (.int v1), some (.int v2), some (.int v3), some (.int s48.1), some (.int s48.2.1), some (.int s48.2.2.1)], [], (110, x), q6)
    refine mj_gcp hC 4 ?_
    show P (66, [some (.ref 68), some (.int v1), some (.int v2), some (.int v3), some (.int s48.1), some (.int s48.2.1), some (.int s48.2.2.1)], [.int v1, .int (mj_I (q6 68 61)), .int s48.2.1], (110, x), q6)
    refine mj_pcall hC rfl (md_isOf_x (Nat.le_trans (by decide) hd)) ?_
    show P (69, [some (.ref 68), some (.int v1), some (.int v2), some (.int v3), some (.int s48.1), some (.int s48.2.1), some (.int s48.2.2.1)], [.int (md_isOf (mj_I (q6 68 61)) v1 q6), .int s48.2.1], (110, x), q6)
    refine mj_gcp hC 1 ?_
    show P (mj_pick 76 72 ((md_isOf (mj_I (q6 68 61)) v1 q6) = 0), [some (.ref 68), some (.int v1), some (.int v2), some (.int v3), some (.int s48.1), some (.int s48.2.1), some (.int s48.2.2.1)], [.int s48.2.1], (110, x), q6)
    refine mj_pbr (fun c7 => ?_) (fun c7 => ?_)
    · rw [if_pos c7] at h
      refine mj_gcp hC 1 ?_
      show P (77, [some (.ref 68), some (.int v1), some (.int v2), some (.int v3), some (.int s48.1), some (.int s48.2.1), some (.int s48.2.2.1)], [.int 0, .int s48.2.1], (110, x), q6)
      exact mj_less hC (L0 := [some (.ref 68), some (.int v1), some (.int v2), some (.int v3), some (.int s48.1), none, some (.int s48.2.2.1)]) (And.intro rfl (And.intro rfl (And.intro rfl (And.intro rfl (And.intro rfl (And.intro rfl trivial)))))) (md_off_j77l48_x hC hd h h0 h1)
    · rw [if_neg c7] at h
      refine mj_gcp hC 2 ?_
      show P (77, [some (.ref 68), some (.int v1), some (.int v2), some (.int v3), some (.int s48.1), some (.int s48.2.1), some (.int s48.2.2.1)], [.int 1, .int s48.2.1], (110, x), q6)
      exact mj_less hC (L0 := [some (.ref 68), some (.int v1), some (.int v2), some (.int v3), some (.int s48.1), none, some (.int s48.2.2.1)]) (And.intro rfl (And.intro rfl (And.intro rfl (And.intro rfl (And.intro rfl (And.intro rfl trivial)))))) (md_off_j77l48_x hC hd h h0 h1)
set_option maxRecDepth 20000 in
theorem md_off_p {Ls tp ip x d : Nat} {Z : mj_X} {R : Option Value → mj_G → mj_M → Prop} {P : mj_K → Prop} (hC : mj_cls false (mj_sh Ls) (mj_rf tp ip) mj_dv mj_cd_248 (mj_Ex false (mj_sh Ls) (mj_rf tp ip) Z d) R P) (hd : 7 ≤ d) {v1 : Int32} {v2 : Int32} {v3 : Int32} {m : mj_M} {r : (Int32 × mj_M)} (h : md_off v1 v2 v3 m = some r) (hR : R (some (.int r.1)) (110, x) r.2) : P (0, [some (.ref 68), some (.int v1), some (.int v2), some (.int v3), none, none, none], [], (110, x), m) := by
  unfold md_off at h
  refine mj_gcp hC 5 ?_
  show P (7, [some (.ref 68), some (.int v1), some (.int v2), some (.int v3), none, none, none], [.int v1, .ref 68], (110, x), (mj_up m 68 2 (.int 0)))
  refine mj_pcall hC rfl (md_isMan_x (Nat.le_trans (by decide) hd)) ?_
  show P (10, [some (.ref 68), some (.int v1), some (.int v2), some (.int v3), none, none, none], [.int (md_isMan v1 (mj_up m 68 2 (.int 0)))], (110, x), (mj_up m 68 2 (.int 0)))
  refine mj_gcp hC 1 ?_
  show P (mj_pick 33 13 ((md_isMan v1 (mj_up m 68 2 (.int 0))) = 0), [some (.ref 68), some (.int v1), some (.int v2), some (.int v3), none, none, none], [], (110, x), (mj_up m 68 2 (.int 0)))
  refine mj_pbr (fun c1 => ?_) (fun c1 => ?_)
  · rw [if_pos c1] at h
    refine mj_gcp hC 1 ?_
    show P (34, [some (.ref 68), some (.int v1), some (.int v2), some (.int v3), none, none, none], [.int (-1)], (110, x), (mj_up m 68 2 (.int 0)))
    cases h
    exact mj_pret hC rfl hR
  · rw [if_neg c1] at h
    refine mj_gcp hC 3 ?_
    show P (18, [some (.ref 68), some (.int v1), some (.int v2), some (.int v3), none, none, none], [.int 200, .int 1, .int v2], (110, x), (mj_up m 68 2 (.int 0)))
    refine mj_pcall hC rfl (md_isIn_x (Nat.le_trans (by decide) hd)) ?_
    show P (21, [some (.ref 68), some (.int v1), some (.int v2), some (.int v3), none, none, none], [.int (md_isIn v2 1 200 (mj_up m 68 2 (.int 0)))], (110, x), (mj_up m 68 2 (.int 0)))
    refine mj_gcp hC 1 ?_
    show P (mj_pick 33 24 ((md_isIn v2 1 200 (mj_up m 68 2 (.int 0))) = 0), [some (.ref 68), some (.int v1), some (.int v2), some (.int v3), none, none, none], [], (110, x), (mj_up m 68 2 (.int 0)))
    refine mj_pbr (fun c2 => ?_) (fun c2 => ?_)
    · rw [if_pos c2] at h
      refine mj_gcp hC 1 ?_
      show P (34, [some (.ref 68), some (.int v1), some (.int v2), some (.int v3), none, none, none], [.int (-1)], (110, x), (mj_up m 68 2 (.int 0)))
      cases h
      exact mj_pret hC rfl hR
    · rw [if_neg c2] at h
      refine mj_gcp hC 3 ?_
      show P (27, [some (.ref 68), some (.int v1), some (.int v2), some (.int v3), none, none, none], [.int 1, .int 0, .int v3], (110, x), (mj_up m 68 2 (.int 0)))
      refine mj_pcall hC rfl (md_isIn_x (Nat.le_trans (by decide) hd)) ?_
      show P (30, [some (.ref 68), some (.int v1), some (.int v2), some (.int v3), none, none, none], [.int (md_isIn v3 0 1 (mj_up m 68 2 (.int 0)))], (110, x), (mj_up m 68 2 (.int 0)))
      refine mj_gcp hC 1 ?_
      show P (mj_pick 33 35 ((md_isIn v3 0 1 (mj_up m 68 2 (.int 0))) = 0), [some (.ref 68), some (.int v1), some (.int v2), some (.int v3), none, none, none], [], (110, x), (mj_up m 68 2 (.int 0)))
      refine mj_pbr (fun c3 => ?_) (fun c3 => ?_)
      · rw [if_pos c3] at h
        refine mj_gcp hC 1 ?_
        show P (34, [some (.ref 68), some (.int v1), some (.int v2), some (.int v3), none, none, none], [.int (-1)], (110, x), (mj_up m 68 2 (.int 0)))
        cases h
        exact mj_pret hC rfl hR
      · rw [if_neg c3] at h
        refine mj_gcp hC 1 ?_
        show P (36, [some (.ref 68), some (.int v1), some (.int v2), some (.int v3), none, none, none], [.ref 68], (110, x), (mj_up m 68 2 (.int 0)))
        obtain ⟨q4, eq4, h⟩ := mj_bnd h
        refine mj_pcall hC rfl (md_layTried_x (Nat.le_trans (by decide) hd) eq4) ?_
        show P (39, [some (.ref 68), some (.int v1), some (.int v2), some (.int v3), none, none, none], [], (110, x), q4)
        refine mj_gcp hC 6 ?_
        show P (48, [some (.ref 68), some (.int v1), some (.int v2), some (.int v3), some (.int 0), some (.int 0), some (.int 0)], [], (110, x), q4)
        obtain ⟨q9, eq9, h⟩ := mj_bnd h
        refine mj_less hC (L0 := [some (.ref 68), some (.int v1), some (.int v2), some (.int v3), some (.int 0), some (.int 0), some (.int 0)]) (And.intro rfl (And.intro rfl (And.intro rfl (And.intro rfl (And.intro rfl (And.intro rfl (And.intro rfl trivial))))))) ?_
        refine mj_loop_P (A := fun z48 => P (48, [some (.ref 68), some (.int v1), some (.int v2), some (.int v3), some (.int z48.1), some (.int z48.2.1), some (.int z48.2.2.1)], [], (110, x), z48.2.2.2)) (E := fun _ z48 => P (107, [none, none, none, some (.int v3), some (.int z48.1), some (.int z48.2.1), none], [], (110, x), z48.2.2.2)) (fun zz t w hb h0 h1 => md_off_l48_x hC hd zz hb h0 (fun ht => h1 0 ht)) mj_F _ q9 eq9 ?_
        refine mj_gcp hC 2 ?_
        show P (mj_pick 112 114 (q9.2.2.1 = 0), [none, none, none, some (.int v3), some (.int q9.2.1), some (.int q9.2.2.1), none], [], (110, x), q9.2.2.2.2)
        refine mj_pbr (fun c10 => ?_) (fun c10 => ?_)
        · rw [if_pos c10] at h
          refine mj_gcp hC 1 ?_
          show P (113, [none, none, none, some (.int v3), some (.int q9.2.1), some (.int q9.2.2.1), none], [.int v3], (110, x), q9.2.2.2.2)
          cases h
          exact mj_pret hC rfl hR
        · rw [if_neg c10] at h
          refine mj_gcp hC 2 ?_
          show P (118, [none, none, none, some (.int v3), some (.int q9.2.1), some (.int q9.2.2.1), none], [.int q9.2.1, .int q9.2.2.1], (110, x), q9.2.2.2.2)
          obtain ⟨q11, eq11, h⟩ := mj_bnd h
          refine mj_pcall hC rfl (md_common_x (Nat.le_trans (by decide) hd) eq11) ?_
          show P (121, [none, none, none, some (.int v3), some (.int q9.2.1), some (.int q9.2.2.1), none], [.int q11], (110, x), q9.2.2.2.2)
          refine mj_gcp hC 3 ?_
          show P (mj_pick 127 135 (v3 = 0), [none, none, none, some (.int v3), some (.int q9.2.1), some (.int q9.2.2.1), some (.int q11)], [], (110, x), q9.2.2.2.2)
          refine mj_pbr (fun c12 => ?_) (fun c12 => ?_)
          · rw [if_pos c12] at h
            obtain ⟨k13, h⟩ := mj_ifn h
            refine mj_gcp hC 4 ?_
            show _ ∧ (P (140, [none, none, none, some (.int v3), some (.int q9.2.1), some (.int q9.2.2.1), some (.int q11)], [.int (q9.2.1 / q11)], (110, x), q9.2.2.2.2))
            refine And.intro k13 (?_)
            cases h
            exact mj_pret hC rfl hR
          · rw [if_neg c12] at h
            obtain ⟨k14, h⟩ := mj_ifn h
            refine mj_gcp hC 3 ?_
            show _ ∧ (P (140, [none, none, none, some (.int v3), some (.int q9.2.1), some (.int q9.2.2.1), some (.int q11)], [.int (q9.2.2.1 / q11)], (110, x), q9.2.2.2.2))
            refine And.intro k14 (?_)
            cases h
            exact mj_pret hC rfl hR
set_option maxRecDepth 20000 in
theorem md_off_x {Ls tp ip x d : Nat} {Z : mj_X} (hd : 8 ≤ d) {v1 : Int32} {v2 : Int32} {v3 : Int32} {m : mj_M} {r : (Int32 × mj_M)} (h : md_off v1 v2 v3 m = some r) : mj_Ex false (mj_sh Ls) (mj_rf tp ip) Z d 248 [.ref 68, .int v1, .int v2, .int v3] (110, x) m (some (.int r.1)) (110, x) r.2 := by
  exact mj_Ex_of (cd := mj_cd_248) (L := [some (.ref 68), some (.int v1), some (.int v2), some (.int v3), none, none, none]) (by omega) (by decide) rfl (Nat.le_of_ble_eq_true rfl) rfl (fun P hC => md_off_p hC (by omega) h ⟨rfl, rfl, rfl⟩)
def md_loses_j125  (v2 : Int32) (v8 : Int32) (s0 : Int32) (s1 : Int32) (m : mj_M) : Option Int32 :=
  (if v2 = v8 then some (s0 + s1) else
  some ((s0 + s1) + 1))
def md_loses_j96  (v2 : Int32) (v4 : Int32) (v5 : Int32) (v8 : Int32) (s0 : Int32) (m : mj_M) : Option Int32 :=
  (if (v4 - 20) ≤ v5 then md_loses_j125 v2 v8 s0 0 m else
  md_loses_j125 v2 v8 s0 (((v4 - 20) - v5) / 10) m)
def md_loses_j75  (v2 : Int32) (v4 : Int32) (v5 : Int32) (s0 : Int32) (m : mj_M) : Option Int32 :=
  (if v5 ≤ v4 then md_loses_j96 v2 v4 v5 s0 0 m else
  md_loses_j96 v2 v4 v5 s0 ((v5 - v4) / 10) m)
def md_loses_j61  (v2 : Int32) (v4 : Int32) (v5 : Int32) (v6 : Int32) (s0 : Int32) (m : mj_M) : Option Int32 :=
  (if v6 ≤ s0 then md_loses_j75 v2 v4 v5 0 m else
  md_loses_j75 v2 v4 v5 1 m)
def md_loses_j39  (v2 : Int32) (v4 : Int32) (v5 : Int32) (s0 : Int32) (m : mj_M) : Option Int32 :=
  (if v4 ≤ 80 then md_loses_j61 v2 v4 v5 s0 ((80 : Int32) - v4) m else
  md_loses_j61 v2 v4 v5 s0 (v4 - 80) m)
def md_loses  (v1 : Int32) (v2 : Int32) (v3 : Int32) (m : mj_M) : Option Int32 :=
  (if v1 < 0 ∨ 12 ≤ (v1 : Int32).toNatClampNeg then none else
  (if (mj_I (m 74 v1.toNatClampNeg)) ≤ 40 then md_loses_j39 v2 (mj_I (m 74 v1.toNatClampNeg)) ((40 : Int32) + ((20 : Int32) * (v2 + v3))) ((40 : Int32) - (mj_I (m 74 v1.toNatClampNeg))) m else
  md_loses_j39 v2 (mj_I (m 74 v1.toNatClampNeg)) ((40 : Int32) + ((20 : Int32) * (v2 + v3))) ((mj_I (m 74 v1.toNatClampNeg)) - 40) m))
set_option maxRecDepth 20000 in
theorem md_loses_j125_x {Ls tp ip x d : Nat} {Z : mj_X} {R : Option Value → mj_G → mj_M → Prop} {P : mj_K → Prop} (hC : mj_cls false (mj_sh Ls) (mj_rf tp ip) mj_dv mj_cd_249 (mj_Ex false (mj_sh Ls) (mj_rf tp ip) Z d) R P) (hd : 0 ≤ d) {v2 : Int32} {v8 : Int32} {s0 : Int32} {s1 : Int32} {m : mj_M} {r : Int32} (h : md_loses_j125 v2 v8 s0 s1 m = some r) (hR : R (some (.int r)) (110, x) m) : P (125, [none, none, some (.int v2), none, none, none, none, none, some (.int v8), none], [.int s1, .int s0], (110, x), m) := by
  unfold md_loses_j125 at h
  refine mj_gcp hC 5 ?_
  show P (mj_pick 134 139 (v2 = v8), [none, none, some (.int v2), none, none, none, none, none, some (.int v8), some (.int (s0 + s1))], [], (110, x), m)
  refine mj_pbr (fun c7 => ?_) (fun c7 => ?_)
  · rw [if_pos c7] at h
    refine mj_gcp hC 2 ?_
    show P (143, [none, none, some (.int v2), none, none, none, none, none, some (.int v8), some (.int (s0 + s1))], [.int (s0 + s1)], (110, x), m)
    cases h
    exact mj_pret hC rfl hR
  · rw [if_neg c7] at h
    refine mj_gcp hC 3 ?_
    show P (143, [none, none, some (.int v2), none, none, none, none, none, some (.int v8), some (.int (s0 + s1))], [.int ((s0 + s1) + 1)], (110, x), m)
    cases h
    exact mj_pret hC rfl hR
set_option maxRecDepth 20000 in
theorem md_loses_j96_x {Ls tp ip x d : Nat} {Z : mj_X} {R : Option Value → mj_G → mj_M → Prop} {P : mj_K → Prop} (hC : mj_cls false (mj_sh Ls) (mj_rf tp ip) mj_dv mj_cd_249 (mj_Ex false (mj_sh Ls) (mj_rf tp ip) Z d) R P) (hd : 0 ≤ d) {v2 : Int32} {v4 : Int32} {v5 : Int32} {v8 : Int32} {s0 : Int32} {m : mj_M} {r : Int32} (h : md_loses_j96 v2 v4 v5 v8 s0 m = some r) (hR : R (some (.int r)) (110, x) m) : P (96, [none, none, some (.int v2), none, some (.int v4), some (.int v5), none, none, some (.int v8), none], [.int s0], (110, x), m) := by
  unfold md_loses_j96 at h
  refine mj_gcp hC 7 ?_
  show P (mj_pick 124 110 ((v4 - 20) ≤ v5), [none, none, some (.int v2), none, some (.int v4), some (.int v5), none, none, some (.int v8), some (.int s0)], [.int s0], (110, x), m)
  refine mj_pbr (fun c6 => ?_) (fun c6 => ?_)
  · rw [if_pos c6] at h
    refine mj_gcp hC 1 ?_
    show P (125, [none, none, some (.int v2), none, some (.int v4), some (.int v5), none, none, some (.int v8), some (.int s0)], [.int 0, .int s0], (110, x), m)
    exact mj_less hC (L0 := [none, none, some (.int v2), none, none, none, none, none, some (.int v8), none]) (And.intro rfl (And.intro rfl trivial)) (md_loses_j125_x hC hd h hR)
  · rw [if_neg c6] at h
    refine mj_gcp hC 8 ?_
    show _ ∧ (P (125, [none, none, some (.int v2), none, some (.int v4), some (.int v5), none, none, some (.int v8), some (.int s0)], [.int (((v4 - 20) - v5) / 10), .int s0], (110, x), m))
    refine And.intro (show ¬ ((10 : Int32) = 0) by decide) (?_)
    exact mj_less hC (L0 := [none, none, some (.int v2), none, none, none, none, none, some (.int v8), none]) (And.intro rfl (And.intro rfl trivial)) (md_loses_j125_x hC hd h hR)
set_option maxRecDepth 20000 in
theorem md_loses_j75_x {Ls tp ip x d : Nat} {Z : mj_X} {R : Option Value → mj_G → mj_M → Prop} {P : mj_K → Prop} (hC : mj_cls false (mj_sh Ls) (mj_rf tp ip) mj_dv mj_cd_249 (mj_Ex false (mj_sh Ls) (mj_rf tp ip) Z d) R P) (hd : 0 ≤ d) {v2 : Int32} {v4 : Int32} {v5 : Int32} {s0 : Int32} {m : mj_M} {r : Int32} (h : md_loses_j75 v2 v4 v5 s0 m = some r) (hR : R (some (.int r)) (110, x) m) : P (75, [none, none, some (.int v2), none, some (.int v4), some (.int v5), none, none, none, none], [.int s0], (110, x), m) := by
  unfold md_loses_j75 at h
  refine mj_gcp hC 4 ?_
  show P (mj_pick 95 84 (v5 ≤ v4), [none, none, some (.int v2), none, some (.int v4), some (.int v5), none, none, some (.int s0), none], [], (110, x), m)
  refine mj_pbr (fun c5 => ?_) (fun c5 => ?_)
  · rw [if_pos c5] at h
    refine mj_gcp hC 1 ?_
    show P (96, [none, none, some (.int v2), none, some (.int v4), some (.int v5), none, none, some (.int s0), none], [.int 0], (110, x), m)
    exact mj_less hC (L0 := [none, none, some (.int v2), none, some (.int v4), some (.int v5), none, none, some (.int s0), none]) (And.intro rfl (And.intro rfl (And.intro rfl (And.intro rfl trivial)))) (md_loses_j96_x hC hd h hR)
  · rw [if_neg c5] at h
    refine mj_gcp hC 6 ?_
    show _ ∧ (P (96, [none, none, some (.int v2), none, some (.int v4), some (.int v5), none, none, some (.int s0), none], [.int ((v5 - v4) / 10)], (110, x), m))
    refine And.intro (show ¬ ((10 : Int32) = 0) by decide) (?_)
    exact mj_less hC (L0 := [none, none, some (.int v2), none, some (.int v4), some (.int v5), none, none, some (.int s0), none]) (And.intro rfl (And.intro rfl (And.intro rfl (And.intro rfl trivial)))) (md_loses_j96_x hC hd h hR)
set_option maxRecDepth 20000 in
theorem md_loses_j61_x {Ls tp ip x d : Nat} {Z : mj_X} {R : Option Value → mj_G → mj_M → Prop} {P : mj_K → Prop} (hC : mj_cls false (mj_sh Ls) (mj_rf tp ip) mj_dv mj_cd_249 (mj_Ex false (mj_sh Ls) (mj_rf tp ip) Z d) R P) (hd : 0 ≤ d) {v2 : Int32} {v4 : Int32} {v5 : Int32} {v6 : Int32} {s0 : Int32} {m : mj_M} {r : Int32} (h : md_loses_j61 v2 v4 v5 v6 s0 m = some r) (hR : R (some (.int r)) (110, x) m) : P (61, [none, none, some (.int v2), none, some (.int v4), some (.int v5), some (.int v6), none, none, none], [.int s0], (110, x), m) := by
  unfold md_loses_j61 at h
  refine mj_gcp hC 4 ?_
  show P (mj_pick 74 70 (v6 ≤ s0), [none, none, some (.int v2), none, some (.int v4), some (.int v5), some (.int v6), some (.int s0), none, none], [], (110, x), m)
  refine mj_pbr (fun c4 => ?_) (fun c4 => ?_)
  · rw [if_pos c4] at h
    refine mj_gcp hC 1 ?_
    show P (75, [none, none, some (.int v2), none, some (.int v4), some (.int v5), some (.int v6), some (.int s0), none, none], [.int 0], (110, x), m)
    exact mj_less hC (L0 := [none, none, some (.int v2), none, some (.int v4), some (.int v5), none, none, none, none]) (And.intro rfl (And.intro rfl (And.intro rfl trivial))) (md_loses_j75_x hC hd h hR)
  · rw [if_neg c4] at h
    refine mj_gcp hC 2 ?_
    show P (75, [none, none, some (.int v2), none, some (.int v4), some (.int v5), some (.int v6), some (.int s0), none, none], [.int 1], (110, x), m)
    exact mj_less hC (L0 := [none, none, some (.int v2), none, some (.int v4), some (.int v5), none, none, none, none]) (And.intro rfl (And.intro rfl (And.intro rfl trivial))) (md_loses_j75_x hC hd h hR)
set_option maxRecDepth 20000 in
theorem md_loses_j39_x {Ls tp ip x d : Nat} {Z : mj_X} {R : Option Value → mj_G → mj_M → Prop} {P : mj_K → Prop} (hC : mj_cls false (mj_sh Ls) (mj_rf tp ip) mj_dv mj_cd_249 (mj_Ex false (mj_sh Ls) (mj_rf tp ip) Z d) R P) (hd : 0 ≤ d) {v2 : Int32} {v4 : Int32} {v5 : Int32} {s0 : Int32} {m : mj_M} {r : Int32} (h : md_loses_j39 v2 v4 v5 s0 m = some r) (hR : R (some (.int r)) (110, x) m) : P (39, [none, none, some (.int v2), none, some (.int v4), some (.int v5), none, none, none, none], [.int s0], (110, x), m) := by
  unfold md_loses_j39 at h
  refine mj_gcp hC 4 ?_
  show P (mj_pick 56 48 (v4 ≤ 80), [none, none, some (.int v2), none, some (.int v4), some (.int v5), some (.int s0), none, none, none], [], (110, x), m)
  refine mj_pbr (fun c3 => ?_) (fun c3 => ?_)
  · rw [if_pos c3] at h
    refine mj_gcp hC 3 ?_
    show P (61, [none, none, some (.int v2), none, some (.int v4), some (.int v5), some (.int s0), none, none, none], [.int ((80 : Int32) - v4)], (110, x), m)
    exact mj_less hC (L0 := [none, none, some (.int v2), none, some (.int v4), some (.int v5), some (.int s0), none, none, none]) (And.intro rfl (And.intro rfl (And.intro rfl (And.intro rfl trivial)))) (md_loses_j61_x hC hd h hR)
  · rw [if_neg c3] at h
    refine mj_gcp hC 4 ?_
    show P (61, [none, none, some (.int v2), none, some (.int v4), some (.int v5), some (.int s0), none, none, none], [.int (v4 - 80)], (110, x), m)
    exact mj_less hC (L0 := [none, none, some (.int v2), none, some (.int v4), some (.int v5), some (.int s0), none, none, none]) (And.intro rfl (And.intro rfl (And.intro rfl (And.intro rfl trivial)))) (md_loses_j61_x hC hd h hR)
set_option maxRecDepth 20000 in
theorem md_loses_p {Ls tp ip x d : Nat} {Z : mj_X} {R : Option Value → mj_G → mj_M → Prop} {P : mj_K → Prop} (hC : mj_cls false (mj_sh Ls) (mj_rf tp ip) mj_dv mj_cd_249 (mj_Ex false (mj_sh Ls) (mj_rf tp ip) Z d) R P) (hd : 0 ≤ d) {v1 : Int32} {v2 : Int32} {v3 : Int32} {m : mj_M} {r : Int32} (h : md_loses v1 v2 v3 m = some r) (hR : R (some (.int r)) (110, x) m) : P (0, [some (.ref 68), some (.int v1), some (.int v2), some (.int v3), none, none, none, none, none, none], [], (110, x), m) := by
  unfold md_loses at h
  obtain ⟨k1, h⟩ := mj_ifn h
  refine mj_gcp hC 16 ?_
  show _ ∧ (P (mj_pick 34 26 ((mj_I (m 74 v1.toNatClampNeg)) ≤ 40), [some (.ref 68), some (.int v1), some (.int v2), some (.int v3), some (.int (mj_I (m 74 v1.toNatClampNeg))), some (.int ((40 : Int32) + ((20 : Int32) * (v2 + v3)))), none, none, none, none], [], (110, x), m))
  refine And.intro k1 (?_)
  refine mj_pbr (fun c2 => ?_) (fun c2 => ?_)
  · rw [if_pos c2] at h
    refine mj_gcp hC 3 ?_
    show P (39, [some (.ref 68), some (.int v1), some (.int v2), some (.int v3), some (.int (mj_I (m 74 v1.toNatClampNeg))), some (.int ((40 : Int32) + ((20 : Int32) * (v2 + v3)))), none, none, none, none], [.int ((40 : Int32) - (mj_I (m 74 v1.toNatClampNeg)))], (110, x), m)
    exact mj_less hC (L0 := [none, none, some (.int v2), none, some (.int (mj_I (m 74 v1.toNatClampNeg))), some (.int ((40 : Int32) + ((20 : Int32) * (v2 + v3)))), none, none, none, none]) (And.intro rfl (And.intro rfl (And.intro rfl trivial))) (md_loses_j39_x hC hd h hR)
  · rw [if_neg c2] at h
    refine mj_gcp hC 4 ?_
    show P (39, [some (.ref 68), some (.int v1), some (.int v2), some (.int v3), some (.int (mj_I (m 74 v1.toNatClampNeg))), some (.int ((40 : Int32) + ((20 : Int32) * (v2 + v3)))), none, none, none, none], [.int ((mj_I (m 74 v1.toNatClampNeg)) - 40)], (110, x), m)
    exact mj_less hC (L0 := [none, none, some (.int v2), none, some (.int (mj_I (m 74 v1.toNatClampNeg))), some (.int ((40 : Int32) + ((20 : Int32) * (v2 + v3)))), none, none, none, none]) (And.intro rfl (And.intro rfl (And.intro rfl trivial))) (md_loses_j39_x hC hd h hR)
set_option maxRecDepth 20000 in
theorem md_loses_x {Ls tp ip x d : Nat} {Z : mj_X} (hd : 1 ≤ d) {v1 : Int32} {v2 : Int32} {v3 : Int32} {m : mj_M} {r : Int32} (h : md_loses v1 v2 v3 m = some r) : mj_Ex false (mj_sh Ls) (mj_rf tp ip) Z d 249 [.ref 68, .int v1, .int v2, .int v3] (110, x) m (some (.int r)) (110, x) m := by
  exact mj_Ex_of (cd := mj_cd_249) (L := [some (.ref 68), some (.int v1), some (.int v2), some (.int v3), none, none, none, none, none, none]) (by omega) (by decide) rfl (Nat.le_of_ble_eq_true rfl) rfl (fun P hC => md_loses_p hC (by omega) h ⟨rfl, rfl, rfl⟩)
def md_restAt_j91l6   (v1 : Int32) (v2 : Int32) (v3 : Int32) (v4 : Int32) (v5 : Int32)  (m : mj_M) : Option (Nat × (Int32 × Int32 × Int32 × Int32)) :=
  some (0, (v4, (v5 + 1), 0, 0))
def md_restAt_l6  (v1 : Int32) (v2 : Int32) (v3 : Int32) (m : mj_M) (s6 : (Int32 × Int32 × Int32 × Int32)) : Option (Nat × (Int32 × Int32 × Int32 × Int32)) :=
  (if 4 ≤ s6.2.1 then some (2, (s6.1, s6.2.1, 0, 0)) else
  (md_loses v1 ((1 : Int32) - (s6.2.1 / 2)) (s6.2.1 - s6.2.1 / 2 * 2) m).bind fun q2 =>
  (md_loses v1 (s6.2.1 / 2) (s6.2.1 - s6.2.1 / 2 * 2) m).bind fun q3 =>
  (if q2 < q3 then md_restAt_j91l6 v1 v2 v3 s6.1 s6.2.1 m else
  (md_loses v2 ((1 : Int32) - (s6.2.1 - s6.2.1 / 2 * 2)) (s6.2.1 / 2) m).bind fun q5 =>
  (md_loses v2 (s6.2.1 - s6.2.1 / 2 * 2) (s6.2.1 / 2) m).bind fun q6 =>
  (if q6 ≤ q5 then (if s6.1 = v3 then some (1, (s6.1, s6.2.1, (s6.2.1 / 2), (s6.2.1 - s6.2.1 / 2 * 2))) else
  md_restAt_j91l6 v1 v2 v3 (s6.1 + 1) s6.2.1 m) else
  md_restAt_j91l6 v1 v2 v3 s6.1 s6.2.1 m)))
def md_restAt  (v1 : Int32) (v2 : Int32) (v3 : Int32) (m : mj_M) : Option Int32 :=
  (mj_loop (md_restAt_l6 v1 v2 v3 m) mj_F (0, 0, 0, 0)).bind fun q9 =>
  (if q9.1 = 0 then some (((10 : Int32) * q9.2.2.2.1) + q9.2.2.2.2) else (if 0 ≤ v3 then some (-2) else
  some q9.2.1))
set_option maxRecDepth 20000 in
theorem md_restAt_j91l6_x {Ls tp ip x d : Nat} {Z : mj_X} {R : Option Value → mj_G → mj_M → Prop} {P : mj_K → Prop} (hC : mj_cls false (mj_sh Ls) (mj_rf tp ip) mj_dv mj_cd_250 (mj_Ex false (mj_sh Ls) (mj_rf tp ip) Z d) R P) (hd : 1 ≤ d)  {v1 : Int32} {v2 : Int32} {v3 : Int32} {v4 : Int32} {v5 : Int32}  {m : mj_M} {t : Nat} {w : (Int32 × Int32 × Int32 × Int32)} (h : md_restAt_j91l6  v1 v2 v3 v4 v5 m = some (t, w)) (h0 : t = 0 → P (6, [some (.ref 68), some (.int v1), some (.int v2), some (.int v3), some (.int w.1), some (.int w.2.1), none, none], [], (110, x), m)) (h1 : t = 1 → P (79, [none, none, none, none, none, none, some (.int w.2.2.1), some (.int w.2.2.2)], [], (110, x), m)) (h2 : t = 2 → P (97, [none, none, none, some (.int v3), some (.int w.1), none, none, none], [], (110, x), m)) : P (91, [some (.ref 68), some (.int v1), some (.int v2), some (.int v3), some (.int v4), some (.int v5), none, none], [], (110, x), m) := by
  unfold md_restAt_j91l6 at h
  refine mj_gcp hC 2 ?_
  show P (6, [some (.ref 68), some (.int v1), some (.int v2), some (.int v3), some (.int v4), some (.int (v5 + 1)), none, none], [], (110, x), m)
  cases h
  exact mj_less hC (L0 := [some (.ref 68), some (.int v1), some (.int v2), some (.int v3), some (.int v4), some (.int (v5 + 1)), none, none]) (And.intro rfl (And.intro rfl (And.intro rfl (And.intro rfl (And.intro rfl (And.intro rfl trivial)))))) (h0 rfl)
set_option maxRecDepth 20000 in
theorem md_restAt_l6_x {Ls tp ip x d : Nat} {Z : mj_X} {R : Option Value → mj_G → mj_M → Prop} {P : mj_K → Prop} (hC : mj_cls false (mj_sh Ls) (mj_rf tp ip) mj_dv mj_cd_250 (mj_Ex false (mj_sh Ls) (mj_rf tp ip) Z d) R P) (hd : 1 ≤ d) {v1 : Int32} {v2 : Int32} {v3 : Int32} {m : mj_M} (s6 : (Int32 × Int32 × Int32 × Int32)) {t : Nat} {w : (Int32 × Int32 × Int32 × Int32)} (h : md_restAt_l6 v1 v2 v3 m s6 = some (t, w)) (h0 : t = 0 → P (6, [some (.ref 68), some (.int v1), some (.int v2), some (.int v3), some (.int w.1), some (.int w.2.1), none, none], [], (110, x), m)) (h1 : t = 1 → P (79, [none, none, none, none, none, none, some (.int w.2.2.1), some (.int w.2.2.2)], [], (110, x), m)) (h2 : t = 2 → P (97, [none, none, none, some (.int v3), some (.int w.1), none, none, none], [], (110, x), m)) : P (6, [some (.ref 68), some (.int v1), some (.int v2), some (.int v3), some (.int s6.1), some (.int s6.2.1), none, none], [], (110, x), m) := by
  unfold md_restAt_l6 at h
  refine mj_gcp hC 3 ?_
  show P (mj_pick 97 12 (4 ≤ s6.2.1), [some (.ref 68), some (.int v1), some (.int v2), some (.int v3), some (.int s6.1), some (.int s6.2.1), none, none], [], (110, x), m)
  refine mj_pbr (fun c1 => ?_) (fun c1 => ?_)
  · rw [if_pos c1] at h
    cases h
    exact mj_less hC (L0 := [none, none, none, some (.int v3), some (.int s6.1), none, none, none]) (And.intro rfl (And.intro rfl trivial)) (h2 rfl)
  · rw [if_neg c1] at h
    refine mj_gcp hC 14 ?_
    show _ ∧ (_ ∧ (P (32, [some (.ref 68), some (.int v1), some (.int v2), some (.int v3), some (.int s6.1), some (.int s6.2.1), some (.int (s6.2.1 / 2)), some (.int (s6.2.1 - s6.2.1 / 2 * 2))], [.int (s6.2.1 - s6.2.1 / 2 * 2), .int ((1 : Int32) - (s6.2.1 / 2)), .int v1, .ref 68], (110, x), m)))
    refine And.intro (show ¬ ((2 : Int32) = 0) by decide) (And.intro (show ¬ ((2 : Int32) = 0) by decide) (?_))
    obtain ⟨q2, eq2, h⟩ := mj_bnd h
    refine mj_pcall hC rfl (md_loses_x (Nat.le_trans (by decide) hd) eq2) ?_
    show P (35, [some (.ref 68), some (.int v1), some (.int v2), some (.int v3), some (.int s6.1), some (.int s6.2.1), some (.int (s6.2.1 / 2)), some (.int (s6.2.1 - s6.2.1 / 2 * 2))], [.int q2], (110, x), m)
    refine mj_gcp hC 4 ?_
    show P (41, [some (.ref 68), some (.int v1), some (.int v2), some (.int v3), some (.int s6.1), some (.int s6.2.1), some (.int (s6.2.1 / 2)), some (.int (s6.2.1 - s6.2.1 / 2 * 2))], [.int (s6.2.1 - s6.2.1 / 2 * 2), .int (s6.2.1 / 2), .int v1, .ref 68, .int q2], (110, x), m)
    obtain ⟨q3, eq3, h⟩ := mj_bnd h
    refine mj_pcall hC rfl (md_loses_x (Nat.le_trans (by decide) hd) eq3) ?_
    show P (44, [some (.ref 68), some (.int v1), some (.int v2), some (.int v3), some (.int s6.1), some (.int s6.2.1), some (.int (s6.2.1 / 2)), some (.int (s6.2.1 - s6.2.1 / 2 * 2))], [.int q3, .int q2], (110, x), m)
    refine mj_gcp hC 1 ?_
    show P (mj_pick 91 47 (q2 < q3), [some (.ref 68), some (.int v1), some (.int v2), some (.int v3), some (.int s6.1), some (.int s6.2.1), some (.int (s6.2.1 / 2)), some (.int (s6.2.1 - s6.2.1 / 2 * 2))], [], (110, x), m)
    refine mj_pbr (fun c4 => ?_) (fun c4 => ?_)
    · rw [if_pos c4] at h
      exact mj_less hC (L0 := [some (.ref 68), some (.int v1), some (.int v2), some (.int v3), some (.int s6.1), some (.int s6.2.1), none, none]) (And.intro rfl (And.intro rfl (And.intro rfl (And.intro rfl (And.intro rfl (And.intro rfl trivial)))))) (md_restAt_j91l6_x hC hd h h0 h1 h2)
    · rw [if_neg c4] at h
      refine mj_gcp hC 6 ?_
      show P (55, [some (.ref 68), some (.int v1), some (.int v2), some (.int v3), some (.int s6.1), some (.int s6.2.1), some (.int (s6.2.1 / 2)), some (.int (s6.2.1 - s6.2.1 / 2 * 2))], [.int (s6.2.1 / 2), .int ((1 : Int32) - (s6.2.1 - s6.2.1 / 2 * 2)), .int v2, .ref 68], (110, x), m)
      obtain ⟨q5, eq5, h⟩ := mj_bnd h
      refine mj_pcall hC rfl (md_loses_x (Nat.le_trans (by decide) hd) eq5) ?_
      show P (58, [some (.ref 68), some (.int v1), some (.int v2), some (.int v3), some (.int s6.1), some (.int s6.2.1), some (.int (s6.2.1 / 2)), some (.int (s6.2.1 - s6.2.1 / 2 * 2))], [.int q5], (110, x), m)
      refine mj_gcp hC 4 ?_
      show P (64, [some (.ref 68), some (.int v1), some (.int v2), some (.int v3), some (.int s6.1), some (.int s6.2.1), some (.int (s6.2.1 / 2)), some (.int (s6.2.1 - s6.2.1 / 2 * 2))], [.int (s6.2.1 / 2), .int (s6.2.1 - s6.2.1 / 2 * 2), .int v2, .ref 68, .int q5], (110, x), m)
      obtain ⟨q6, eq6, h⟩ := mj_bnd h
      refine mj_pcall hC rfl (md_loses_x (Nat.le_trans (by decide) hd) eq6) ?_
      show P (67, [some (.ref 68), some (.int v1), some (.int v2), some (.int v3), some (.int s6.1), some (.int s6.2.1), some (.int (s6.2.1 / 2)), some (.int (s6.2.1 - s6.2.1 / 2 * 2))], [.int q6, .int q5], (110, x), m)
      refine mj_gcp hC 1 ?_
      show P (mj_pick 73 70 (q6 ≤ q5), [some (.ref 68), some (.int v1), some (.int v2), some (.int v3), some (.int s6.1), some (.int s6.2.1), some (.int (s6.2.1 / 2)), some (.int (s6.2.1 - s6.2.1 / 2 * 2))], [], (110, x), m)
      refine mj_pbr (fun c7 => ?_) (fun c7 => ?_)
      · rw [if_pos c7] at h
        refine mj_gcp hC 3 ?_
        show P (mj_pick 79 88 (s6.1 = v3), [some (.ref 68), some (.int v1), some (.int v2), some (.int v3), some (.int s6.1), some (.int s6.2.1), some (.int (s6.2.1 / 2)), some (.int (s6.2.1 - s6.2.1 / 2 * 2))], [], (110, x), m)
        refine mj_pbr (fun c8 => ?_) (fun c8 => ?_)
        · rw [if_pos c8] at h
          cases h
          exact mj_less hC (L0 := [none, none, none, none, none, none, some (.int (s6.2.1 / 2)), some (.int (s6.2.1 - s6.2.1 / 2 * 2))]) (And.intro rfl (And.intro rfl trivial)) (h1 rfl)
        · rw [if_neg c8] at h
          refine mj_gcp hC 1 ?_
          show P (91, [some (.ref 68), some (.int v1), some (.int v2), some (.int v3), some (.int (s6.1 + 1)), some (.int s6.2.1), some (.int (s6.2.1 / 2)), some (.int (s6.2.1 - s6.2.1 / 2 * 2))], [], (110, x), m)
          exact mj_less hC (L0 := [some (.ref 68), some (.int v1), some (.int v2), some (.int v3), some (.int (s6.1 + 1)), some (.int s6.2.1), none, none]) (And.intro rfl (And.intro rfl (And.intro rfl (And.intro rfl (And.intro rfl (And.intro rfl trivial)))))) (md_restAt_j91l6_x hC hd h h0 h1 h2)
      · rw [if_neg c7] at h
        refine mj_gcp hC 1 ?_
        show P (91, [some (.ref 68), some (.int v1), some (.int v2), some (.int v3), some (.int s6.1), some (.int s6.2.1), some (.int (s6.2.1 / 2)), some (.int (s6.2.1 - s6.2.1 / 2 * 2))], [], (110, x), m)
        exact mj_less hC (L0 := [some (.ref 68), some (.int v1), some (.int v2), some (.int v3), some (.int s6.1), some (.int s6.2.1), none, none]) (And.intro rfl (And.intro rfl (And.intro rfl (And.intro rfl (And.intro rfl (And.intro rfl trivial)))))) (md_restAt_j91l6_x hC hd h h0 h1 h2)
set_option maxRecDepth 20000 in
theorem md_restAt_p {Ls tp ip x d : Nat} {Z : mj_X} {R : Option Value → mj_G → mj_M → Prop} {P : mj_K → Prop} (hC : mj_cls false (mj_sh Ls) (mj_rf tp ip) mj_dv mj_cd_250 (mj_Ex false (mj_sh Ls) (mj_rf tp ip) Z d) R P) (hd : 1 ≤ d) {v1 : Int32} {v2 : Int32} {v3 : Int32} {m : mj_M} {r : Int32} (h : md_restAt v1 v2 v3 m = some r) (hR : R (some (.int r)) (110, x) m) : P (0, [some (.ref 68), some (.int v1), some (.int v2), some (.int v3), none, none, none, none], [], (110, x), m) := by
  unfold md_restAt at h
  refine mj_gcp hC 4 ?_
  show P (6, [some (.ref 68), some (.int v1), some (.int v2), some (.int v3), some (.int 0), some (.int 0), none, none], [], (110, x), m)
  obtain ⟨q9, eq9, h⟩ := mj_bnd h
  refine mj_less hC (L0 := [some (.ref 68), some (.int v1), some (.int v2), some (.int v3), some (.int 0), some (.int 0), none, none]) (And.intro rfl (And.intro rfl (And.intro rfl (And.intro rfl (And.intro rfl (And.intro rfl trivial)))))) ?_
  refine mj_loop_P (A := fun z6 => P (6, [some (.ref 68), some (.int v1), some (.int v2), some (.int v3), some (.int z6.1), some (.int z6.2.1), none, none], [], (110, x), m)) (E := fun j z6 => (j = 0 → P (79, [none, none, none, none, none, none, some (.int z6.2.2.1), some (.int z6.2.2.2)], [], (110, x), m)) ∧ (¬ j = 0 → P (97, [none, none, none, some (.int v3), some (.int z6.1), none, none, none], [], (110, x), m))) (fun zz t w hb h0 h1 => md_restAt_l6_x hC hd zz hb h0 (fun ht => (h1 0 ht).1 rfl) (fun ht => (h1 1 ht).2 (by decide))) mj_F _ q9 eq9 ⟨fun hj => ?_, fun hj => ?_⟩
  · rw [if_pos hj] at h
    refine mj_gcp hC 5 ?_
    show P (87, [none, none, none, none, none, none, some (.int q9.2.2.2.1), some (.int q9.2.2.2.2)], [.int (((10 : Int32) * q9.2.2.2.1) + q9.2.2.2.2)], (110, x), m)
    cases h
    exact mj_pret hC rfl hR
  · rw [if_neg hj] at h
    refine mj_gcp hC 2 ?_
    show P (mj_pick 106 101 (0 ≤ v3), [none, none, none, some (.int v3), some (.int q9.2.1), none, none, none], [], (110, x), m)
    refine mj_pbr (fun c10 => ?_) (fun c10 => ?_)
    · rw [if_pos c10] at h
      refine mj_gcp hC 1 ?_
      show P (108, [none, none, none, some (.int v3), some (.int q9.2.1), none, none, none], [.int (-2)], (110, x), m)
      cases h
      exact mj_pret hC rfl hR
    · rw [if_neg c10] at h
      refine mj_gcp hC 2 ?_
      show P (108, [none, none, none, some (.int v3), some (.int q9.2.1), none, none, none], [.int q9.2.1], (110, x), m)
      cases h
      exact mj_pret hC rfl hR
set_option maxRecDepth 20000 in
theorem md_restAt_x {Ls tp ip x d : Nat} {Z : mj_X} (hd : 2 ≤ d) {v1 : Int32} {v2 : Int32} {v3 : Int32} {m : mj_M} {r : Int32} (h : md_restAt v1 v2 v3 m = some r) : mj_Ex false (mj_sh Ls) (mj_rf tp ip) Z d 250 [.ref 68, .int v1, .int v2, .int v3] (110, x) m (some (.int r)) (110, x) m := by
  exact mj_Ex_of (cd := mj_cd_250) (L := [some (.ref 68), some (.int v1), some (.int v2), some (.int v3), none, none, none, none]) (by omega) (by decide) rfl (Nat.le_of_ble_eq_true rfl) rfl (fun P hC => md_restAt_p hC (by omega) h ⟨rfl, rfl, rfl⟩)
def md_areTwo  (v1 : Int32) (v2 : Int32) (m : mj_M) : Int32 :=
  (if (md_isMan v1 m) = 0 then 0 else
  (if (md_isMan v2 m) = 0 then 0 else
  (if v1 = v2 then 0 else
  1)))
set_option maxRecDepth 20000 in
theorem md_areTwo_p {Ls tp ip x d : Nat} {Z : mj_X} {R : Option Value → mj_G → mj_M → Prop} {P : mj_K → Prop} (hC : mj_cls false (mj_sh Ls) (mj_rf tp ip) mj_dv mj_cd_251 (mj_Ex false (mj_sh Ls) (mj_rf tp ip) Z d) R P) (hd : 1 ≤ d) {v1 : Int32} {v2 : Int32} {m : mj_M} (hR : R (some (.int (md_areTwo v1 v2 m))) (110, x) m) : P (0, [some (.ref 68), some (.int v1), some (.int v2)], [], (110, x), m) := by
  unfold md_areTwo at hR
  refine mj_gcp hC 2 ?_
  show P (2, [some (.ref 68), some (.int v1), some (.int v2)], [.int v1, .ref 68], (110, x), m)
  refine mj_pcall hC rfl (md_isMan_x (Nat.le_trans (by decide) hd)) ?_
  show P (5, [some (.ref 68), some (.int v1), some (.int v2)], [.int (md_isMan v1 m)], (110, x), m)
  refine mj_gcp hC 1 ?_
  show P (mj_pick 25 8 ((md_isMan v1 m) = 0), [some (.ref 68), some (.int v1), some (.int v2)], [], (110, x), m)
  refine mj_pbr (fun c1 => ?_) (fun c1 => ?_)
  · rw [if_pos c1] at hR
    refine mj_gcp hC 1 ?_
    show P (26, [some (.ref 68), some (.int v1), some (.int v2)], [.int 0], (110, x), m)
    exact mj_pret hC rfl hR
  · rw [if_neg c1] at hR
    refine mj_gcp hC 2 ?_
    show P (10, [some (.ref 68), some (.int v1), some (.int v2)], [.int v2, .ref 68], (110, x), m)
    refine mj_pcall hC rfl (md_isMan_x (Nat.le_trans (by decide) hd)) ?_
    show P (13, [some (.ref 68), some (.int v1), some (.int v2)], [.int (md_isMan v2 m)], (110, x), m)
    refine mj_gcp hC 1 ?_
    show P (mj_pick 25 16 ((md_isMan v2 m) = 0), [some (.ref 68), some (.int v1), some (.int v2)], [], (110, x), m)
    refine mj_pbr (fun c2 => ?_) (fun c2 => ?_)
    · rw [if_pos c2] at hR
      refine mj_gcp hC 1 ?_
      show P (26, [some (.ref 68), some (.int v1), some (.int v2)], [.int 0], (110, x), m)
      exact mj_pret hC rfl hR
    · rw [if_neg c2] at hR
      refine mj_gcp hC 3 ?_
      show P (mj_pick 25 21 (v1 = v2), [some (.ref 68), some (.int v1), some (.int v2)], [], (110, x), m)
      refine mj_pbr (fun c3 => ?_) (fun c3 => ?_)
      · rw [if_pos c3] at hR
        refine mj_gcp hC 1 ?_
        show P (26, [some (.ref 68), some (.int v1), some (.int v2)], [.int 0], (110, x), m)
        exact mj_pret hC rfl hR
      · rw [if_neg c3] at hR
        refine mj_gcp hC 2 ?_
        show P (26, [some (.ref 68), some (.int v1), some (.int v2)], [.int 1], (110, x), m)
        exact mj_pret hC rfl hR
set_option maxRecDepth 20000 in
theorem md_areTwo_x {Ls tp ip x d : Nat} {Z : mj_X} (hd : 2 ≤ d) {v1 : Int32} {v2 : Int32} {m : mj_M}  : mj_Ex false (mj_sh Ls) (mj_rf tp ip) Z d 251 [.ref 68, .int v1, .int v2] (110, x) m (some (.int (md_areTwo v1 v2 m))) (110, x) m := by
  exact mj_Ex_of (cd := mj_cd_251) (L := [some (.ref 68), some (.int v1), some (.int v2)]) (by omega) (by decide) rfl (Nat.le_of_ble_eq_true rfl) rfl (fun P hC => md_areTwo_p hC (by omega) ⟨rfl, rfl, rfl⟩)
def md_rests  (v1 : Int32) (v2 : Int32) (m : mj_M) : Option (Int32 × mj_M) :=
  (if (md_areTwo v1 v2 (mj_up m 68 2 (.int 0))) = 0 then some ((-1), (mj_up m 68 2 (.int 0))) else
  (md_restAt v1 v2 (-1) (mj_up m 68 2 (.int 0))).bind fun q2 =>
  some (q2, (mj_up m 68 2 (.int 0))))
set_option maxRecDepth 20000 in
theorem md_rests_p {Ls tp ip x d : Nat} {Z : mj_X} {R : Option Value → mj_G → mj_M → Prop} {P : mj_K → Prop} (hC : mj_cls false (mj_sh Ls) (mj_rf tp ip) mj_dv mj_cd_252 (mj_Ex false (mj_sh Ls) (mj_rf tp ip) Z d) R P) (hd : 2 ≤ d) {v1 : Int32} {v2 : Int32} {m : mj_M} {r : (Int32 × mj_M)} (h : md_rests v1 v2 m = some r) (hR : R (some (.int r.1)) (110, x) r.2) : P (0, [some (.ref 68), some (.int v1), some (.int v2)], [], (110, x), m) := by
  unfold md_rests at h
  refine mj_gcp hC 6 ?_
  show P (8, [some (.ref 68), some (.int v1), some (.int v2)], [.int v2, .int v1, .ref 68], (110, x), (mj_up m 68 2 (.int 0)))
  refine mj_pcall hC rfl (md_areTwo_x (Nat.le_trans (by decide) hd)) ?_
  show P (11, [some (.ref 68), some (.int v1), some (.int v2)], [.int (md_areTwo v1 v2 (mj_up m 68 2 (.int 0)))], (110, x), (mj_up m 68 2 (.int 0)))
  refine mj_gcp hC 1 ?_
  show P (mj_pick 24 14 ((md_areTwo v1 v2 (mj_up m 68 2 (.int 0))) = 0), [some (.ref 68), some (.int v1), some (.int v2)], [], (110, x), (mj_up m 68 2 (.int 0)))
  refine mj_pbr (fun c1 => ?_) (fun c1 => ?_)
  · rw [if_pos c1] at h
    refine mj_gcp hC 1 ?_
    show P (25, [some (.ref 68), some (.int v1), some (.int v2)], [.int (-1)], (110, x), (mj_up m 68 2 (.int 0)))
    cases h
    exact mj_pret hC rfl hR
  · rw [if_neg c1] at h
    refine mj_gcp hC 4 ?_
    show P (18, [some (.ref 68), some (.int v1), some (.int v2)], [.int (-1), .int v2, .int v1, .ref 68], (110, x), (mj_up m 68 2 (.int 0)))
    obtain ⟨q2, eq2, h⟩ := mj_bnd h
    refine mj_pcall hC rfl (md_restAt_x (Nat.le_trans (by decide) hd) eq2) ?_
    show P (21, [some (.ref 68), some (.int v1), some (.int v2)], [.int q2], (110, x), (mj_up m 68 2 (.int 0)))
    refine mj_gcp hC 1 ?_
    show P (25, [some (.ref 68), some (.int v1), some (.int v2)], [.int q2], (110, x), (mj_up m 68 2 (.int 0)))
    cases h
    exact mj_pret hC rfl hR
set_option maxRecDepth 20000 in
theorem md_rests_x {Ls tp ip x d : Nat} {Z : mj_X} (hd : 3 ≤ d) {v1 : Int32} {v2 : Int32} {m : mj_M} {r : (Int32 × mj_M)} (h : md_rests v1 v2 m = some r) : mj_Ex false (mj_sh Ls) (mj_rf tp ip) Z d 252 [.ref 68, .int v1, .int v2] (110, x) m (some (.int r.1)) (110, x) r.2 := by
  exact mj_Ex_of (cd := mj_cd_252) (L := [some (.ref 68), some (.int v1), some (.int v2)]) (by omega) (by decide) rfl (Nat.le_of_ble_eq_true rfl) rfl (fun P hC => md_rests_p hC (by omega) h ⟨rfl, rfl, rfl⟩)
def md_rest  (v1 : Int32) (v2 : Int32) (v3 : Int32) (m : mj_M) : Option (Int32 × mj_M) :=
  (if (md_areTwo v1 v2 (mj_up m 68 2 (.int 0))) = 0 then some ((-1), (mj_up m 68 2 (.int 0))) else
  (if v3 < 0 then some ((-1), (mj_up m 68 2 (.int 0))) else
  (md_restAt v1 v2 v3 (mj_up m 68 2 (.int 0))).bind fun q3 =>
  some (q3, (mj_up m 68 2 (.int 0)))))
set_option maxRecDepth 20000 in
theorem md_rest_p {Ls tp ip x d : Nat} {Z : mj_X} {R : Option Value → mj_G → mj_M → Prop} {P : mj_K → Prop} (hC : mj_cls false (mj_sh Ls) (mj_rf tp ip) mj_dv mj_cd_253 (mj_Ex false (mj_sh Ls) (mj_rf tp ip) Z d) R P) (hd : 2 ≤ d) {v1 : Int32} {v2 : Int32} {v3 : Int32} {m : mj_M} {r : (Int32 × mj_M)} (h : md_rest v1 v2 v3 m = some r) (hR : R (some (.int r.1)) (110, x) r.2) : P (0, [some (.ref 68), some (.int v1), some (.int v2), some (.int v3)], [], (110, x), m) := by
  unfold md_rest at h
  refine mj_gcp hC 6 ?_
  show P (8, [some (.ref 68), some (.int v1), some (.int v2), some (.int v3)], [.int v2, .int v1, .ref 68], (110, x), (mj_up m 68 2 (.int 0)))
  refine mj_pcall hC rfl (md_areTwo_x (Nat.le_trans (by decide) hd)) ?_
  show P (11, [some (.ref 68), some (.int v1), some (.int v2), some (.int v3)], [.int (md_areTwo v1 v2 (mj_up m 68 2 (.int 0)))], (110, x), (mj_up m 68 2 (.int 0)))
  refine mj_gcp hC 1 ?_
  show P (mj_pick 28 14 ((md_areTwo v1 v2 (mj_up m 68 2 (.int 0))) = 0), [some (.ref 68), some (.int v1), some (.int v2), some (.int v3)], [], (110, x), (mj_up m 68 2 (.int 0)))
  refine mj_pbr (fun c1 => ?_) (fun c1 => ?_)
  · rw [if_pos c1] at h
    refine mj_gcp hC 1 ?_
    show P (29, [some (.ref 68), some (.int v1), some (.int v2), some (.int v3)], [.int (-1)], (110, x), (mj_up m 68 2 (.int 0)))
    cases h
    exact mj_pret hC rfl hR
  · rw [if_neg c1] at h
    refine mj_gcp hC 2 ?_
    show P (mj_pick 28 18 (v3 < 0), [some (.ref 68), some (.int v1), some (.int v2), some (.int v3)], [], (110, x), (mj_up m 68 2 (.int 0)))
    refine mj_pbr (fun c2 => ?_) (fun c2 => ?_)
    · rw [if_pos c2] at h
      refine mj_gcp hC 1 ?_
      show P (29, [some (.ref 68), some (.int v1), some (.int v2), some (.int v3)], [.int (-1)], (110, x), (mj_up m 68 2 (.int 0)))
      cases h
      exact mj_pret hC rfl hR
    · rw [if_neg c2] at h
      refine mj_gcp hC 4 ?_
      show P (22, [some (.ref 68), some (.int v1), some (.int v2), some (.int v3)], [.int v3, .int v2, .int v1, .ref 68], (110, x), (mj_up m 68 2 (.int 0)))
      obtain ⟨q3, eq3, h⟩ := mj_bnd h
      refine mj_pcall hC rfl (md_restAt_x (Nat.le_trans (by decide) hd) eq3) ?_
      show P (25, [some (.ref 68), some (.int v1), some (.int v2), some (.int v3)], [.int q3], (110, x), (mj_up m 68 2 (.int 0)))
      refine mj_gcp hC 1 ?_
      show P (29, [some (.ref 68), some (.int v1), some (.int v2), some (.int v3)], [.int q3], (110, x), (mj_up m 68 2 (.int 0)))
      cases h
      exact mj_pret hC rfl hR
set_option maxRecDepth 20000 in
theorem md_rest_x {Ls tp ip x d : Nat} {Z : mj_X} (hd : 3 ≤ d) {v1 : Int32} {v2 : Int32} {v3 : Int32} {m : mj_M} {r : (Int32 × mj_M)} (h : md_rest v1 v2 v3 m = some r) : mj_Ex false (mj_sh Ls) (mj_rf tp ip) Z d 253 [.ref 68, .int v1, .int v2, .int v3] (110, x) m (some (.int r.1)) (110, x) r.2 := by
  exact mj_Ex_of (cd := mj_cd_253) (L := [some (.ref 68), some (.int v1), some (.int v2), some (.int v3)]) (by omega) (by decide) rfl (Nat.le_of_ble_eq_true rfl) rfl (fun P hC => md_rest_p hC (by omega) h ⟨rfl, rfl, rfl⟩)
def md_slowest_j51l10   (v2 : Int32) (s0 : Int32) (m : mj_M) : Option (Nat × (Int32 × Int32 × mj_M)) :=
  some (0, (s0, (v2 + 1), m))
def md_slowest_j50l10   (v1 : Int32) (v2 : Int32)  (m : mj_M) : Option (Nat × (Int32 × Int32 × mj_M)) :=
  md_slowest_j51l10 v2 v1 m
def md_slowest_j46l10   (v2 : Int32)  (m : mj_M) : Option (Nat × (Int32 × Int32 × mj_M)) :=
  md_slowest_j51l10 v2 v2 m
def md_slowest_l10   (s10 : (Int32 × Int32 × mj_M)) : Option (Nat × (Int32 × Int32 × mj_M)) :=
  (if (mj_I (s10.2.2 68 12)) ≤ s10.2.1 then some (1, (s10.1, s10.2.1, s10.2.2)) else
  (if s10.2.1 < 0 ∨ 12 ≤ (s10.2.1 : Int32).toNatClampNeg then none else
  (if (mj_I (s10.2.2 97 s10.2.1.toNatClampNeg)) = 0 then md_slowest_j50l10 s10.1 s10.2.1 s10.2.2 else
  (if s10.1 < 0 then md_slowest_j46l10 s10.2.1 s10.2.2 else
  (if s10.2.1 < 0 ∨ 12 ≤ (s10.2.1 : Int32).toNatClampNeg then none else
  (if s10.1 < 0 ∨ 12 ≤ (s10.1 : Int32).toNatClampNeg then none else
  (if (mj_I (s10.2.2 74 s10.1.toNatClampNeg)) ≤ (mj_I (s10.2.2 74 s10.2.1.toNatClampNeg)) then md_slowest_j50l10 s10.1 s10.2.1 s10.2.2 else
  md_slowest_j46l10 s10.2.1 s10.2.2)))))))
def md_slowest   (m : mj_M) : Option (Int32 × mj_M) :=
  (mj_loop (md_slowest_l10) mj_F ((-2), 0, (mj_up m 68 2 (.int 0)))).bind fun q8 =>
  some (q8.2.1, q8.2.2.2)
set_option maxRecDepth 20000 in
theorem md_slowest_j51l10_x {Ls tp ip x d : Nat} {Z : mj_X} {R : Option Value → mj_G → mj_M → Prop} {P : mj_K → Prop} (hC : mj_cls false (mj_sh Ls) (mj_rf tp ip) mj_dv mj_cd_254 (mj_Ex false (mj_sh Ls) (mj_rf tp ip) Z d) R P) (hd : 0 ≤ d)  {v2 : Int32} {s0 : Int32} {m : mj_M} {t : Nat} {w : (Int32 × Int32 × mj_M)} (h : md_slowest_j51l10  v2 s0 m = some (t, w)) (h0 : t = 0 → P (10, [some (.ref 68), some (.int w.1), some (.int w.2.1)], [], (110, x), w.2.2)) (h1 : t = 1 → P (58, [none, some (.int w.1), none], [], (110, x), w.2.2)) : P (51, [some (.ref 68), none, some (.int v2)], [.int s0], (110, x), m) := by
  unfold md_slowest_j51l10 at h
  refine mj_gcp hC 3 ?_
  show P (10, [some (.ref 68), some (.int s0), some (.int (v2 + 1))], [], (110, x), m)
  cases h
  exact mj_less hC (L0 := [some (.ref 68), some (.int s0), some (.int (v2 + 1))]) (And.intro rfl (And.intro rfl (And.intro rfl trivial))) (h0 rfl)
set_option maxRecDepth 20000 in
theorem md_slowest_j50l10_x {Ls tp ip x d : Nat} {Z : mj_X} {R : Option Value → mj_G → mj_M → Prop} {P : mj_K → Prop} (hC : mj_cls false (mj_sh Ls) (mj_rf tp ip) mj_dv mj_cd_254 (mj_Ex false (mj_sh Ls) (mj_rf tp ip) Z d) R P) (hd : 0 ≤ d)  {v1 : Int32} {v2 : Int32}  {m : mj_M} {t : Nat} {w : (Int32 × Int32 × mj_M)} (h : md_slowest_j50l10  v1 v2 m = some (t, w)) (h0 : t = 0 → P (10, [some (.ref 68), some (.int w.1), some (.int w.2.1)], [], (110, x), w.2.2)) (h1 : t = 1 → P (58, [none, some (.int w.1), none], [], (110, x), w.2.2)) : P (50, [some (.ref 68), some (.int v1), some (.int v2)], [], (110, x), m) := by
  unfold md_slowest_j50l10 at h
  refine mj_gcp hC 1 ?_
  show P (51, [some (.ref 68), some (.int v1), some (.int v2)], [.int v1], (110, x), m)
  exact mj_less hC (L0 := [some (.ref 68), none, some (.int v2)]) (And.intro rfl (And.intro rfl trivial)) (md_slowest_j51l10_x hC hd h h0 h1)
set_option maxRecDepth 20000 in
theorem md_slowest_j46l10_x {Ls tp ip x d : Nat} {Z : mj_X} {R : Option Value → mj_G → mj_M → Prop} {P : mj_K → Prop} (hC : mj_cls false (mj_sh Ls) (mj_rf tp ip) mj_dv mj_cd_254 (mj_Ex false (mj_sh Ls) (mj_rf tp ip) Z d) R P) (hd : 0 ≤ d)  {v2 : Int32}  {m : mj_M} {t : Nat} {w : (Int32 × Int32 × mj_M)} (h : md_slowest_j46l10  v2 m = some (t, w)) (h0 : t = 0 → P (10, [some (.ref 68), some (.int w.1), some (.int w.2.1)], [], (110, x), w.2.2)) (h1 : t = 1 → P (58, [none, some (.int w.1), none], [], (110, x), w.2.2)) : P (46, [some (.ref 68), none, some (.int v2)], [], (110, x), m) := by
  unfold md_slowest_j46l10 at h
  refine mj_gcp hC 2 ?_
  show P (51, [some (.ref 68), none, some (.int v2)], [.int v2], (110, x), m)
  exact mj_less hC (L0 := [some (.ref 68), none, some (.int v2)]) (And.intro rfl (And.intro rfl trivial)) (md_slowest_j51l10_x hC hd h h0 h1)
set_option maxRecDepth 20000 in
theorem md_slowest_l10_x {Ls tp ip x d : Nat} {Z : mj_X} {R : Option Value → mj_G → mj_M → Prop} {P : mj_K → Prop} (hC : mj_cls false (mj_sh Ls) (mj_rf tp ip) mj_dv mj_cd_254 (mj_Ex false (mj_sh Ls) (mj_rf tp ip) Z d) R P) (hd : 0 ≤ d)  (s10 : (Int32 × Int32 × mj_M)) {t : Nat} {w : (Int32 × Int32 × mj_M)} (h : md_slowest_l10 s10 = some (t, w)) (h0 : t = 0 → P (10, [some (.ref 68), some (.int w.1), some (.int w.2.1)], [], (110, x), w.2.2)) (h1 : t = 1 → P (58, [none, some (.int w.1), none], [], (110, x), w.2.2)) : P (10, [some (.ref 68), some (.int s10.1), some (.int s10.2.1)], [], (110, x), s10.2.2) := by
  unfold md_slowest_l10 at h
  refine mj_gcp hC 4 ?_
  show P (mj_pick 58 18 ((mj_I (s10.2.2 68 12)) ≤ s10.2.1), [some (.ref 68), some (.int s10.1), some (.int s10.2.1)], [], (110, x), s10.2.2)
  refine mj_pbr (fun c1 => ?_) (fun c1 => ?_)
  · rw [if_pos c1] at h
    cases h
    exact mj_less hC (L0 := [none, some (.int s10.1), none]) (And.intro rfl trivial) (h1 rfl)
  · rw [if_neg c1] at h
    obtain ⟨k2, h⟩ := mj_ifn h
    refine mj_gcp hC 5 ?_
    show _ ∧ (P (mj_pick 50 27 ((mj_I (s10.2.2 97 s10.2.1.toNatClampNeg)) = 0), [some (.ref 68), some (.int s10.1), some (.int s10.2.1)], [], (110, x), s10.2.2))
    refine And.intro k2 (?_)
    refine mj_pbr (fun c3 => ?_) (fun c3 => ?_)
    · rw [if_pos c3] at h
      exact mj_less hC (L0 := [some (.ref 68), some (.int s10.1), some (.int s10.2.1)]) (And.intro rfl (And.intro rfl (And.intro rfl trivial))) (md_slowest_j50l10_x hC hd h h0 h1)
    · rw [if_neg c3] at h
      refine mj_gcp hC 2 ?_
      show P (mj_pick 46 31 (s10.1 < 0), [some (.ref 68), some (.int s10.1), some (.int s10.2.1)], [], (110, x), s10.2.2)
      refine mj_pbr (fun c4 => ?_) (fun c4 => ?_)
      · rw [if_pos c4] at h
        exact mj_less hC (L0 := [some (.ref 68), none, some (.int s10.2.1)]) (And.intro rfl (And.intro rfl trivial)) (md_slowest_j46l10_x hC hd h h0 h1)
      · rw [if_neg c4] at h
        obtain ⟨k5, h⟩ := mj_ifn h
        obtain ⟨k6, h⟩ := mj_ifn h
        refine mj_gcp hC 9 ?_
        show _ ∧ (_ ∧ (P (mj_pick 50 46 ((mj_I (s10.2.2 74 s10.1.toNatClampNeg)) ≤ (mj_I (s10.2.2 74 s10.2.1.toNatClampNeg))), [some (.ref 68), some (.int s10.1), some (.int s10.2.1)], [], (110, x), s10.2.2)))
        refine And.intro k5 (And.intro k6 (?_))
        refine mj_pbr (fun c7 => ?_) (fun c7 => ?_)
        · rw [if_pos c7] at h
          exact mj_less hC (L0 := [some (.ref 68), some (.int s10.1), some (.int s10.2.1)]) (And.intro rfl (And.intro rfl (And.intro rfl trivial))) (md_slowest_j50l10_x hC hd h h0 h1)
        · rw [if_neg c7] at h
          exact mj_less hC (L0 := [some (.ref 68), none, some (.int s10.2.1)]) (And.intro rfl (And.intro rfl trivial)) (md_slowest_j46l10_x hC hd h h0 h1)
set_option maxRecDepth 20000 in
theorem md_slowest_p {Ls tp ip x d : Nat} {Z : mj_X} {R : Option Value → mj_G → mj_M → Prop} {P : mj_K → Prop} (hC : mj_cls false (mj_sh Ls) (mj_rf tp ip) mj_dv mj_cd_254 (mj_Ex false (mj_sh Ls) (mj_rf tp ip) Z d) R P) (hd : 0 ≤ d)  {m : mj_M} {r : (Int32 × mj_M)} (h : md_slowest m = some r) (hR : R (some (.int r.1)) (110, x) r.2) : P (0, [some (.ref 68), none, none], [], (110, x), m) := by
  unfold md_slowest at h
  refine mj_gcp hC 7 ?_
  show P (10, [some (.ref 68), some (.int (-2)), some (.int 0)], [], (110, x), (mj_up m 68 2 (.int 0)))
  obtain ⟨q8, eq8, h⟩ := mj_bnd h
  refine mj_less hC (L0 := [some (.ref 68), some (.int (-2)), some (.int 0)]) (And.intro rfl (And.intro rfl (And.intro rfl trivial))) ?_
  refine mj_loop_P (A := fun z10 => P (10, [some (.ref 68), some (.int z10.1), some (.int z10.2.1)], [], (110, x), z10.2.2)) (E := fun _ z10 => P (58, [none, some (.int z10.1), none], [], (110, x), z10.2.2)) (fun zz t w hb h0 h1 => md_slowest_l10_x hC hd zz hb h0 (fun ht => h1 0 ht)) mj_F _ q8 eq8 ?_
  refine mj_gcp hC 1 ?_
  show P (59, [none, some (.int q8.2.1), none], [.int q8.2.1], (110, x), q8.2.2.2)
  cases h
  exact mj_pret hC rfl hR
set_option maxRecDepth 20000 in
theorem md_slowest_x {Ls tp ip x d : Nat} {Z : mj_X} (hd : 1 ≤ d)  {m : mj_M} {r : (Int32 × mj_M)} (h : md_slowest m = some r) : mj_Ex false (mj_sh Ls) (mj_rf tp ip) Z d 254 [.ref 68] (110, x) m (some (.int r.1)) (110, x) r.2 := by
  exact mj_Ex_of (cd := mj_cd_254) (L := [some (.ref 68), none, none]) (by omega) (by decide) rfl (Nat.le_of_ble_eq_true rfl) rfl (fun P hC => md_slowest_p hC (by omega) h ⟨rfl, rfl, rfl⟩)
def md_strange_j116l44   (v1 : Int32) (v2 : Int32) (v3 : Int32) (v5 : Int32) (s0 : Int32) (s1 : Int32) (m : mj_M) : Option (Nat × (Int32 × Int32 × mj_M)) :=
  some (0, ((s0 ||| s1), (v5 + 1), m))
def md_strange_j115l44   (v1 : Int32) (v2 : Int32) (v3 : Int32) (v5 : Int32) (s0 : Int32) (m : mj_M) : Option (Nat × (Int32 × Int32 × mj_M)) :=
  md_strange_j116l44 v1 v2 v3 v5 s0 0 m
def md_strange_j105l44   (v1 : Int32) (v2 : Int32) (v3 : Int32) (v5 : Int32) (s0 : Int32) (s1 : Int32) (s2 : Int32) (m : mj_M) : Option (Nat × (Int32 × Int32 × mj_M)) :=
  (if s1 = s2 then md_strange_j116l44 v1 v2 v3 v5 s0 ((1 : Int32) <<< (v5 &&& 31)) m else
  md_strange_j115l44 v1 v2 v3 v5 s0 m)
def md_strange_j69l44   (v1 : Int32) (v2 : Int32) (v3 : Int32) (v4 : Int32) (v5 : Int32) (s0 : Int32) (m : mj_M) : Option (Nat × (Int32 × Int32 × mj_M)) :=
  (if v5 < 0 ∨ 12 ≤ (v5 : Int32).toNatClampNeg then none else
  (if (mj_I (m 97 v5.toNatClampNeg)) = 0 then md_strange_j115l44 v1 v2 v3 v5 v4 m else
  (if v5 < 0 ∨ 12 ≤ (v5 : Int32).toNatClampNeg then none else
  (if (mj_I (m 95 v5.toNatClampNeg)) < v1 then md_strange_j115l44 v1 v2 v3 v5 v4 m else
  (if v2 = 0 then md_strange_j105l44 v1 v2 v3 v5 v4 s0 1 m else
  md_strange_j105l44 v1 v2 v3 v5 v4 s0 0 m)))))
def md_strange_l44  (v1 : Int32) (v2 : Int32) (v3 : Int32) (s44 : (Int32 × Int32 × mj_M)) : Option (Nat × (Int32 × Int32 × mj_M)) :=
  (if (mj_I (s44.2.2 68 12)) ≤ s44.2.1 then some (1, (s44.1, s44.2.1, s44.2.2)) else
  (if s44.2.1 < 0 ∨ 12 ≤ (s44.2.1 : Int32).toNatClampNeg then none else
  (if v3 ≤ (mj_I (s44.2.2 74 s44.2.1.toNatClampNeg)) then md_strange_j69l44 v1 v2 v3 s44.1 s44.2.1 0 s44.2.2 else
  md_strange_j69l44 v1 v2 v3 s44.1 s44.2.1 1 s44.2.2)))
def md_strange  (v1 : Int32) (v2 : Int32) (m : mj_M) : Option (Int32 × mj_M) :=
  (if (md_isIn v1 0 9999 (mj_up m 68 2 (.int 0))) = 0 then some ((-1), (mj_up m 68 2 (.int 0))) else
  (if (md_isIn v2 0 1 (mj_up m 68 2 (.int 0))) = 0 then some ((-1), (mj_up m 68 2 (.int 0))) else
  (md_plainTried (mj_up m 68 2 (.int 0))).bind fun q3 =>
  (md_beatOf 0 0 q3).bind fun q4 =>
  (mj_loop (md_strange_l44 v1 v2 q4) mj_F (0, 0, q3)).bind fun q14 =>
  some (q14.2.1, q14.2.2.2)))
set_option maxRecDepth 20000 in
theorem md_strange_j116l44_x {Ls tp ip x d : Nat} {Z : mj_X} {R : Option Value → mj_G → mj_M → Prop} {P : mj_K → Prop} (hC : mj_cls false (mj_sh Ls) (mj_rf tp ip) mj_dv mj_cd_255 (mj_Ex false (mj_sh Ls) (mj_rf tp ip) Z d) R P) (hd : 2 ≤ d)  {v1 : Int32} {v2 : Int32} {v3 : Int32} {v5 : Int32} {s0 : Int32} {s1 : Int32} {m : mj_M} {t : Nat} {w : (Int32 × Int32 × mj_M)} (h : md_strange_j116l44  v1 v2 v3 v5 s0 s1 m = some (t, w)) (h0 : t = 0 → P (44, [some (.ref 68), some (.int v1), some (.int v2), some (.int v3), some (.int w.1), some (.int w.2.1), none], [], (110, x), w.2.2)) (h1 : t = 1 → P (125, [none, none, none, none, some (.int w.1), none, none], [], (110, x), w.2.2)) : P (116, [some (.ref 68), some (.int v1), some (.int v2), some (.int v3), none, some (.int v5), none], [.int s1, .int s0], (110, x), m) := by
  unfold md_strange_j116l44 at h
  refine mj_gcp hC 4 ?_
  show P (44, [some (.ref 68), some (.int v1), some (.int v2), some (.int v3), some (.int (s0 ||| s1)), some (.int (v5 + 1)), none], [], (110, x), m)
  cases h
  exact mj_less hC (L0 := [some (.ref 68), some (.int v1), some (.int v2), some (.int v3), some (.int (s0 ||| s1)), some (.int (v5 + 1)), none]) (And.intro rfl (And.intro rfl (And.intro rfl (And.intro rfl (And.intro rfl (And.intro rfl trivial)))))) (h0 rfl)
set_option maxRecDepth 20000 in
theorem md_strange_j115l44_x {Ls tp ip x d : Nat} {Z : mj_X} {R : Option Value → mj_G → mj_M → Prop} {P : mj_K → Prop} (hC : mj_cls false (mj_sh Ls) (mj_rf tp ip) mj_dv mj_cd_255 (mj_Ex false (mj_sh Ls) (mj_rf tp ip) Z d) R P) (hd : 2 ≤ d)  {v1 : Int32} {v2 : Int32} {v3 : Int32} {v5 : Int32} {s0 : Int32} {m : mj_M} {t : Nat} {w : (Int32 × Int32 × mj_M)} (h : md_strange_j115l44  v1 v2 v3 v5 s0 m = some (t, w)) (h0 : t = 0 → P (44, [some (.ref 68), some (.int v1), some (.int v2), some (.int v3), some (.int w.1), some (.int w.2.1), none], [], (110, x), w.2.2)) (h1 : t = 1 → P (125, [none, none, none, none, some (.int w.1), none, none], [], (110, x), w.2.2)) : P (115, [some (.ref 68), some (.int v1), some (.int v2), some (.int v3), none, some (.int v5), none], [.int s0], (110, x), m) := by
  unfold md_strange_j115l44 at h
  refine mj_gcp hC 1 ?_
  show P (116, [some (.ref 68), some (.int v1), some (.int v2), some (.int v3), none, some (.int v5), none], [.int 0, .int s0], (110, x), m)
  exact mj_less hC (L0 := [some (.ref 68), some (.int v1), some (.int v2), some (.int v3), none, some (.int v5), none]) (And.intro rfl (And.intro rfl (And.intro rfl (And.intro rfl (And.intro rfl trivial))))) (md_strange_j116l44_x hC hd h h0 h1)
set_option maxRecDepth 20000 in
theorem md_strange_j105l44_x {Ls tp ip x d : Nat} {Z : mj_X} {R : Option Value → mj_G → mj_M → Prop} {P : mj_K → Prop} (hC : mj_cls false (mj_sh Ls) (mj_rf tp ip) mj_dv mj_cd_255 (mj_Ex false (mj_sh Ls) (mj_rf tp ip) Z d) R P) (hd : 2 ≤ d)  {v1 : Int32} {v2 : Int32} {v3 : Int32} {v5 : Int32} {s0 : Int32} {s1 : Int32} {s2 : Int32} {m : mj_M} {t : Nat} {w : (Int32 × Int32 × mj_M)} (h : md_strange_j105l44  v1 v2 v3 v5 s0 s1 s2 m = some (t, w)) (h0 : t = 0 → P (44, [some (.ref 68), some (.int v1), some (.int v2), some (.int v3), some (.int w.1), some (.int w.2.1), none], [], (110, x), w.2.2)) (h1 : t = 1 → P (125, [none, none, none, none, some (.int w.1), none, none], [], (110, x), w.2.2)) : P (105, [some (.ref 68), some (.int v1), some (.int v2), some (.int v3), none, some (.int v5), none], [.int s2, .int s1, .int s0], (110, x), m) := by
  unfold md_strange_j105l44 at h
  refine mj_gcp hC 1 ?_
  show P (mj_pick 108 115 (s1 = s2), [some (.ref 68), some (.int v1), some (.int v2), some (.int v3), none, some (.int v5), none], [.int s0], (110, x), m)
  refine mj_pbr (fun c13 => ?_) (fun c13 => ?_)
  · rw [if_pos c13] at h
    refine mj_gcp hC 4 ?_
    show P (116, [some (.ref 68), some (.int v1), some (.int v2), some (.int v3), none, some (.int v5), none], [.int ((1 : Int32) <<< (v5 &&& 31)), .int s0], (110, x), m)
    exact mj_less hC (L0 := [some (.ref 68), some (.int v1), some (.int v2), some (.int v3), none, some (.int v5), none]) (And.intro rfl (And.intro rfl (And.intro rfl (And.intro rfl (And.intro rfl trivial))))) (md_strange_j116l44_x hC hd h h0 h1)
  · rw [if_neg c13] at h
    exact mj_less hC (L0 := [some (.ref 68), some (.int v1), some (.int v2), some (.int v3), none, some (.int v5), none]) (And.intro rfl (And.intro rfl (And.intro rfl (And.intro rfl (And.intro rfl trivial))))) (md_strange_j115l44_x hC hd h h0 h1)
set_option maxRecDepth 20000 in
theorem md_strange_j69l44_x {Ls tp ip x d : Nat} {Z : mj_X} {R : Option Value → mj_G → mj_M → Prop} {P : mj_K → Prop} (hC : mj_cls false (mj_sh Ls) (mj_rf tp ip) mj_dv mj_cd_255 (mj_Ex false (mj_sh Ls) (mj_rf tp ip) Z d) R P) (hd : 2 ≤ d)  {v1 : Int32} {v2 : Int32} {v3 : Int32} {v4 : Int32} {v5 : Int32} {s0 : Int32} {m : mj_M} {t : Nat} {w : (Int32 × Int32 × mj_M)} (h : md_strange_j69l44  v1 v2 v3 v4 v5 s0 m = some (t, w)) (h0 : t = 0 → P (44, [some (.ref 68), some (.int v1), some (.int v2), some (.int v3), some (.int w.1), some (.int w.2.1), none], [], (110, x), w.2.2)) (h1 : t = 1 → P (125, [none, none, none, none, some (.int w.1), none, none], [], (110, x), w.2.2)) : P (69, [some (.ref 68), some (.int v1), some (.int v2), some (.int v3), some (.int v4), some (.int v5), none], [.int s0], (110, x), m) := by
  unfold md_strange_j69l44 at h
  obtain ⟨k8, h⟩ := mj_ifn h
  refine mj_gcp hC 7 ?_
  show _ ∧ (P (mj_pick 115 83 ((mj_I (m 97 v5.toNatClampNeg)) = 0), [some (.ref 68), some (.int v1), some (.int v2), some (.int v3), some (.int v4), some (.int v5), some (.int s0)], [.int v4], (110, x), m))
  refine And.intro k8 (?_)
  refine mj_pbr (fun c9 => ?_) (fun c9 => ?_)
  · rw [if_pos c9] at h
    exact mj_less hC (L0 := [some (.ref 68), some (.int v1), some (.int v2), some (.int v3), none, some (.int v5), none]) (And.intro rfl (And.intro rfl (And.intro rfl (And.intro rfl (And.intro rfl trivial))))) (md_strange_j115l44_x hC hd h h0 h1)
  · rw [if_neg c9] at h
    obtain ⟨k10, h⟩ := mj_ifn h
    refine mj_gcp hC 6 ?_
    show _ ∧ (P (mj_pick 115 94 ((mj_I (m 95 v5.toNatClampNeg)) < v1), [some (.ref 68), some (.int v1), some (.int v2), some (.int v3), some (.int v4), some (.int v5), some (.int s0)], [.int v4], (110, x), m))
    refine And.intro k10 (?_)
    refine mj_pbr (fun c11 => ?_) (fun c11 => ?_)
    · rw [if_pos c11] at h
      exact mj_less hC (L0 := [some (.ref 68), some (.int v1), some (.int v2), some (.int v3), none, some (.int v5), none]) (And.intro rfl (And.intro rfl (And.intro rfl (And.intro rfl (And.intro rfl trivial))))) (md_strange_j115l44_x hC hd h h0 h1)
    · rw [if_neg c11] at h
      refine mj_gcp hC 3 ?_
      show P (mj_pick 100 104 (v2 = 0), [some (.ref 68), some (.int v1), some (.int v2), some (.int v3), some (.int v4), some (.int v5), some (.int s0)], [.int s0, .int v4], (110, x), m)
      refine mj_pbr (fun c12 => ?_) (fun c12 => ?_)
      · rw [if_pos c12] at h
        refine mj_gcp hC 2 ?_
        show P (105, [some (.ref 68), some (.int v1), some (.int v2), some (.int v3), some (.int v4), some (.int v5), some (.int s0)], [.int 1, .int s0, .int v4], (110, x), m)
        exact mj_less hC (L0 := [some (.ref 68), some (.int v1), some (.int v2), some (.int v3), none, some (.int v5), none]) (And.intro rfl (And.intro rfl (And.intro rfl (And.intro rfl (And.intro rfl trivial))))) (md_strange_j105l44_x hC hd h h0 h1)
      · rw [if_neg c12] at h
        refine mj_gcp hC 1 ?_
        show P (105, [some (.ref 68), some (.int v1), some (.int v2), some (.int v3), some (.int v4), some (.int v5), some (.int s0)], [.int 0, .int s0, .int v4], (110, x), m)
        exact mj_less hC (L0 := [some (.ref 68), some (.int v1), some (.int v2), some (.int v3), none, some (.int v5), none]) (And.intro rfl (And.intro rfl (And.intro rfl (And.intro rfl (And.intro rfl trivial))))) (md_strange_j105l44_x hC hd h h0 h1)
set_option maxRecDepth 20000 in
theorem md_strange_l44_x {Ls tp ip x d : Nat} {Z : mj_X} {R : Option Value → mj_G → mj_M → Prop} {P : mj_K → Prop} (hC : mj_cls false (mj_sh Ls) (mj_rf tp ip) mj_dv mj_cd_255 (mj_Ex false (mj_sh Ls) (mj_rf tp ip) Z d) R P) (hd : 2 ≤ d) {v1 : Int32} {v2 : Int32} {v3 : Int32} (s44 : (Int32 × Int32 × mj_M)) {t : Nat} {w : (Int32 × Int32 × mj_M)} (h : md_strange_l44 v1 v2 v3 s44 = some (t, w)) (h0 : t = 0 → P (44, [some (.ref 68), some (.int v1), some (.int v2), some (.int v3), some (.int w.1), some (.int w.2.1), none], [], (110, x), w.2.2)) (h1 : t = 1 → P (125, [none, none, none, none, some (.int w.1), none, none], [], (110, x), w.2.2)) : P (44, [some (.ref 68), some (.int v1), some (.int v2), some (.int v3), some (.int s44.1), some (.int s44.2.1), none], [], (110, x), s44.2.2) := by
  unfold md_strange_l44 at h
  refine mj_gcp hC 4 ?_
  show P (mj_pick 125 53 ((mj_I (s44.2.2 68 12)) ≤ s44.2.1), [some (.ref 68), some (.int v1), some (.int v2), some (.int v3), some (.int s44.1), some (.int s44.2.1), none], [], (110, x), s44.2.2)
  refine mj_pbr (fun c5 => ?_) (fun c5 => ?_)
  · rw [if_pos c5] at h
    cases h
    exact mj_less hC (L0 := [none, none, none, none, some (.int s44.1), none, none]) (And.intro rfl trivial) (h1 rfl)
  · rw [if_neg c5] at h
    obtain ⟨k6, h⟩ := mj_ifn h
    refine mj_gcp hC 6 ?_
    show _ ∧ (P (mj_pick 68 64 (v3 ≤ (mj_I (s44.2.2 74 s44.2.1.toNatClampNeg))), [some (.ref 68), some (.int v1), some (.int v2), some (.int v3), some (.int s44.1), some (.int s44.2.1), none], [], (110, x), s44.2.2))
    refine And.intro k6 (?_)
    refine mj_pbr (fun c7 => ?_) (fun c7 => ?_)
    · rw [if_pos c7] at h
      refine mj_gcp hC 1 ?_
      show P (69, [some (.ref 68), some (.int v1), some (.int v2), some (.int v3), some (.int s44.1), some (.int s44.2.1), none], [.int 0], (110, x), s44.2.2)
      exact mj_less hC (L0 := [some (.ref 68), some (.int v1), some (.int v2), some (.int v3), some (.int s44.1), some (.int s44.2.1), none]) (And.intro rfl (And.intro rfl (And.intro rfl (And.intro rfl (And.intro rfl (And.intro rfl trivial)))))) (md_strange_j69l44_x hC hd h h0 h1)
    · rw [if_neg c7] at h
      refine mj_gcp hC 2 ?_
      show P (69, [some (.ref 68), some (.int v1), some (.int v2), some (.int v3), some (.int s44.1), some (.int s44.2.1), none], [.int 1], (110, x), s44.2.2)
      exact mj_less hC (L0 := [some (.ref 68), some (.int v1), some (.int v2), some (.int v3), some (.int s44.1), some (.int s44.2.1), none]) (And.intro rfl (And.intro rfl (And.intro rfl (And.intro rfl (And.intro rfl (And.intro rfl trivial)))))) (md_strange_j69l44_x hC hd h h0 h1)
set_option maxRecDepth 20000 in
theorem md_strange_p {Ls tp ip x d : Nat} {Z : mj_X} {R : Option Value → mj_G → mj_M → Prop} {P : mj_K → Prop} (hC : mj_cls false (mj_sh Ls) (mj_rf tp ip) mj_dv mj_cd_255 (mj_Ex false (mj_sh Ls) (mj_rf tp ip) Z d) R P) (hd : 2 ≤ d) {v1 : Int32} {v2 : Int32} {m : mj_M} {r : (Int32 × mj_M)} (h : md_strange v1 v2 m = some r) (hR : R (some (.int r.1)) (110, x) r.2) : P (0, [some (.ref 68), some (.int v1), some (.int v2), none, none, none, none], [], (110, x), m) := by
  unfold md_strange at h
  refine mj_gcp hC 6 ?_
  show P (10, [some (.ref 68), some (.int v1), some (.int v2), none, none, none, none], [.int 9999, .int 0, .int v1], (110, x), (mj_up m 68 2 (.int 0)))
  refine mj_pcall hC rfl (md_isIn_x (Nat.le_trans (by decide) hd)) ?_
  show P (13, [some (.ref 68), some (.int v1), some (.int v2), none, none, none, none], [.int (md_isIn v1 0 9999 (mj_up m 68 2 (.int 0)))], (110, x), (mj_up m 68 2 (.int 0)))
  refine mj_gcp hC 1 ?_
  show P (mj_pick 25 16 ((md_isIn v1 0 9999 (mj_up m 68 2 (.int 0))) = 0), [some (.ref 68), some (.int v1), some (.int v2), none, none, none, none], [], (110, x), (mj_up m 68 2 (.int 0)))
  refine mj_pbr (fun c1 => ?_) (fun c1 => ?_)
  · rw [if_pos c1] at h
    refine mj_gcp hC 1 ?_
    show P (26, [some (.ref 68), some (.int v1), some (.int v2), none, none, none, none], [.int (-1)], (110, x), (mj_up m 68 2 (.int 0)))
    cases h
    exact mj_pret hC rfl hR
  · rw [if_neg c1] at h
    refine mj_gcp hC 3 ?_
    show P (19, [some (.ref 68), some (.int v1), some (.int v2), none, none, none, none], [.int 1, .int 0, .int v2], (110, x), (mj_up m 68 2 (.int 0)))
    refine mj_pcall hC rfl (md_isIn_x (Nat.le_trans (by decide) hd)) ?_
    show P (22, [some (.ref 68), some (.int v1), some (.int v2), none, none, none, none], [.int (md_isIn v2 0 1 (mj_up m 68 2 (.int 0)))], (110, x), (mj_up m 68 2 (.int 0)))
    refine mj_gcp hC 1 ?_
    show P (mj_pick 25 27 ((md_isIn v2 0 1 (mj_up m 68 2 (.int 0))) = 0), [some (.ref 68), some (.int v1), some (.int v2), none, none, none, none], [], (110, x), (mj_up m 68 2 (.int 0)))
    refine mj_pbr (fun c2 => ?_) (fun c2 => ?_)
    · rw [if_pos c2] at h
      refine mj_gcp hC 1 ?_
      show P (26, [some (.ref 68), some (.int v1), some (.int v2), none, none, none, none], [.int (-1)], (110, x), (mj_up m 68 2 (.int 0)))
      cases h
      exact mj_pret hC rfl hR
    · rw [if_neg c2] at h
      refine mj_gcp hC 1 ?_
      show P (28, [some (.ref 68), some (.int v1), some (.int v2), none, none, none, none], [.ref 68], (110, x), (mj_up m 68 2 (.int 0)))
      obtain ⟨q3, eq3, h⟩ := mj_bnd h
      refine mj_pcall hC rfl (md_plainTried_x (Nat.le_trans (by decide) hd) eq3) ?_
      show P (31, [some (.ref 68), some (.int v1), some (.int v2), none, none, none, none], [], (110, x), q3)
      refine mj_gcp hC 3 ?_
      show P (34, [some (.ref 68), some (.int v1), some (.int v2), none, none, none, none], [.int 0, .int 0, .ref 68], (110, x), q3)
      obtain ⟨q4, eq4, h⟩ := mj_bnd h
      refine mj_pcall hC rfl (md_beatOf_x (Nat.le_trans (by decide) hd) eq4) ?_
      show P (37, [some (.ref 68), some (.int v1), some (.int v2), none, none, none, none], [.int q4], (110, x), q3)
      refine mj_gcp hC 5 ?_
      show P (44, [some (.ref 68), some (.int v1), some (.int v2), some (.int q4), some (.int 0), some (.int 0), none], [], (110, x), q3)
      obtain ⟨q14, eq14, h⟩ := mj_bnd h
      refine mj_less hC (L0 := [some (.ref 68), some (.int v1), some (.int v2), some (.int q4), some (.int 0), some (.int 0), none]) (And.intro rfl (And.intro rfl (And.intro rfl (And.intro rfl (And.intro rfl (And.intro rfl trivial)))))) ?_
      refine mj_loop_P (A := fun z44 => P (44, [some (.ref 68), some (.int v1), some (.int v2), some (.int q4), some (.int z44.1), some (.int z44.2.1), none], [], (110, x), z44.2.2)) (E := fun _ z44 => P (125, [none, none, none, none, some (.int z44.1), none, none], [], (110, x), z44.2.2)) (fun zz t w hb h0 h1 => md_strange_l44_x hC hd zz hb h0 (fun ht => h1 0 ht)) mj_F _ q14 eq14 ?_
      refine mj_gcp hC 1 ?_
      show P (127, [none, none, none, none, some (.int q14.2.1), none, none], [.int q14.2.1], (110, x), q14.2.2.2)
      cases h
      exact mj_pret hC rfl hR
set_option maxRecDepth 20000 in
theorem md_strange_x {Ls tp ip x d : Nat} {Z : mj_X} (hd : 3 ≤ d) {v1 : Int32} {v2 : Int32} {m : mj_M} {r : (Int32 × mj_M)} (h : md_strange v1 v2 m = some r) : mj_Ex false (mj_sh Ls) (mj_rf tp ip) Z d 255 [.ref 68, .int v1, .int v2] (110, x) m (some (.int r.1)) (110, x) r.2 := by
  exact mj_Ex_of (cd := mj_cd_255) (L := [some (.ref 68), some (.int v1), some (.int v2), none, none, none, none]) (by omega) (by decide) rfl (Nat.le_of_ble_eq_true rfl) rfl (fun P hC => md_strange_p hC (by omega) h ⟨rfl, rfl, rfl⟩)
def md_firstSlip_l33  (v1 : Int32) (v2 : Int32) (s33 : (Int32 × mj_M)) : Option (Nat × (Int32 × mj_M)) :=
  (if v1 < s33.1 then some (2, (s33.1, s33.2)) else
  (md_hourGoes 1 s33.2).bind fun q5 =>
  (if (mj_I (q5 68 62)) = 0 then some (0, ((s33.1 + 1), q5)) else
  some (1, (s33.1, q5))))
def md_firstSlip_l56  (v2 : Int32) (v3 : Int32) (s56 : (Int32 × mj_M)) : Option (Nat × (Int32 × mj_M)) :=
  (if (md_isOf (mj_I (s56.2 68 62)) s56.1 s56.2) = 0 then some (0, ((s56.1 + 1), s56.2)) else
  some (1, (s56.1, s56.2)))
def md_firstSlip  (v1 : Int32) (v2 : Int32) (m : mj_M) : Option (Int32 × mj_M) :=
  (if (md_isIn v1 1 200 (mj_up m 68 2 (.int 0))) = 0 then some ((-1), (mj_up m 68 2 (.int 0))) else
  (if (md_isIn v2 0 1 (mj_up m 68 2 (.int 0))) = 0 then some ((-1), (mj_up m 68 2 (.int 0))) else
  (md_layTried (mj_up m 68 2 (.int 0))).bind fun q3 =>
  (mj_loop (md_firstSlip_l33 v1 v2) mj_F (1, q3)).bind fun q7 =>
  (if q7.1 = 0 then (mj_loop (md_firstSlip_l56 v2 q7.2.1) mj_F (0, q7.2.2)).bind fun q9 =>
  (if v2 = 0 then some (q7.2.1, q9.2.2) else
  some (q9.2.1, q9.2.2)) else some ((-2), q7.2.2))))
set_option maxRecDepth 20000 in
theorem md_firstSlip_l33_x {Ls tp ip x d : Nat} {Z : mj_X} {R : Option Value → mj_G → mj_M → Prop} {P : mj_K → Prop} (hC : mj_cls false (mj_sh Ls) (mj_rf tp ip) mj_dv mj_cd_256 (mj_Ex false (mj_sh Ls) (mj_rf tp ip) Z d) R P) (hd : 7 ≤ d) {v1 : Int32} {v2 : Int32} (s33 : (Int32 × mj_M)) {t : Nat} {w : (Int32 × mj_M)} (h : md_firstSlip_l33 v1 v2 s33 = some (t, w)) (h0 : t = 0 → P (33, [some (.ref 68), some (.int v1), some (.int v2), some (.int w.1), none], [], (110, x), w.2)) (h1 : t = 1 → P (53, [some (.ref 68), none, some (.int v2), some (.int w.1), none], [], (110, x), w.2)) (h2 : t = 2 → P (91, [none, none, none, none, none], [], (110, x), w.2)) : P (33, [some (.ref 68), some (.int v1), some (.int v2), some (.int s33.1), none], [], (110, x), s33.2) := by
  unfold md_firstSlip_l33 at h
  refine mj_gcp hC 3 ?_
  show P (mj_pick 91 38 (v1 < s33.1), [some (.ref 68), some (.int v1), some (.int v2), some (.int s33.1), none], [], (110, x), s33.2)
  refine mj_pbr (fun c4 => ?_) (fun c4 => ?_)
  · rw [if_pos c4] at h
    cases h
    exact mj_less hC (L0 := [none, none, none, none, none]) trivial (h2 rfl)
  · rw [if_neg c4] at h
    refine mj_gcp hC 2 ?_
    show P (40, [some (.ref 68), some (.int v1), some (.int v2), some (.int s33.1), none], [.int 1, .ref 68], (110, x), s33.2)
    obtain ⟨q5, eq5, h⟩ := mj_bnd h
    refine mj_pcall hC rfl (md_hourGoes_x (Nat.le_trans (by decide) hd) eq5) ?_
    show P (43, [some (.ref 68), some (.int v1), some (.int v2), some (.int s33.1), none], [], (110, x), q5)
    refine mj_gcp hC 3 ?_
    show P (mj_pick 50 53 ((mj_I (q5 68 62)) = 0), [some (.ref 68), some (.int v1), some (.int v2), some (.int s33.1), none], [], (110, x), q5)
    refine mj_pbr (fun c6 => ?_) (fun c6 => ?_)
    · rw [if_pos c6] at h
      refine mj_gcp hC 1 ?_
      show P (85, [some (.ref 68), some (.int v1), some (.int v2), some (.int s33.1), none], [], (110, x), q5)
      refine mj_gcp hC 2 ?_
      show P (33, [some (.ref 68), some (.int v1), some (.int v2), some (.int (s33.1 + 1)), none], [], (110, x), q5)
      cases h
      exact mj_less hC (L0 := [some (.ref 68), some (.int v1), some (.int v2), some (.int (s33.1 + 1)), none]) (And.intro rfl (And.intro rfl (And.intro rfl (And.intro rfl trivial)))) (h0 rfl)
    · rw [if_neg c6] at h
      cases h
      exact mj_less hC (L0 := [some (.ref 68), none, some (.int v2), some (.int s33.1), none]) (And.intro rfl (And.intro rfl (And.intro rfl trivial))) (h1 rfl)
set_option maxRecDepth 20000 in
theorem md_firstSlip_l56_x {Ls tp ip x d : Nat} {Z : mj_X} {R : Option Value → mj_G → mj_M → Prop} {P : mj_K → Prop} (hC : mj_cls false (mj_sh Ls) (mj_rf tp ip) mj_dv mj_cd_256 (mj_Ex false (mj_sh Ls) (mj_rf tp ip) Z d) R P) (hd : 7 ≤ d) {v2 : Int32} {v3 : Int32} (s56 : (Int32 × mj_M)) {t : Nat} {w : (Int32 × mj_M)} (h : md_firstSlip_l56 v2 v3 s56 = some (t, w)) (h0 : t = 0 → P (56, [some (.ref 68), none, some (.int v2), some (.int v3), some (.int w.1)], [], (110, x), w.2)) (h1 : t = 1 → P (74, [none, none, some (.int v2), some (.int v3), some (.int w.1)], [], (110, x), w.2)) : P (56, [some (.ref 68), none, some (.int v2), some (.int v3), some (.int s56.1)], [], (110, x), s56.2) := by
  unfold md_firstSlip_l56 at h
  refine mj_gcp hC 3 ?_
  show P (62, [some (.ref 68), none, some (.int v2), some (.int v3), some (.int s56.1)], [.int s56.1, .int (mj_I (s56.2 68 62))], (110, x), s56.2)
  refine mj_pcall hC rfl (md_isOf_x (Nat.le_trans (by decide) hd)) ?_
  show P (65, [some (.ref 68), none, some (.int v2), some (.int v3), some (.int s56.1)], [.int (md_isOf (mj_I (s56.2 68 62)) s56.1 s56.2)], (110, x), s56.2)
  refine mj_gcp hC 1 ?_
  show P (mj_pick 68 74 ((md_isOf (mj_I (s56.2 68 62)) s56.1 s56.2) = 0), [some (.ref 68), none, some (.int v2), some (.int v3), some (.int s56.1)], [], (110, x), s56.2)
  refine mj_pbr (fun c8 => ?_) (fun c8 => ?_)
  · rw [if_pos c8] at h
    refine mj_gcp hC 2 ?_
    show P (56, [some (.ref 68), none, some (.int v2), some (.int v3), some (.int (s56.1 + 1))], [], (110, x), s56.2)
    cases h
    exact mj_less hC (L0 := [some (.ref 68), none, some (.int v2), some (.int v3), some (.int (s56.1 + 1))]) (And.intro rfl (And.intro rfl (And.intro rfl (And.intro rfl trivial)))) (h0 rfl)
  · rw [if_neg c8] at h
    cases h
    exact mj_less hC (L0 := [none, none, some (.int v2), some (.int v3), some (.int s56.1)]) (And.intro rfl (And.intro rfl (And.intro rfl trivial))) (h1 rfl)
set_option maxRecDepth 20000 in
theorem md_firstSlip_p {Ls tp ip x d : Nat} {Z : mj_X} {R : Option Value → mj_G → mj_M → Prop} {P : mj_K → Prop} (hC : mj_cls false (mj_sh Ls) (mj_rf tp ip) mj_dv mj_cd_256 (mj_Ex false (mj_sh Ls) (mj_rf tp ip) Z d) R P) (hd : 7 ≤ d) {v1 : Int32} {v2 : Int32} {m : mj_M} {r : (Int32 × mj_M)} (h : md_firstSlip v1 v2 m = some r) (hR : R (some (.int r.1)) (110, x) r.2) : P (0, [some (.ref 68), some (.int v1), some (.int v2), none, none], [], (110, x), m) := by
  unfold md_firstSlip at h
  refine mj_gcp hC 6 ?_
  show P (10, [some (.ref 68), some (.int v1), some (.int v2), none, none], [.int 200, .int 1, .int v1], (110, x), (mj_up m 68 2 (.int 0)))
  refine mj_pcall hC rfl (md_isIn_x (Nat.le_trans (by decide) hd)) ?_
  show P (13, [some (.ref 68), some (.int v1), some (.int v2), none, none], [.int (md_isIn v1 1 200 (mj_up m 68 2 (.int 0)))], (110, x), (mj_up m 68 2 (.int 0)))
  refine mj_gcp hC 1 ?_
  show P (mj_pick 25 16 ((md_isIn v1 1 200 (mj_up m 68 2 (.int 0))) = 0), [some (.ref 68), some (.int v1), some (.int v2), none, none], [], (110, x), (mj_up m 68 2 (.int 0)))
  refine mj_pbr (fun c1 => ?_) (fun c1 => ?_)
  · rw [if_pos c1] at h
    refine mj_gcp hC 1 ?_
    show P (26, [some (.ref 68), some (.int v1), some (.int v2), none, none], [.int (-1)], (110, x), (mj_up m 68 2 (.int 0)))
    cases h
    exact mj_pret hC rfl hR
  · rw [if_neg c1] at h
    refine mj_gcp hC 3 ?_
    show P (19, [some (.ref 68), some (.int v1), some (.int v2), none, none], [.int 1, .int 0, .int v2], (110, x), (mj_up m 68 2 (.int 0)))
    refine mj_pcall hC rfl (md_isIn_x (Nat.le_trans (by decide) hd)) ?_
    show P (22, [some (.ref 68), some (.int v1), some (.int v2), none, none], [.int (md_isIn v2 0 1 (mj_up m 68 2 (.int 0)))], (110, x), (mj_up m 68 2 (.int 0)))
    refine mj_gcp hC 1 ?_
    show P (mj_pick 25 27 ((md_isIn v2 0 1 (mj_up m 68 2 (.int 0))) = 0), [some (.ref 68), some (.int v1), some (.int v2), none, none], [], (110, x), (mj_up m 68 2 (.int 0)))
    refine mj_pbr (fun c2 => ?_) (fun c2 => ?_)
    · rw [if_pos c2] at h
      refine mj_gcp hC 1 ?_
      show P (26, [some (.ref 68), some (.int v1), some (.int v2), none, none], [.int (-1)], (110, x), (mj_up m 68 2 (.int 0)))
      cases h
      exact mj_pret hC rfl hR
    · rw [if_neg c2] at h
      refine mj_gcp hC 1 ?_
      show P (28, [some (.ref 68), some (.int v1), some (.int v2), none, none], [.ref 68], (110, x), (mj_up m 68 2 (.int 0)))
      obtain ⟨q3, eq3, h⟩ := mj_bnd h
      refine mj_pcall hC rfl (md_layTried_x (Nat.le_trans (by decide) hd) eq3) ?_
      show P (31, [some (.ref 68), some (.int v1), some (.int v2), none, none], [], (110, x), q3)
      refine mj_gcp hC 2 ?_
      show P (33, [some (.ref 68), some (.int v1), some (.int v2), some (.int 1), none], [], (110, x), q3)
      obtain ⟨q7, eq7, h⟩ := mj_bnd h
      refine mj_less hC (L0 := [some (.ref 68), some (.int v1), some (.int v2), some (.int 1), none]) (And.intro rfl (And.intro rfl (And.intro rfl (And.intro rfl trivial)))) ?_
      refine mj_loop_P (A := fun z33 => P (33, [some (.ref 68), some (.int v1), some (.int v2), some (.int z33.1), none], [], (110, x), z33.2)) (E := fun j z33 => (j = 0 → P (53, [some (.ref 68), none, some (.int v2), some (.int z33.1), none], [], (110, x), z33.2)) ∧ (¬ j = 0 → P (91, [none, none, none, none, none], [], (110, x), z33.2))) (fun zz t w hb h0 h1 => md_firstSlip_l33_x hC hd zz hb h0 (fun ht => (h1 0 ht).1 rfl) (fun ht => (h1 1 ht).2 (by decide))) mj_F _ q7 eq7 ⟨fun hj => ?_, fun hj => ?_⟩
      · rw [if_pos hj] at h
        refine mj_gcp hC 2 ?_
        show P (56, [some (.ref 68), none, some (.int v2), some (.int q7.2.1), some (.int 0)], [], (110, x), q7.2.2)
        obtain ⟨q9, eq9, h⟩ := mj_bnd h
        refine mj_less hC (L0 := [some (.ref 68), none, some (.int v2), some (.int q7.2.1), some (.int 0)]) (And.intro rfl (And.intro rfl (And.intro rfl (And.intro rfl trivial)))) ?_
        refine mj_loop_P (A := fun z56 => P (56, [some (.ref 68), none, some (.int v2), some (.int q7.2.1), some (.int z56.1)], [], (110, x), z56.2)) (E := fun _ z56 => P (74, [none, none, some (.int v2), some (.int q7.2.1), some (.int z56.1)], [], (110, x), z56.2)) (fun zz t w hb h0 h1 => md_firstSlip_l56_x hC hd zz hb h0 (fun ht => h1 0 ht)) mj_F _ q9 eq9 ?_
        refine mj_gcp hC 2 ?_
        show P (mj_pick 78 82 (v2 = 0), [none, none, some (.int v2), some (.int q7.2.1), some (.int q9.2.1)], [], (110, x), q9.2.2)
        refine mj_pbr (fun c10 => ?_) (fun c10 => ?_)
        · rw [if_pos c10] at h
          refine mj_gcp hC 2 ?_
          show P (84, [none, none, some (.int v2), some (.int q7.2.1), some (.int q9.2.1)], [.int q7.2.1], (110, x), q9.2.2)
          cases h
          exact mj_pret hC rfl hR
        · rw [if_neg c10] at h
          refine mj_gcp hC 1 ?_
          show P (84, [none, none, some (.int v2), some (.int q7.2.1), some (.int q9.2.1)], [.int q9.2.1], (110, x), q9.2.2)
          cases h
          exact mj_pret hC rfl hR
      · rw [if_neg hj] at h
        refine mj_gcp hC 1 ?_
        show P (93, [none, none, none, none, none], [.int (-2)], (110, x), q7.2.2)
        cases h
        exact mj_pret hC rfl hR
set_option maxRecDepth 20000 in
theorem md_firstSlip_x {Ls tp ip x d : Nat} {Z : mj_X} (hd : 8 ≤ d) {v1 : Int32} {v2 : Int32} {m : mj_M} {r : (Int32 × mj_M)} (h : md_firstSlip v1 v2 m = some r) : mj_Ex false (mj_sh Ls) (mj_rf tp ip) Z d 256 [.ref 68, .int v1, .int v2] (110, x) m (some (.int r.1)) (110, x) r.2 := by
  exact mj_Ex_of (cd := mj_cd_256) (L := [some (.ref 68), some (.int v1), some (.int v2), none, none]) (by omega) (by decide) rfl (Nat.le_of_ble_eq_true rfl) rfl (fun P hC => md_firstSlip_p hC (by omega) h ⟨rfl, rfl, rfl⟩)
def md_startBy_l38  (v1 : Int32) (v2 : Int32) (s38 : (Int32 × mj_M)) : Option (Nat × (Int32 × mj_M)) :=
  (if s38.1 < 0 then some (2, (s38.1, s38.2)) else
  (md_layTried s38.2).bind fun q6 =>
  (md_goMany v2 (mj_up (mj_up q6 68 67 (.int v1)) 68 68 (.int ((mj_I (q6 100 (0 : Int32).toNatClampNeg)) + s38.1)))).bind fun q7 =>
  (if ((8 : Int32) + v1) < 0 ∨ 16 ≤ (((8 : Int32) + v1) : Int32).toNatClampNeg then none else
  (if (mj_I (q7 93 ((8 : Int32) + v1).toNatClampNeg)) ≤ 0 then some (1, (s38.1, q7)) else
  some (0, ((s38.1 + (-1)), q7)))))
def md_startBy  (v1 : Int32) (v2 : Int32) (m : mj_M) : Option (Int32 × mj_M) :=
  (if (md_isWork v1 (mj_up m 68 2 (.int 0))) = 0 then some ((-1), (mj_up m 68 2 (.int 0))) else
  (if v1 < 0 ∨ 16 ≤ (v1 : Int32).toNatClampNeg then none else
  (if (mj_I (m 93 v1.toNatClampNeg)) = 0 then some ((-1), (mj_up m 68 2 (.int 0))) else
  (if (md_isIn v2 1 99 (mj_up m 68 2 (.int 0))) = 0 then some ((-1), (mj_up m 68 2 (.int 0))) else
  (mj_loop (md_startBy_l38 v1 v2) mj_F ((v2 - 1), (mj_up m 68 2 (.int 0)))).bind fun q10 =>
  (if q10.1 = 0 then (md_plainTried q10.2.2).bind fun q11 =>
  some (q10.2.1, q11) else (md_plainTried q10.2.2).bind fun q12 =>
  some ((-2), q12))))))
set_option maxRecDepth 20000 in
theorem md_startBy_l38_x {Ls tp ip x d : Nat} {Z : mj_X} {R : Option Value → mj_G → mj_M → Prop} {P : mj_K → Prop} (hC : mj_cls false (mj_sh Ls) (mj_rf tp ip) mj_dv mj_cd_257 (mj_Ex false (mj_sh Ls) (mj_rf tp ip) Z d) R P) (hd : 8 ≤ d) {v1 : Int32} {v2 : Int32} (s38 : (Int32 × mj_M)) {t : Nat} {w : (Int32 × mj_M)} (h : md_startBy_l38 v1 v2 s38 = some (t, w)) (h0 : t = 0 → P (38, [some (.ref 68), some (.int v1), some (.int v2), some (.int w.1)], [], (110, x), w.2)) (h1 : t = 1 → P (83, [some (.ref 68), none, none, some (.int w.1)], [], (110, x), w.2)) (h2 : t = 2 → P (95, [some (.ref 68), none, none, none], [], (110, x), w.2)) : P (38, [some (.ref 68), some (.int v1), some (.int v2), some (.int s38.1)], [], (110, x), s38.2) := by
  unfold md_startBy_l38 at h
  refine mj_gcp hC 2 ?_
  show P (mj_pick 95 42 (s38.1 < 0), [some (.ref 68), some (.int v1), some (.int v2), some (.int s38.1)], [], (110, x), s38.2)
  refine mj_pbr (fun c5 => ?_) (fun c5 => ?_)
  · rw [if_pos c5] at h
    cases h
    exact mj_less hC (L0 := [some (.ref 68), none, none, none]) (And.intro rfl trivial) (h2 rfl)
  · rw [if_neg c5] at h
    refine mj_gcp hC 1 ?_
    show P (43, [some (.ref 68), some (.int v1), some (.int v2), some (.int s38.1)], [.ref 68], (110, x), s38.2)
    obtain ⟨q6, eq6, h⟩ := mj_bnd h
    refine mj_pcall hC rfl (md_layTried_x (Nat.le_trans (by decide) hd) eq6) ?_
    show P (46, [some (.ref 68), some (.int v1), some (.int v2), some (.int s38.1)], [], (110, x), q6)
    refine mj_gcp hC 13 ?_
    show _ ∧ (P (65, [some (.ref 68), some (.int v1), some (.int v2), some (.int s38.1)], [.int v2, .ref 68], (110, x), (mj_up (mj_up q6 68 67 (.int v1)) 68 68 (.int ((mj_I (q6 100 (0 : Int32).toNatClampNeg)) + s38.1)))))
    refine And.intro (show ¬ ((0 : Int32) < 0 ∨ 2 ≤ (0 : Int32).toNatClampNeg) by decide) (?_)
    obtain ⟨q7, eq7, h⟩ := mj_bnd h
    refine mj_pcall hC rfl (md_goMany_x (Nat.le_trans (by decide) hd) eq7) ?_
    show P (68, [some (.ref 68), some (.int v1), some (.int v2), some (.int s38.1)], [], (110, x), q7)
    obtain ⟨k8, h⟩ := mj_ifn h
    refine mj_gcp hC 7 ?_
    show _ ∧ (P (mj_pick 83 80 ((mj_I (q7 93 ((8 : Int32) + v1).toNatClampNeg)) ≤ 0), [some (.ref 68), some (.int v1), some (.int v2), some (.int s38.1)], [], (110, x), q7))
    refine And.intro k8 (?_)
    refine mj_pbr (fun c9 => ?_) (fun c9 => ?_)
    · rw [if_pos c9] at h
      cases h
      exact mj_less hC (L0 := [some (.ref 68), none, none, some (.int s38.1)]) (And.intro rfl (And.intro rfl trivial)) (h1 rfl)
    · rw [if_neg c9] at h
      refine mj_gcp hC 1 ?_
      show P (89, [some (.ref 68), some (.int v1), some (.int v2), some (.int s38.1)], [], (110, x), q7)
      refine mj_gcp hC 2 ?_
      show P (38, [some (.ref 68), some (.int v1), some (.int v2), some (.int (s38.1 + (-1)))], [], (110, x), q7)
      generalize (s38.1 + (-1)) = nz0 at h ⊢
      cases h
      exact mj_less hC (L0 := [some (.ref 68), some (.int v1), some (.int v2), some (.int nz0)]) (And.intro rfl (And.intro rfl (And.intro rfl (And.intro rfl trivial)))) (h0 rfl)
set_option maxRecDepth 20000 in
theorem md_startBy_p {Ls tp ip x d : Nat} {Z : mj_X} {R : Option Value → mj_G → mj_M → Prop} {P : mj_K → Prop} (hC : mj_cls false (mj_sh Ls) (mj_rf tp ip) mj_dv mj_cd_257 (mj_Ex false (mj_sh Ls) (mj_rf tp ip) Z d) R P) (hd : 8 ≤ d) {v1 : Int32} {v2 : Int32} {m : mj_M} {r : (Int32 × mj_M)} (h : md_startBy v1 v2 m = some r) (hR : R (some (.int r.1)) (110, x) r.2) : P (0, [some (.ref 68), some (.int v1), some (.int v2), none], [], (110, x), m) := by
  unfold md_startBy at h
  refine mj_gcp hC 5 ?_
  show P (7, [some (.ref 68), some (.int v1), some (.int v2), none], [.int v1, .ref 68], (110, x), (mj_up m 68 2 (.int 0)))
  refine mj_pcall hC rfl (md_isWork_x (Nat.le_trans (by decide) hd)) ?_
  show P (10, [some (.ref 68), some (.int v1), some (.int v2), none], [.int (md_isWork v1 (mj_up m 68 2 (.int 0)))], (110, x), (mj_up m 68 2 (.int 0)))
  refine mj_gcp hC 1 ?_
  show P (mj_pick 32 13 ((md_isWork v1 (mj_up m 68 2 (.int 0))) = 0), [some (.ref 68), some (.int v1), some (.int v2), none], [], (110, x), (mj_up m 68 2 (.int 0)))
  refine mj_pbr (fun c1 => ?_) (fun c1 => ?_)
  · rw [if_pos c1] at h
    refine mj_gcp hC 1 ?_
    show P (33, [some (.ref 68), some (.int v1), some (.int v2), none], [.int (-1)], (110, x), (mj_up m 68 2 (.int 0)))
    cases h
    exact mj_pret hC rfl hR
  · rw [if_neg c1] at h
    obtain ⟨k2, h⟩ := mj_ifn h
    refine mj_gcp hC 5 ?_
    show _ ∧ (P (mj_pick 32 22 ((mj_I (m 93 v1.toNatClampNeg)) = 0), [some (.ref 68), some (.int v1), some (.int v2), none], [], (110, x), (mj_up m 68 2 (.int 0))))
    refine And.intro k2 (?_)
    refine mj_pbr (fun c3 => ?_) (fun c3 => ?_)
    · rw [if_pos c3] at h
      refine mj_gcp hC 1 ?_
      show P (33, [some (.ref 68), some (.int v1), some (.int v2), none], [.int (-1)], (110, x), (mj_up m 68 2 (.int 0)))
      cases h
      exact mj_pret hC rfl hR
    · rw [if_neg c3] at h
      refine mj_gcp hC 3 ?_
      show P (26, [some (.ref 68), some (.int v1), some (.int v2), none], [.int 99, .int 1, .int v2], (110, x), (mj_up m 68 2 (.int 0)))
      refine mj_pcall hC rfl (md_isIn_x (Nat.le_trans (by decide) hd)) ?_
      show P (29, [some (.ref 68), some (.int v1), some (.int v2), none], [.int (md_isIn v2 1 99 (mj_up m 68 2 (.int 0)))], (110, x), (mj_up m 68 2 (.int 0)))
      refine mj_gcp hC 1 ?_
      show P (mj_pick 32 34 ((md_isIn v2 1 99 (mj_up m 68 2 (.int 0))) = 0), [some (.ref 68), some (.int v1), some (.int v2), none], [], (110, x), (mj_up m 68 2 (.int 0)))
      refine mj_pbr (fun c4 => ?_) (fun c4 => ?_)
      · rw [if_pos c4] at h
        refine mj_gcp hC 1 ?_
        show P (33, [some (.ref 68), some (.int v1), some (.int v2), none], [.int (-1)], (110, x), (mj_up m 68 2 (.int 0)))
        cases h
        exact mj_pret hC rfl hR
      · rw [if_neg c4] at h
        refine mj_gcp hC 4 ?_
        show P (38, [some (.ref 68), some (.int v1), some (.int v2), some (.int (v2 - 1))], [], (110, x), (mj_up m 68 2 (.int 0)))
        obtain ⟨q10, eq10, h⟩ := mj_bnd h
        refine mj_less hC (L0 := [some (.ref 68), some (.int v1), some (.int v2), some (.int (v2 - 1))]) (And.intro rfl (And.intro rfl (And.intro rfl (And.intro rfl trivial)))) ?_
        refine mj_loop_P (A := fun z38 => P (38, [some (.ref 68), some (.int v1), some (.int v2), some (.int z38.1)], [], (110, x), z38.2)) (E := fun j z38 => (j = 0 → P (83, [some (.ref 68), none, none, some (.int z38.1)], [], (110, x), z38.2)) ∧ (¬ j = 0 → P (95, [some (.ref 68), none, none, none], [], (110, x), z38.2))) (fun zz t w hb h0 h1 => md_startBy_l38_x hC hd zz hb h0 (fun ht => (h1 0 ht).1 rfl) (fun ht => (h1 1 ht).2 (by decide))) mj_F _ q10 eq10 ⟨fun hj => ?_, fun hj => ?_⟩
        · rw [if_pos hj] at h
          refine mj_gcp hC 1 ?_
          show P (84, [some (.ref 68), none, none, some (.int q10.2.1)], [.ref 68], (110, x), q10.2.2)
          obtain ⟨q11, eq11, h⟩ := mj_bnd h
          refine mj_pcall hC rfl (md_plainTried_x (Nat.le_trans (by decide) hd) eq11) ?_
          show P (87, [some (.ref 68), none, none, some (.int q10.2.1)], [], (110, x), q11)
          refine mj_gcp hC 1 ?_
          show P (88, [some (.ref 68), none, none, some (.int q10.2.1)], [.int q10.2.1], (110, x), q11)
          cases h
          exact mj_pret hC rfl hR
        · rw [if_neg hj] at h
          refine mj_gcp hC 1 ?_
          show P (96, [some (.ref 68), none, none, none], [.ref 68], (110, x), q10.2.2)
          obtain ⟨q12, eq12, h⟩ := mj_bnd h
          refine mj_pcall hC rfl (md_plainTried_x (Nat.le_trans (by decide) hd) eq12) ?_
          show P (99, [some (.ref 68), none, none, none], [], (110, x), q12)
          refine mj_gcp hC 1 ?_
          show P (101, [some (.ref 68), none, none, none], [.int (-2)], (110, x), q12)
          cases h
          exact mj_pret hC rfl hR
set_option maxRecDepth 20000 in
theorem md_startBy_x {Ls tp ip x d : Nat} {Z : mj_X} (hd : 9 ≤ d) {v1 : Int32} {v2 : Int32} {m : mj_M} {r : (Int32 × mj_M)} (h : md_startBy v1 v2 m = some r) : mj_Ex false (mj_sh Ls) (mj_rf tp ip) Z d 257 [.ref 68, .int v1, .int v2] (110, x) m (some (.int r.1)) (110, x) r.2 := by
  exact mj_Ex_of (cd := mj_cd_257) (L := [some (.ref 68), some (.int v1), some (.int v2), none]) (by omega) (by decide) rfl (Nat.le_of_ble_eq_true rfl) rfl (fun P hC => md_startBy_p hC (by omega) h ⟨rfl, rfl, rfl⟩)
def md_idle_j34l9   (v2 : Int32) (s0 : Int32) (s1 : Int32) (m : mj_M) : Option (Nat × (Int32 × Int32 × mj_M)) :=
  some (0, ((s0 ||| s1), (v2 + 1), m))
def md_idle_l9   (s9 : (Int32 × Int32 × mj_M)) : Option (Nat × (Int32 × Int32 × mj_M)) :=
  (if (mj_I (s9.2.2 68 12)) ≤ s9.2.1 then some (1, (s9.1, s9.2.1, s9.2.2)) else
  (if s9.2.1 < 0 ∨ 12 ≤ (s9.2.1 : Int32).toNatClampNeg then none else
  (if (mj_I (s9.2.2 97 s9.2.1.toNatClampNeg)) = 0 then md_idle_j34l9 s9.2.1 s9.1 0 s9.2.2 else
  md_idle_j34l9 s9.2.1 s9.1 ((1 : Int32) <<< (s9.2.1 &&& 31)) s9.2.2)))
def md_idle_j76l44   (v2 : Int32) (s0 : Int32) (s1 : Int32) (m : mj_M) : Option (Nat × (Int32 × Int32 × mj_M)) :=
  some (0, ((s0 &&& s1), (v2 + 1), m))
def md_idle_l44   (s44 : (Int32 × Int32 × mj_M)) : Option (Nat × (Int32 × Int32 × mj_M)) :=
  (if (mj_I (s44.2.2 68 14)) ≤ s44.2.1 then some (1, (s44.1, s44.2.1, s44.2.2)) else
  (if s44.2.1 < 0 ∨ 16 ≤ (s44.2.1 : Int32).toNatClampNeg then none else
  (if (mj_I (s44.2.2 93 s44.2.1.toNatClampNeg)) ≤ 0 then md_idle_j76l44 s44.2.1 s44.1 (-1) s44.2.2 else
  (if s44.2.1 < 0 ∨ 16 ≤ (s44.2.1 : Int32).toNatClampNeg then none else
  md_idle_j76l44 s44.2.1 s44.1 (((1 : Int32) <<< ((mj_I (s44.2.2 78 s44.2.1.toNatClampNeg)) &&& 31)) ^^^ (-1)) s44.2.2))))
def md_idle   (m : mj_M) : Option (Int32 × mj_M) :=
  (mj_loop (md_idle_l9) mj_F (0, 0, (mj_up m 68 2 (.int 0)))).bind fun q4 =>
  (mj_loop (md_idle_l44) mj_F (q4.2.1, 0, q4.2.2.2)).bind fun q9 =>
  some (q9.2.1, q9.2.2.2)
set_option maxRecDepth 20000 in
theorem md_idle_j34l9_x {Ls tp ip x d : Nat} {Z : mj_X} {R : Option Value → mj_G → mj_M → Prop} {P : mj_K → Prop} (hC : mj_cls false (mj_sh Ls) (mj_rf tp ip) mj_dv mj_cd_258 (mj_Ex false (mj_sh Ls) (mj_rf tp ip) Z d) R P) (hd : 0 ≤ d)  {v2 : Int32} {s0 : Int32} {s1 : Int32} {m : mj_M} {t : Nat} {w : (Int32 × Int32 × mj_M)} (h : md_idle_j34l9  v2 s0 s1 m = some (t, w)) (h0 : t = 0 → P (9, [some (.ref 68), some (.int w.1), some (.int w.2.1)], [], (110, x), w.2.2)) (h1 : t = 1 → P (42, [some (.ref 68), some (.int w.1), none], [], (110, x), w.2.2)) : P (34, [some (.ref 68), none, some (.int v2)], [.int s1, .int s0], (110, x), m) := by
  unfold md_idle_j34l9 at h
  refine mj_gcp hC 4 ?_
  show P (9, [some (.ref 68), some (.int (s0 ||| s1)), some (.int (v2 + 1))], [], (110, x), m)
  cases h
  exact mj_less hC (L0 := [some (.ref 68), some (.int (s0 ||| s1)), some (.int (v2 + 1))]) (And.intro rfl (And.intro rfl (And.intro rfl trivial))) (h0 rfl)
set_option maxRecDepth 20000 in
theorem md_idle_l9_x {Ls tp ip x d : Nat} {Z : mj_X} {R : Option Value → mj_G → mj_M → Prop} {P : mj_K → Prop} (hC : mj_cls false (mj_sh Ls) (mj_rf tp ip) mj_dv mj_cd_258 (mj_Ex false (mj_sh Ls) (mj_rf tp ip) Z d) R P) (hd : 0 ≤ d)  (s9 : (Int32 × Int32 × mj_M)) {t : Nat} {w : (Int32 × Int32 × mj_M)} (h : md_idle_l9 s9 = some (t, w)) (h0 : t = 0 → P (9, [some (.ref 68), some (.int w.1), some (.int w.2.1)], [], (110, x), w.2.2)) (h1 : t = 1 → P (42, [some (.ref 68), some (.int w.1), none], [], (110, x), w.2.2)) : P (9, [some (.ref 68), some (.int s9.1), some (.int s9.2.1)], [], (110, x), s9.2.2) := by
  unfold md_idle_l9 at h
  refine mj_gcp hC 4 ?_
  show P (mj_pick 42 17 ((mj_I (s9.2.2 68 12)) ≤ s9.2.1), [some (.ref 68), some (.int s9.1), some (.int s9.2.1)], [], (110, x), s9.2.2)
  refine mj_pbr (fun c1 => ?_) (fun c1 => ?_)
  · rw [if_pos c1] at h
    cases h
    exact mj_less hC (L0 := [some (.ref 68), some (.int s9.1), none]) (And.intro rfl (And.intro rfl trivial)) (h1 rfl)
  · rw [if_neg c1] at h
    obtain ⟨k2, h⟩ := mj_ifn h
    refine mj_gcp hC 6 ?_
    show _ ∧ (P (mj_pick 33 27 ((mj_I (s9.2.2 97 s9.2.1.toNatClampNeg)) = 0), [some (.ref 68), some (.int s9.1), some (.int s9.2.1)], [.int s9.1], (110, x), s9.2.2))
    refine And.intro k2 (?_)
    refine mj_pbr (fun c3 => ?_) (fun c3 => ?_)
    · rw [if_pos c3] at h
      refine mj_gcp hC 1 ?_
      show P (34, [some (.ref 68), some (.int s9.1), some (.int s9.2.1)], [.int 0, .int s9.1], (110, x), s9.2.2)
      exact mj_less hC (L0 := [some (.ref 68), none, some (.int s9.2.1)]) (And.intro rfl (And.intro rfl trivial)) (md_idle_j34l9_x hC hd h h0 h1)
    · rw [if_neg c3] at h
      refine mj_gcp hC 4 ?_
      show P (34, [some (.ref 68), some (.int s9.1), some (.int s9.2.1)], [.int ((1 : Int32) <<< (s9.2.1 &&& 31)), .int s9.1], (110, x), s9.2.2)
      exact mj_less hC (L0 := [some (.ref 68), none, some (.int s9.2.1)]) (And.intro rfl (And.intro rfl trivial)) (md_idle_j34l9_x hC hd h h0 h1)
set_option maxRecDepth 20000 in
theorem md_idle_j76l44_x {Ls tp ip x d : Nat} {Z : mj_X} {R : Option Value → mj_G → mj_M → Prop} {P : mj_K → Prop} (hC : mj_cls false (mj_sh Ls) (mj_rf tp ip) mj_dv mj_cd_258 (mj_Ex false (mj_sh Ls) (mj_rf tp ip) Z d) R P) (hd : 0 ≤ d)  {v2 : Int32} {s0 : Int32} {s1 : Int32} {m : mj_M} {t : Nat} {w : (Int32 × Int32 × mj_M)} (h : md_idle_j76l44  v2 s0 s1 m = some (t, w)) (h0 : t = 0 → P (44, [some (.ref 68), some (.int w.1), some (.int w.2.1)], [], (110, x), w.2.2)) (h1 : t = 1 → P (84, [none, some (.int w.1), none], [], (110, x), w.2.2)) : P (76, [some (.ref 68), none, some (.int v2)], [.int s1, .int s0], (110, x), m) := by
  unfold md_idle_j76l44 at h
  refine mj_gcp hC 4 ?_
  show P (44, [some (.ref 68), some (.int (s0 &&& s1)), some (.int (v2 + 1))], [], (110, x), m)
  cases h
  exact mj_less hC (L0 := [some (.ref 68), some (.int (s0 &&& s1)), some (.int (v2 + 1))]) (And.intro rfl (And.intro rfl (And.intro rfl trivial))) (h0 rfl)
set_option maxRecDepth 20000 in
theorem md_idle_l44_x {Ls tp ip x d : Nat} {Z : mj_X} {R : Option Value → mj_G → mj_M → Prop} {P : mj_K → Prop} (hC : mj_cls false (mj_sh Ls) (mj_rf tp ip) mj_dv mj_cd_258 (mj_Ex false (mj_sh Ls) (mj_rf tp ip) Z d) R P) (hd : 0 ≤ d)  (s44 : (Int32 × Int32 × mj_M)) {t : Nat} {w : (Int32 × Int32 × mj_M)} (h : md_idle_l44 s44 = some (t, w)) (h0 : t = 0 → P (44, [some (.ref 68), some (.int w.1), some (.int w.2.1)], [], (110, x), w.2.2)) (h1 : t = 1 → P (84, [none, some (.int w.1), none], [], (110, x), w.2.2)) : P (44, [some (.ref 68), some (.int s44.1), some (.int s44.2.1)], [], (110, x), s44.2.2) := by
  unfold md_idle_l44 at h
  refine mj_gcp hC 4 ?_
  show P (mj_pick 84 52 ((mj_I (s44.2.2 68 14)) ≤ s44.2.1), [some (.ref 68), some (.int s44.1), some (.int s44.2.1)], [], (110, x), s44.2.2)
  refine mj_pbr (fun c5 => ?_) (fun c5 => ?_)
  · rw [if_pos c5] at h
    cases h
    exact mj_less hC (L0 := [none, some (.int s44.1), none]) (And.intro rfl trivial) (h1 rfl)
  · rw [if_neg c5] at h
    obtain ⟨k6, h⟩ := mj_ifn h
    refine mj_gcp hC 6 ?_
    show _ ∧ (P (mj_pick 75 62 ((mj_I (s44.2.2 93 s44.2.1.toNatClampNeg)) ≤ 0), [some (.ref 68), some (.int s44.1), some (.int s44.2.1)], [.int s44.1], (110, x), s44.2.2))
    refine And.intro k6 (?_)
    refine mj_pbr (fun c7 => ?_) (fun c7 => ?_)
    · rw [if_pos c7] at h
      refine mj_gcp hC 1 ?_
      show P (76, [some (.ref 68), some (.int s44.1), some (.int s44.2.1)], [.int (-1), .int s44.1], (110, x), s44.2.2)
      exact mj_less hC (L0 := [some (.ref 68), none, some (.int s44.2.1)]) (And.intro rfl (And.intro rfl trivial)) (md_idle_j76l44_x hC hd h h0 h1)
    · rw [if_neg c7] at h
      obtain ⟨k8, h⟩ := mj_ifn h
      refine mj_gcp hC 9 ?_
      show _ ∧ (P (76, [some (.ref 68), some (.int s44.1), some (.int s44.2.1)], [.int (((1 : Int32) <<< ((mj_I (s44.2.2 78 s44.2.1.toNatClampNeg)) &&& 31)) ^^^ (-1)), .int s44.1], (110, x), s44.2.2))
      refine And.intro k8 (?_)
      exact mj_less hC (L0 := [some (.ref 68), none, some (.int s44.2.1)]) (And.intro rfl (And.intro rfl trivial)) (md_idle_j76l44_x hC hd h h0 h1)
set_option maxRecDepth 20000 in
theorem md_idle_p {Ls tp ip x d : Nat} {Z : mj_X} {R : Option Value → mj_G → mj_M → Prop} {P : mj_K → Prop} (hC : mj_cls false (mj_sh Ls) (mj_rf tp ip) mj_dv mj_cd_258 (mj_Ex false (mj_sh Ls) (mj_rf tp ip) Z d) R P) (hd : 0 ≤ d)  {m : mj_M} {r : (Int32 × mj_M)} (h : md_idle m = some r) (hR : R (some (.int r.1)) (110, x) r.2) : P (0, [some (.ref 68), none, none], [], (110, x), m) := by
  unfold md_idle at h
  refine mj_gcp hC 7 ?_
  show P (9, [some (.ref 68), some (.int 0), some (.int 0)], [], (110, x), (mj_up m 68 2 (.int 0)))
  obtain ⟨q4, eq4, h⟩ := mj_bnd h
  refine mj_less hC (L0 := [some (.ref 68), some (.int 0), some (.int 0)]) (And.intro rfl (And.intro rfl (And.intro rfl trivial))) ?_
  refine mj_loop_P (A := fun z9 => P (9, [some (.ref 68), some (.int z9.1), some (.int z9.2.1)], [], (110, x), z9.2.2)) (E := fun _ z9 => P (42, [some (.ref 68), some (.int z9.1), none], [], (110, x), z9.2.2)) (fun zz t w hb h0 h1 => md_idle_l9_x hC hd zz hb h0 (fun ht => h1 0 ht)) mj_F _ q4 eq4 ?_
  refine mj_gcp hC 2 ?_
  show P (44, [some (.ref 68), some (.int q4.2.1), some (.int 0)], [], (110, x), q4.2.2.2)
  obtain ⟨q9, eq9, h⟩ := mj_bnd h
  refine mj_less hC (L0 := [some (.ref 68), some (.int q4.2.1), some (.int 0)]) (And.intro rfl (And.intro rfl (And.intro rfl trivial))) ?_
  refine mj_loop_P (A := fun z44 => P (44, [some (.ref 68), some (.int z44.1), some (.int z44.2.1)], [], (110, x), z44.2.2)) (E := fun _ z44 => P (84, [none, some (.int z44.1), none], [], (110, x), z44.2.2)) (fun zz t w hb h0 h1 => md_idle_l44_x hC hd zz hb h0 (fun ht => h1 0 ht)) mj_F _ q9 eq9 ?_
  refine mj_gcp hC 1 ?_
  show P (85, [none, some (.int q9.2.1), none], [.int q9.2.1], (110, x), q9.2.2.2)
  cases h
  exact mj_pret hC rfl hR
set_option maxRecDepth 20000 in
theorem md_idle_x {Ls tp ip x d : Nat} {Z : mj_X} (hd : 1 ≤ d)  {m : mj_M} {r : (Int32 × mj_M)} (h : md_idle m = some r) : mj_Ex false (mj_sh Ls) (mj_rf tp ip) Z d 258 [.ref 68] (110, x) m (some (.int r.1)) (110, x) r.2 := by
  exact mj_Ex_of (cd := mj_cd_258) (L := [some (.ref 68), none, none]) (by omega) (by decide) rfl (Nat.le_of_ble_eq_true rfl) rfl (fun P hC => md_idle_p hC (by omega) h ⟨rfl, rfl, rfl⟩)
def md_goOn_j47l13   (v2 : Int32) (s0 : Int32) (s1 : Int32) (m : mj_M) : Option (Nat × (Int32 × Int32 × mj_M)) :=
  some (0, ((s0 ||| s1), (v2 + 1), m))
def md_goOn_l13   (s13 : (Int32 × Int32 × mj_M)) : Option (Nat × (Int32 × Int32 × mj_M)) :=
  (if (mj_I (s13.2.2 68 14)) ≤ s13.2.1 then some (1, (s13.1, s13.2.1, s13.2.2)) else
  (md_beatOf 0 0 s13.2.2).bind fun q3 =>
  (if q3 ≤ 0 then some (1, (s13.1, s13.2.1, s13.2.2)) else
  (md_isOn 0 s13.2.1 s13.2.2).bind fun q5 =>
  (if q5 = 0 then md_goOn_j47l13 s13.2.1 s13.1 0 s13.2.2 else
  md_goOn_j47l13 s13.2.1 s13.1 ((1 : Int32) <<< (s13.2.1 &&& 31)) s13.2.2)))
def md_goOn   (m : mj_M) : Option (Int32 × mj_M) :=
  (md_plainTried (mj_up m 68 2 (.int 0))).bind fun q1 =>
  (mj_loop (md_goOn_l13) mj_F (0, 0, q1)).bind fun q7 =>
  some (q7.2.1, q7.2.2.2)
set_option maxRecDepth 20000 in
theorem md_goOn_j47l13_x {Ls tp ip x d : Nat} {Z : mj_X} {R : Option Value → mj_G → mj_M → Prop} {P : mj_K → Prop} (hC : mj_cls false (mj_sh Ls) (mj_rf tp ip) mj_dv mj_cd_259 (mj_Ex false (mj_sh Ls) (mj_rf tp ip) Z d) R P) (hd : 2 ≤ d)  {v2 : Int32} {s0 : Int32} {s1 : Int32} {m : mj_M} {t : Nat} {w : (Int32 × Int32 × mj_M)} (h : md_goOn_j47l13  v2 s0 s1 m = some (t, w)) (h0 : t = 0 → P (13, [some (.ref 68), some (.int w.1), some (.int w.2.1)], [], (110, x), w.2.2)) (h1 : t = 1 → P (55, [none, some (.int w.1), none], [], (110, x), w.2.2)) : P (47, [some (.ref 68), none, some (.int v2)], [.int s1, .int s0], (110, x), m) := by
  unfold md_goOn_j47l13 at h
  refine mj_gcp hC 4 ?_
  show P (13, [some (.ref 68), some (.int (s0 ||| s1)), some (.int (v2 + 1))], [], (110, x), m)
  cases h
  exact mj_less hC (L0 := [some (.ref 68), some (.int (s0 ||| s1)), some (.int (v2 + 1))]) (And.intro rfl (And.intro rfl (And.intro rfl trivial))) (h0 rfl)
set_option maxRecDepth 20000 in
theorem md_goOn_l13_x {Ls tp ip x d : Nat} {Z : mj_X} {R : Option Value → mj_G → mj_M → Prop} {P : mj_K → Prop} (hC : mj_cls false (mj_sh Ls) (mj_rf tp ip) mj_dv mj_cd_259 (mj_Ex false (mj_sh Ls) (mj_rf tp ip) Z d) R P) (hd : 2 ≤ d)  (s13 : (Int32 × Int32 × mj_M)) {t : Nat} {w : (Int32 × Int32 × mj_M)} (h : md_goOn_l13 s13 = some (t, w)) (h0 : t = 0 → P (13, [some (.ref 68), some (.int w.1), some (.int w.2.1)], [], (110, x), w.2.2)) (h1 : t = 1 → P (55, [none, some (.int w.1), none], [], (110, x), w.2.2)) : P (13, [some (.ref 68), some (.int s13.1), some (.int s13.2.1)], [], (110, x), s13.2.2) := by
  unfold md_goOn_l13 at h
  refine mj_gcp hC 4 ?_
  show P (mj_pick 55 21 ((mj_I (s13.2.2 68 14)) ≤ s13.2.1), [some (.ref 68), some (.int s13.1), some (.int s13.2.1)], [], (110, x), s13.2.2)
  refine mj_pbr (fun c2 => ?_) (fun c2 => ?_)
  · rw [if_pos c2] at h
    cases h
    exact mj_less hC (L0 := [none, some (.int s13.1), none]) (And.intro rfl trivial) (h1 rfl)
  · rw [if_neg c2] at h
    refine mj_gcp hC 3 ?_
    show P (24, [some (.ref 68), some (.int s13.1), some (.int s13.2.1)], [.int 0, .int 0, .ref 68], (110, x), s13.2.2)
    obtain ⟨q3, eq3, h⟩ := mj_bnd h
    refine mj_pcall hC rfl (md_beatOf_x (Nat.le_trans (by decide) hd) eq3) ?_
    show P (27, [some (.ref 68), some (.int s13.1), some (.int s13.2.1)], [.int q3], (110, x), s13.2.2)
    refine mj_gcp hC 1 ?_
    show P (mj_pick 55 30 (q3 ≤ 0), [some (.ref 68), some (.int s13.1), some (.int s13.2.1)], [], (110, x), s13.2.2)
    refine mj_pbr (fun c4 => ?_) (fun c4 => ?_)
    · rw [if_pos c4] at h
      cases h
      exact mj_less hC (L0 := [none, some (.int s13.1), none]) (And.intro rfl trivial) (h1 rfl)
    · rw [if_neg c4] at h
      refine mj_gcp hC 4 ?_
      show P (34, [some (.ref 68), some (.int s13.1), some (.int s13.2.1)], [.int s13.2.1, .int 0, .ref 68, .int s13.1], (110, x), s13.2.2)
      obtain ⟨q5, eq5, h⟩ := mj_bnd h
      refine mj_pcall hC rfl (md_isOn_x (Nat.le_trans (by decide) hd) eq5) ?_
      show P (37, [some (.ref 68), some (.int s13.1), some (.int s13.2.1)], [.int q5, .int s13.1], (110, x), s13.2.2)
      refine mj_gcp hC 1 ?_
      show P (mj_pick 46 40 (q5 = 0), [some (.ref 68), some (.int s13.1), some (.int s13.2.1)], [.int s13.1], (110, x), s13.2.2)
      refine mj_pbr (fun c6 => ?_) (fun c6 => ?_)
      · rw [if_pos c6] at h
        refine mj_gcp hC 1 ?_
        show P (47, [some (.ref 68), some (.int s13.1), some (.int s13.2.1)], [.int 0, .int s13.1], (110, x), s13.2.2)
        exact mj_less hC (L0 := [some (.ref 68), none, some (.int s13.2.1)]) (And.intro rfl (And.intro rfl trivial)) (md_goOn_j47l13_x hC hd h h0 h1)
      · rw [if_neg c6] at h
        refine mj_gcp hC 4 ?_
        show P (47, [some (.ref 68), some (.int s13.1), some (.int s13.2.1)], [.int ((1 : Int32) <<< (s13.2.1 &&& 31)), .int s13.1], (110, x), s13.2.2)
        exact mj_less hC (L0 := [some (.ref 68), none, some (.int s13.2.1)]) (And.intro rfl (And.intro rfl trivial)) (md_goOn_j47l13_x hC hd h h0 h1)
set_option maxRecDepth 20000 in
theorem md_goOn_p {Ls tp ip x d : Nat} {Z : mj_X} {R : Option Value → mj_G → mj_M → Prop} {P : mj_K → Prop} (hC : mj_cls false (mj_sh Ls) (mj_rf tp ip) mj_dv mj_cd_259 (mj_Ex false (mj_sh Ls) (mj_rf tp ip) Z d) R P) (hd : 2 ≤ d)  {m : mj_M} {r : (Int32 × mj_M)} (h : md_goOn m = some r) (hR : R (some (.int r.1)) (110, x) r.2) : P (0, [some (.ref 68), none, none], [], (110, x), m) := by
  unfold md_goOn at h
  refine mj_gcp hC 4 ?_
  show P (6, [some (.ref 68), none, none], [.ref 68], (110, x), (mj_up m 68 2 (.int 0)))
  obtain ⟨q1, eq1, h⟩ := mj_bnd h
  refine mj_pcall hC rfl (md_plainTried_x (Nat.le_trans (by decide) hd) eq1) ?_
  show P (9, [some (.ref 68), none, none], [], (110, x), q1)
  refine mj_gcp hC 4 ?_
  show P (13, [some (.ref 68), some (.int 0), some (.int 0)], [], (110, x), q1)
  obtain ⟨q7, eq7, h⟩ := mj_bnd h
  refine mj_less hC (L0 := [some (.ref 68), some (.int 0), some (.int 0)]) (And.intro rfl (And.intro rfl (And.intro rfl trivial))) ?_
  refine mj_loop_P (A := fun z13 => P (13, [some (.ref 68), some (.int z13.1), some (.int z13.2.1)], [], (110, x), z13.2.2)) (E := fun _ z13 => P (55, [none, some (.int z13.1), none], [], (110, x), z13.2.2)) (fun zz t w hb h0 h1 => md_goOn_l13_x hC hd zz hb h0 (fun ht => h1 0 ht)) mj_F _ q7 eq7 ?_
  refine mj_gcp hC 1 ?_
  show P (56, [none, some (.int q7.2.1), none], [.int q7.2.1], (110, x), q7.2.2.2)
  cases h
  exact mj_pret hC rfl hR
set_option maxRecDepth 20000 in
theorem md_goOn_x {Ls tp ip x d : Nat} {Z : mj_X} (hd : 3 ≤ d)  {m : mj_M} {r : (Int32 × mj_M)} (h : md_goOn m = some r) : mj_Ex false (mj_sh Ls) (mj_rf tp ip) Z d 259 [.ref 68] (110, x) m (some (.int r.1)) (110, x) r.2 := by
  exact mj_Ex_of (cd := mj_cd_259) (L := [some (.ref 68), none, none]) (by omega) (by decide) rfl (Nat.le_of_ble_eq_true rfl) rfl (fun P hC => md_goOn_p hC (by omega) h ⟨rfl, rfl, rfl⟩)
def md_noted  (v1 : Int32) (v2 : Int32) (v3 : Int32) (v4 : Int32) (m : mj_M) : Option (Int32 × mj_M) :=
  (if ((4 : Int32) * (mj_I (m 68 71))) < 0 ∨ 96 ≤ (((4 : Int32) * (mj_I (m 68 71))) : Int32).toNatClampNeg then none else
  (if (((4 : Int32) * (mj_I (m 68 71))) + 1) < 0 ∨ 96 ≤ ((((4 : Int32) * (mj_I (m 68 71))) + 1) : Int32).toNatClampNeg then none else
  (if (((4 : Int32) * (mj_I (m 68 71))) + 2) < 0 ∨ 96 ≤ ((((4 : Int32) * (mj_I (m 68 71))) + 2) : Int32).toNatClampNeg then none else
  (if (((4 : Int32) * (mj_I (m 68 71))) + 3) < 0 ∨ 96 ≤ ((((4 : Int32) * (mj_I (m 68 71))) + 3) : Int32).toNatClampNeg then none else
  some ((((mj_I (m 68 71)) + 1) - 1), (mj_up (mj_up (mj_up (mj_up (mj_up m 104 ((4 : Int32) * (mj_I (m 68 71))).toNatClampNeg (.int v1)) 104 (((4 : Int32) * (mj_I (m 68 71))) + 1).toNatClampNeg (.int v2)) 104 (((4 : Int32) * (mj_I (m 68 71))) + 2).toNatClampNeg (.int v3)) 104 (((4 : Int32) * (mj_I (m 68 71))) + 3).toNatClampNeg (.int v4)) 68 71 (.int ((mj_I (m 68 71)) + 1))))))))
set_option maxRecDepth 20000 in
theorem md_noted_p {Ls tp ip x d : Nat} {Z : mj_X} {R : Option Value → mj_G → mj_M → Prop} {P : mj_K → Prop} (hC : mj_cls false (mj_sh Ls) (mj_rf tp ip) mj_dv mj_cd_260 (mj_Ex false (mj_sh Ls) (mj_rf tp ip) Z d) R P) (hd : 0 ≤ d) {v1 : Int32} {v2 : Int32} {v3 : Int32} {v4 : Int32} {m : mj_M} {r : (Int32 × mj_M)} (h : md_noted v1 v2 v3 v4 m = some r) (hR : R (some (.int r.1)) (110, x) r.2) : P (0, [some (.ref 68), some (.int v1), some (.int v2), some (.int v3), some (.int v4)], [], (110, x), m) := by
  unfold md_noted at h
  obtain ⟨k1, h⟩ := mj_ifn h
  obtain ⟨k2, h⟩ := mj_ifn h
  obtain ⟨k3, h⟩ := mj_ifn h
  obtain ⟨k4, h⟩ := mj_ifn h
  refine mj_gcp hC 48 ?_
  show _ ∧ (_ ∧ (_ ∧ (_ ∧ (P (71, [some (.ref 68), some (.int v1), some (.int v2), some (.int v3), some (.int v4)], [.int (((mj_I (m 68 71)) + 1) - 1)], (110, x), (mj_up (mj_up (mj_up (mj_up (mj_up m 104 ((4 : Int32) * (mj_I (m 68 71))).toNatClampNeg (.int v1)) 104 (((4 : Int32) * (mj_I (m 68 71))) + 1).toNatClampNeg (.int v2)) 104 (((4 : Int32) * (mj_I (m 68 71))) + 2).toNatClampNeg (.int v3)) 104 (((4 : Int32) * (mj_I (m 68 71))) + 3).toNatClampNeg (.int v4)) 68 71 (.int ((mj_I (m 68 71)) + 1))))))))
  refine And.intro k1 (And.intro k2 (And.intro k3 (And.intro k4 (?_))))
  cases h
  exact mj_pret hC rfl hR
set_option maxRecDepth 20000 in
theorem md_noted_x {Ls tp ip x d : Nat} {Z : mj_X} (hd : 1 ≤ d) {v1 : Int32} {v2 : Int32} {v3 : Int32} {v4 : Int32} {m : mj_M} {r : (Int32 × mj_M)} (h : md_noted v1 v2 v3 v4 m = some r) : mj_Ex false (mj_sh Ls) (mj_rf tp ip) Z d 260 [.ref 68, .int v1, .int v2, .int v3, .int v4] (110, x) m (some (.int r.1)) (110, x) r.2 := by
  exact mj_Ex_of (cd := mj_cd_260) (L := [some (.ref 68), some (.int v1), some (.int v2), some (.int v3), some (.int v4)]) (by omega) (by decide) rfl (Nat.le_of_ble_eq_true rfl) rfl (fun P hC => md_noted_p hC (by omega) h ⟨rfl, rfl, rfl⟩)
def md_see_j61   (s1 : Int32) (s2 : Int32) (s3 : Int32) (s4 : Int32) (m : mj_M) : Option (Int32 × mj_M) :=
  (md_noted s1 s2 s3 s4 m).bind fun q6 =>
  some (q6.1, q6.2)
def md_see  (v1 : Int32) (v2 : Int32) (v3 : Int32) (v4 : Int32) (m : mj_M) : Option (Int32 × mj_M) :=
  (if (mj_I (m 68 71)) = 24 then some ((-1), (mj_up m 68 2 (.int 0))) else
  (if (md_isIn v1 1 40 (mj_up m 68 2 (.int 0))) = 0 then some ((-1), (mj_up m 68 2 (.int 0))) else
  (if (md_isWork v2 (mj_up m 68 2 (.int 0))) = 0 then some ((-1), (mj_up m 68 2 (.int 0))) else
  (if (md_isIn v3 0 999 (mj_up m 68 2 (.int 0))) = 0 then some ((-1), (mj_up m 68 2 (.int 0))) else
  (if v4 = 0 then md_see_j61 v1 v2 v3 0 (mj_up m 68 2 (.int 0)) else
  md_see_j61 v1 v2 v3 1 (mj_up m 68 2 (.int 0)))))))
set_option maxRecDepth 20000 in
theorem md_see_j61_x {Ls tp ip x d : Nat} {Z : mj_X} {R : Option Value → mj_G → mj_M → Prop} {P : mj_K → Prop} (hC : mj_cls false (mj_sh Ls) (mj_rf tp ip) mj_dv mj_cd_261 (mj_Ex false (mj_sh Ls) (mj_rf tp ip) Z d) R P) (hd : 1 ≤ d)  {s1 : Int32} {s2 : Int32} {s3 : Int32} {s4 : Int32} {m : mj_M} {r : (Int32 × mj_M)} (h : md_see_j61 s1 s2 s3 s4 m = some r) (hR : R (some (.int r.1)) (110, x) r.2) : P (61, [none, none, none, none, none], [.int s4, .int s3, .int s2, .int s1, .ref 68], (110, x), m) := by
  unfold md_see_j61 at h
  obtain ⟨q6, eq6, h⟩ := mj_bnd h
  refine mj_pcall hC rfl (md_noted_x (Nat.le_trans (by decide) hd) eq6) ?_
  show P (64, [none, none, none, none, none], [.int q6.1], (110, x), q6.2)
  cases h
  exact mj_pret hC rfl hR
set_option maxRecDepth 20000 in
theorem md_see_p {Ls tp ip x d : Nat} {Z : mj_X} {R : Option Value → mj_G → mj_M → Prop} {P : mj_K → Prop} (hC : mj_cls false (mj_sh Ls) (mj_rf tp ip) mj_dv mj_cd_261 (mj_Ex false (mj_sh Ls) (mj_rf tp ip) Z d) R P) (hd : 1 ≤ d) {v1 : Int32} {v2 : Int32} {v3 : Int32} {v4 : Int32} {m : mj_M} {r : (Int32 × mj_M)} (h : md_see v1 v2 v3 v4 m = some r) (hR : R (some (.int r.1)) (110, x) r.2) : P (0, [some (.ref 68), some (.int v1), some (.int v2), some (.int v3), some (.int v4)], [], (110, x), m) := by
  unfold md_see at h
  refine mj_gcp hC 7 ?_
  show P (mj_pick 43 14 ((mj_I (m 68 71)) = 24), [some (.ref 68), some (.int v1), some (.int v2), some (.int v3), some (.int v4)], [], (110, x), (mj_up m 68 2 (.int 0)))
  refine mj_pbr (fun c1 => ?_) (fun c1 => ?_)
  · rw [if_pos c1] at h
    refine mj_gcp hC 2 ?_
    show P (64, [some (.ref 68), some (.int v1), some (.int v2), some (.int v3), some (.int v4)], [.int (-1)], (110, x), (mj_up m 68 2 (.int 0)))
    cases h
    exact mj_pret hC rfl hR
  · rw [if_neg c1] at h
    refine mj_gcp hC 3 ?_
    show P (18, [some (.ref 68), some (.int v1), some (.int v2), some (.int v3), some (.int v4)], [.int 40, .int 1, .int v1], (110, x), (mj_up m 68 2 (.int 0)))
    refine mj_pcall hC rfl (md_isIn_x (Nat.le_trans (by decide) hd)) ?_
    show P (21, [some (.ref 68), some (.int v1), some (.int v2), some (.int v3), some (.int v4)], [.int (md_isIn v1 1 40 (mj_up m 68 2 (.int 0)))], (110, x), (mj_up m 68 2 (.int 0)))
    refine mj_gcp hC 1 ?_
    show P (mj_pick 43 24 ((md_isIn v1 1 40 (mj_up m 68 2 (.int 0))) = 0), [some (.ref 68), some (.int v1), some (.int v2), some (.int v3), some (.int v4)], [], (110, x), (mj_up m 68 2 (.int 0)))
    refine mj_pbr (fun c2 => ?_) (fun c2 => ?_)
    · rw [if_pos c2] at h
      refine mj_gcp hC 2 ?_
      show P (64, [some (.ref 68), some (.int v1), some (.int v2), some (.int v3), some (.int v4)], [.int (-1)], (110, x), (mj_up m 68 2 (.int 0)))
      cases h
      exact mj_pret hC rfl hR
    · rw [if_neg c2] at h
      refine mj_gcp hC 2 ?_
      show P (26, [some (.ref 68), some (.int v1), some (.int v2), some (.int v3), some (.int v4)], [.int v2, .ref 68], (110, x), (mj_up m 68 2 (.int 0)))
      refine mj_pcall hC rfl (md_isWork_x (Nat.le_trans (by decide) hd)) ?_
      show P (29, [some (.ref 68), some (.int v1), some (.int v2), some (.int v3), some (.int v4)], [.int (md_isWork v2 (mj_up m 68 2 (.int 0)))], (110, x), (mj_up m 68 2 (.int 0)))
      refine mj_gcp hC 1 ?_
      show P (mj_pick 43 32 ((md_isWork v2 (mj_up m 68 2 (.int 0))) = 0), [some (.ref 68), some (.int v1), some (.int v2), some (.int v3), some (.int v4)], [], (110, x), (mj_up m 68 2 (.int 0)))
      refine mj_pbr (fun c3 => ?_) (fun c3 => ?_)
      · rw [if_pos c3] at h
        refine mj_gcp hC 2 ?_
        show P (64, [some (.ref 68), some (.int v1), some (.int v2), some (.int v3), some (.int v4)], [.int (-1)], (110, x), (mj_up m 68 2 (.int 0)))
        cases h
        exact mj_pret hC rfl hR
      · rw [if_neg c3] at h
        refine mj_gcp hC 3 ?_
        show P (37, [some (.ref 68), some (.int v1), some (.int v2), some (.int v3), some (.int v4)], [.int 999, .int 0, .int v3], (110, x), (mj_up m 68 2 (.int 0)))
        refine mj_pcall hC rfl (md_isIn_x (Nat.le_trans (by decide) hd)) ?_
        show P (40, [some (.ref 68), some (.int v1), some (.int v2), some (.int v3), some (.int v4)], [.int (md_isIn v3 0 999 (mj_up m 68 2 (.int 0)))], (110, x), (mj_up m 68 2 (.int 0)))
        refine mj_gcp hC 1 ?_
        show P (mj_pick 43 47 ((md_isIn v3 0 999 (mj_up m 68 2 (.int 0))) = 0), [some (.ref 68), some (.int v1), some (.int v2), some (.int v3), some (.int v4)], [], (110, x), (mj_up m 68 2 (.int 0)))
        refine mj_pbr (fun c4 => ?_) (fun c4 => ?_)
        · rw [if_pos c4] at h
          refine mj_gcp hC 2 ?_
          show P (64, [some (.ref 68), some (.int v1), some (.int v2), some (.int v3), some (.int v4)], [.int (-1)], (110, x), (mj_up m 68 2 (.int 0)))
          cases h
          exact mj_pret hC rfl hR
        · rw [if_neg c4] at h
          refine mj_gcp hC 6 ?_
          show P (mj_pick 60 56 (v4 = 0), [some (.ref 68), some (.int v1), some (.int v2), some (.int v3), some (.int v4)], [.int v3, .int v2, .int v1, .ref 68], (110, x), (mj_up m 68 2 (.int 0)))
          refine mj_pbr (fun c5 => ?_) (fun c5 => ?_)
          · rw [if_pos c5] at h
            refine mj_gcp hC 1 ?_
            show P (61, [some (.ref 68), some (.int v1), some (.int v2), some (.int v3), some (.int v4)], [.int 0, .int v3, .int v2, .int v1, .ref 68], (110, x), (mj_up m 68 2 (.int 0)))
            exact mj_less hC (L0 := [none, none, none, none, none]) trivial (md_see_j61_x hC hd h hR)
          · rw [if_neg c5] at h
            refine mj_gcp hC 2 ?_
            show P (61, [some (.ref 68), some (.int v1), some (.int v2), some (.int v3), some (.int v4)], [.int 1, .int v3, .int v2, .int v1, .ref 68], (110, x), (mj_up m 68 2 (.int 0)))
            exact mj_less hC (L0 := [none, none, none, none, none]) trivial (md_see_j61_x hC hd h hR)
set_option maxRecDepth 20000 in
theorem md_see_x {Ls tp ip x d : Nat} {Z : mj_X} (hd : 2 ≤ d) {v1 : Int32} {v2 : Int32} {v3 : Int32} {v4 : Int32} {m : mj_M} {r : (Int32 × mj_M)} (h : md_see v1 v2 v3 v4 m = some r) : mj_Ex false (mj_sh Ls) (mj_rf tp ip) Z d 261 [.ref 68, .int v1, .int v2, .int v3, .int v4] (110, x) m (some (.int r.1)) (110, x) r.2 := by
  exact mj_Ex_of (cd := mj_cd_261) (L := [some (.ref 68), some (.int v1), some (.int v2), some (.int v3), some (.int v4)]) (by omega) (by decide) rfl (Nat.le_of_ble_eq_true rfl) rfl (fun P hC => md_see_p hC (by omega) h ⟨rfl, rfl, rfl⟩)
def md_strike  (v1 : Int32) (m : mj_M) : Option (Int32 × mj_M) :=
  (if (mj_I (m 68 71)) = 24 then some ((-1), (mj_up m 68 2 (.int 0))) else
  (if v1 < 0 then some ((-1), (mj_up m 68 2 (.int 0))) else
  (if v1 < (mj_I (m 68 71)) then (md_noted (-1) v1 0 0 (mj_up m 68 2 (.int 0))).bind fun q4 =>
  some (q4.1, q4.2) else
  some ((-1), (mj_up m 68 2 (.int 0))))))
set_option maxRecDepth 20000 in
theorem md_strike_p {Ls tp ip x d : Nat} {Z : mj_X} {R : Option Value → mj_G → mj_M → Prop} {P : mj_K → Prop} (hC : mj_cls false (mj_sh Ls) (mj_rf tp ip) mj_dv mj_cd_262 (mj_Ex false (mj_sh Ls) (mj_rf tp ip) Z d) R P) (hd : 1 ≤ d) {v1 : Int32} {m : mj_M} {r : (Int32 × mj_M)} (h : md_strike v1 m = some r) (hR : R (some (.int r.1)) (110, x) r.2) : P (0, [some (.ref 68), some (.int v1)], [], (110, x), m) := by
  unfold md_strike at h
  refine mj_gcp hC 7 ?_
  show P (mj_pick 26 14 ((mj_I (m 68 71)) = 24), [some (.ref 68), some (.int v1)], [], (110, x), (mj_up m 68 2 (.int 0)))
  refine mj_pbr (fun c1 => ?_) (fun c1 => ?_)
  · rw [if_pos c1] at h
    refine mj_gcp hC 2 ?_
    show P (38, [some (.ref 68), some (.int v1)], [.int (-1)], (110, x), (mj_up m 68 2 (.int 0)))
    cases h
    exact mj_pret hC rfl hR
  · rw [if_neg c1] at h
    refine mj_gcp hC 2 ?_
    show P (mj_pick 26 18 (v1 < 0), [some (.ref 68), some (.int v1)], [], (110, x), (mj_up m 68 2 (.int 0)))
    refine mj_pbr (fun c2 => ?_) (fun c2 => ?_)
    · rw [if_pos c2] at h
      refine mj_gcp hC 2 ?_
      show P (38, [some (.ref 68), some (.int v1)], [.int (-1)], (110, x), (mj_up m 68 2 (.int 0)))
      cases h
      exact mj_pret hC rfl hR
    · rw [if_neg c2] at h
      refine mj_gcp hC 4 ?_
      show P (mj_pick 30 26 (v1 < (mj_I (m 68 71))), [some (.ref 68), some (.int v1)], [], (110, x), (mj_up m 68 2 (.int 0)))
      refine mj_pbr (fun c3 => ?_) (fun c3 => ?_)
      · rw [if_pos c3] at h
        refine mj_gcp hC 5 ?_
        show P (35, [some (.ref 68), some (.int v1)], [.int 0, .int 0, .int v1, .int (-1), .ref 68], (110, x), (mj_up m 68 2 (.int 0)))
        obtain ⟨q4, eq4, h⟩ := mj_bnd h
        refine mj_pcall hC rfl (md_noted_x (Nat.le_trans (by decide) hd) eq4) ?_
        show P (38, [some (.ref 68), some (.int v1)], [.int q4.1], (110, x), q4.2)
        cases h
        exact mj_pret hC rfl hR
      · rw [if_neg c3] at h
        refine mj_gcp hC 2 ?_
        show P (38, [some (.ref 68), some (.int v1)], [.int (-1)], (110, x), (mj_up m 68 2 (.int 0)))
        cases h
        exact mj_pret hC rfl hR
set_option maxRecDepth 20000 in
theorem md_strike_x {Ls tp ip x d : Nat} {Z : mj_X} (hd : 2 ≤ d) {v1 : Int32} {m : mj_M} {r : (Int32 × mj_M)} (h : md_strike v1 m = some r) : mj_Ex false (mj_sh Ls) (mj_rf tp ip) Z d 262 [.ref 68, .int v1] (110, x) m (some (.int r.1)) (110, x) r.2 := by
  exact mj_Ex_of (cd := mj_cd_262) (L := [some (.ref 68), some (.int v1)]) (by omega) (by decide) rfl (Nat.le_of_ble_eq_true rfl) rfl (fun P hC => md_strike_p hC (by omega) h ⟨rfl, rfl, rfl⟩)
def md_known  (v1 : Int32) (m : mj_M) : Option (Int32 × mj_M) :=
  (if (md_isIn v1 (-1) (mj_I (m 68 71)) (mj_up m 68 2 (.int 0))) = 0 then some (0, (mj_up m 68 2 (.int 0))) else
  some (1, (mj_up (mj_up m 68 2 (.int 0)) 68 72 (.int v1))))
set_option maxRecDepth 20000 in
theorem md_known_p {Ls tp ip x d : Nat} {Z : mj_X} {R : Option Value → mj_G → mj_M → Prop} {P : mj_K → Prop} (hC : mj_cls false (mj_sh Ls) (mj_rf tp ip) mj_dv mj_cd_263 (mj_Ex false (mj_sh Ls) (mj_rf tp ip) Z d) R P) (hd : 1 ≤ d) {v1 : Int32} {m : mj_M} {r : (Int32 × mj_M)} (h : md_known v1 m = some r) (hR : R (some (.int r.1)) (110, x) r.2) : P (0, [some (.ref 68), some (.int v1)], [], (110, x), m) := by
  unfold md_known at h
  refine mj_gcp hC 7 ?_
  show P (11, [some (.ref 68), some (.int v1)], [.int (mj_I (m 68 71)), .int (-1), .int v1], (110, x), (mj_up m 68 2 (.int 0)))
  refine mj_pcall hC rfl (md_isIn_x (Nat.le_trans (by decide) hd)) ?_
  show P (14, [some (.ref 68), some (.int v1)], [.int (md_isIn v1 (-1) (mj_I (m 68 71)) (mj_up m 68 2 (.int 0)))], (110, x), (mj_up m 68 2 (.int 0)))
  refine mj_gcp hC 1 ?_
  show P (mj_pick 17 19 ((md_isIn v1 (-1) (mj_I (m 68 71)) (mj_up m 68 2 (.int 0))) = 0), [some (.ref 68), some (.int v1)], [], (110, x), (mj_up m 68 2 (.int 0)))
  refine mj_pbr (fun c1 => ?_) (fun c1 => ?_)
  · rw [if_pos c1] at h
    refine mj_gcp hC 1 ?_
    show P (18, [some (.ref 68), some (.int v1)], [.int 0], (110, x), (mj_up m 68 2 (.int 0)))
    cases h
    exact mj_pret hC rfl hR
  · rw [if_neg c1] at h
    refine mj_gcp hC 4 ?_
    show P (25, [some (.ref 68), some (.int v1)], [.int 1], (110, x), (mj_up (mj_up m 68 2 (.int 0)) 68 72 (.int v1)))
    cases h
    exact mj_pret hC rfl hR
set_option maxRecDepth 20000 in
theorem md_known_x {Ls tp ip x d : Nat} {Z : mj_X} (hd : 2 ≤ d) {v1 : Int32} {m : mj_M} {r : (Int32 × mj_M)} (h : md_known v1 m = some r) : mj_Ex false (mj_sh Ls) (mj_rf tp ip) Z d 263 [.ref 68, .int v1] (110, x) m (some (.int r.1)) (110, x) r.2 := by
  exact mj_Ex_of (cd := mj_cd_263) (L := [some (.ref 68), some (.int v1)]) (by omega) (by decide) rfl (Nat.le_of_ble_eq_true rfl) rfl (fun P hC => md_known_p hC (by omega) h ⟨rfl, rfl, rfl⟩)
def md_knownBy   (m : mj_M) : Int32 :=
  (if 0 ≤ (mj_I (m 68 72)) then (mj_I (m 68 72)) else
  (mj_I (m 68 71)))
set_option maxRecDepth 20000 in
theorem md_knownBy_p {Ls tp ip x d : Nat} {Z : mj_X} {R : Option Value → mj_G → mj_M → Prop} {P : mj_K → Prop} (hC : mj_cls false (mj_sh Ls) (mj_rf tp ip) mj_dv mj_cd_264 (mj_Ex false (mj_sh Ls) (mj_rf tp ip) Z d) R P) (hd : 0 ≤ d)  {m : mj_M} (hR : R (some (.int (md_knownBy m))) (110, x) m) : P (0, [some (.ref 68)], [], (110, x), m) := by
  unfold md_knownBy at hR
  refine mj_gcp hC 3 ?_
  show P (mj_pick 14 7 (0 ≤ (mj_I (m 68 72))), [some (.ref 68)], [], (110, x), m)
  refine mj_pbr (fun c1 => ?_) (fun c1 => ?_)
  · rw [if_pos c1] at hR
    refine mj_gcp hC 2 ?_
    show P (18, [some (.ref 68)], [.int (mj_I (m 68 72))], (110, x), m)
    exact mj_pret hC rfl hR
  · rw [if_neg c1] at hR
    refine mj_gcp hC 3 ?_
    show P (18, [some (.ref 68)], [.int (mj_I (m 68 71))], (110, x), m)
    exact mj_pret hC rfl hR
set_option maxRecDepth 20000 in
theorem md_knownBy_x {Ls tp ip x d : Nat} {Z : mj_X} (hd : 1 ≤ d)  {m : mj_M}  : mj_Ex false (mj_sh Ls) (mj_rf tp ip) Z d 264 [.ref 68] (110, x) m (some (.int (md_knownBy m))) (110, x) m := by
  exact mj_Ex_of (cd := mj_cd_264) (L := [some (.ref 68)]) (by omega) (by decide) rfl (Nat.le_of_ble_eq_true rfl) rfl (fun P hC => md_knownBy_p hC (by omega) ⟨rfl, rfl, rfl⟩)
def md_isSo_j96l2   (v1 : Int32) (v2 : Int32)  (m : mj_M) : Option (Nat × Int32) :=
  some (0, (v2 + 1))
def md_isSo_j91l2   (v1 : Int32) (v2 : Int32) (s0 : Int32) (s1 : Int32) (m : mj_M) : Option (Nat × Int32) :=
  (if s0 = s1 then md_isSo_j96l2 v1 v2 m else
  some (1, v2))
def md_isSo_j70l2   (v1 : Int32) (v2 : Int32) (s0 : Int32) (m : mj_M) : Option (Nat × Int32) :=
  (if (((4 : Int32) * v2) + 3) < 0 ∨ 96 ≤ ((((4 : Int32) * v2) + 3) : Int32).toNatClampNeg then none else
  (if (mj_I (m 104 (((4 : Int32) * v2) + 3).toNatClampNeg)) = 1 then md_isSo_j91l2 v1 v2 s0 1 m else
  md_isSo_j91l2 v1 v2 s0 0 m))
def md_isSo_l2  (v1 : Int32) (m : mj_M) (s2 : Int32) : Option (Nat × Int32) :=
  (if (md_knownBy m) ≤ s2 then some (2, s2) else
  (if s2 < 0 ∨ 24 ≤ (s2 : Int32).toNatClampNeg then none else
  (if (mj_I (m 105 s2.toNatClampNeg)) = 0 then md_isSo_j96l2 v1 s2 m else
  (if ((4 : Int32) * s2) < 0 ∨ 96 ≤ (((4 : Int32) * s2) : Int32).toNatClampNeg then none else
  (if (mj_I (m 104 ((4 : Int32) * s2).toNatClampNeg)) = v1 then (if (((4 : Int32) * s2) + 1) < 0 ∨ 96 ≤ ((((4 : Int32) * s2) + 1) : Int32).toNatClampNeg then none else
  (if ((8 : Int32) + (mj_I (m 104 (((4 : Int32) * s2) + 1).toNatClampNeg))) < 0 ∨ 16 ≤ (((8 : Int32) + (mj_I (m 104 (((4 : Int32) * s2) + 1).toNatClampNeg))) : Int32).toNatClampNeg then none else
  (if (((4 : Int32) * s2) + 2) < 0 ∨ 96 ≤ ((((4 : Int32) * s2) + 2) : Int32).toNatClampNeg then none else
  (if (mj_I (m 93 ((8 : Int32) + (mj_I (m 104 (((4 : Int32) * s2) + 1).toNatClampNeg))).toNatClampNeg)) < (mj_I (m 104 (((4 : Int32) * s2) + 2).toNatClampNeg)) then md_isSo_j70l2 v1 s2 0 m else
  md_isSo_j70l2 v1 s2 1 m)))) else
  md_isSo_j96l2 v1 s2 m)))))
def md_isSo  (v1 : Int32) (m : mj_M) : Option Int32 :=
  (mj_loop (md_isSo_l2 v1 m) mj_F 0).bind fun q13 =>
  (if q13.1 = 0 then some 0 else some 1)
set_option maxRecDepth 20000 in
theorem md_isSo_j96l2_x {Ls tp ip x d : Nat} {Z : mj_X} {R : Option Value → mj_G → mj_M → Prop} {P : mj_K → Prop} (hC : mj_cls false (mj_sh Ls) (mj_rf tp ip) mj_dv mj_cd_265 (mj_Ex false (mj_sh Ls) (mj_rf tp ip) Z d) R P) (hd : 1 ≤ d)  {v1 : Int32} {v2 : Int32}  {m : mj_M} {t : Nat} {w : Int32} (h : md_isSo_j96l2  v1 v2 m = some (t, w)) (h0 : t = 0 → P (2, [some (.ref 68), some (.int v1), some (.int w), none], [], (110, x), m)) (h1 : t = 1 → P (94, [none, none, none, none], [], (110, x), m)) (h2 : t = 2 → P (102, [none, none, none, none], [], (110, x), m)) : P (96, [some (.ref 68), some (.int v1), some (.int v2), none], [], (110, x), m) := by
  unfold md_isSo_j96l2 at h
  refine mj_gcp hC 2 ?_
  show P (2, [some (.ref 68), some (.int v1), some (.int (v2 + 1)), none], [], (110, x), m)
  cases h
  exact mj_less hC (L0 := [some (.ref 68), some (.int v1), some (.int (v2 + 1)), none]) (And.intro rfl (And.intro rfl (And.intro rfl trivial))) (h0 rfl)
set_option maxRecDepth 20000 in
theorem md_isSo_j91l2_x {Ls tp ip x d : Nat} {Z : mj_X} {R : Option Value → mj_G → mj_M → Prop} {P : mj_K → Prop} (hC : mj_cls false (mj_sh Ls) (mj_rf tp ip) mj_dv mj_cd_265 (mj_Ex false (mj_sh Ls) (mj_rf tp ip) Z d) R P) (hd : 1 ≤ d)  {v1 : Int32} {v2 : Int32} {s0 : Int32} {s1 : Int32} {m : mj_M} {t : Nat} {w : Int32} (h : md_isSo_j91l2  v1 v2 s0 s1 m = some (t, w)) (h0 : t = 0 → P (2, [some (.ref 68), some (.int v1), some (.int w), none], [], (110, x), m)) (h1 : t = 1 → P (94, [none, none, none, none], [], (110, x), m)) (h2 : t = 2 → P (102, [none, none, none, none], [], (110, x), m)) : P (91, [some (.ref 68), some (.int v1), some (.int v2), none], [.int s1, .int s0], (110, x), m) := by
  unfold md_isSo_j91l2 at h
  refine mj_gcp hC 1 ?_
  show P (mj_pick 96 94 (s0 = s1), [some (.ref 68), some (.int v1), some (.int v2), none], [], (110, x), m)
  refine mj_pbr (fun c12 => ?_) (fun c12 => ?_)
  · rw [if_pos c12] at h
    exact mj_less hC (L0 := [some (.ref 68), some (.int v1), some (.int v2), none]) (And.intro rfl (And.intro rfl (And.intro rfl trivial))) (md_isSo_j96l2_x hC hd h h0 h1 h2)
  · rw [if_neg c12] at h
    cases h
    exact mj_less hC (L0 := [none, none, none, none]) trivial (h1 rfl)
set_option maxRecDepth 20000 in
theorem md_isSo_j70l2_x {Ls tp ip x d : Nat} {Z : mj_X} {R : Option Value → mj_G → mj_M → Prop} {P : mj_K → Prop} (hC : mj_cls false (mj_sh Ls) (mj_rf tp ip) mj_dv mj_cd_265 (mj_Ex false (mj_sh Ls) (mj_rf tp ip) Z d) R P) (hd : 1 ≤ d)  {v1 : Int32} {v2 : Int32} {s0 : Int32} {m : mj_M} {t : Nat} {w : Int32} (h : md_isSo_j70l2  v1 v2 s0 m = some (t, w)) (h0 : t = 0 → P (2, [some (.ref 68), some (.int v1), some (.int w), none], [], (110, x), m)) (h1 : t = 1 → P (94, [none, none, none, none], [], (110, x), m)) (h2 : t = 2 → P (102, [none, none, none, none], [], (110, x), m)) : P (70, [some (.ref 68), some (.int v1), some (.int v2), none], [.int s0], (110, x), m) := by
  unfold md_isSo_j70l2 at h
  obtain ⟨k10, h⟩ := mj_ifn h
  refine mj_gcp hC 12 ?_
  show _ ∧ (P (mj_pick 86 90 ((mj_I (m 104 (((4 : Int32) * v2) + 3).toNatClampNeg)) = 1), [some (.ref 68), some (.int v1), some (.int v2), some (.int s0)], [.int s0], (110, x), m))
  refine And.intro k10 (?_)
  refine mj_pbr (fun c11 => ?_) (fun c11 => ?_)
  · rw [if_pos c11] at h
    refine mj_gcp hC 2 ?_
    show P (91, [some (.ref 68), some (.int v1), some (.int v2), some (.int s0)], [.int 1, .int s0], (110, x), m)
    exact mj_less hC (L0 := [some (.ref 68), some (.int v1), some (.int v2), none]) (And.intro rfl (And.intro rfl (And.intro rfl trivial))) (md_isSo_j91l2_x hC hd h h0 h1 h2)
  · rw [if_neg c11] at h
    refine mj_gcp hC 1 ?_
    show P (91, [some (.ref 68), some (.int v1), some (.int v2), some (.int s0)], [.int 0, .int s0], (110, x), m)
    exact mj_less hC (L0 := [some (.ref 68), some (.int v1), some (.int v2), none]) (And.intro rfl (And.intro rfl (And.intro rfl trivial))) (md_isSo_j91l2_x hC hd h h0 h1 h2)
set_option maxRecDepth 20000 in
theorem md_isSo_l2_x {Ls tp ip x d : Nat} {Z : mj_X} {R : Option Value → mj_G → mj_M → Prop} {P : mj_K → Prop} (hC : mj_cls false (mj_sh Ls) (mj_rf tp ip) mj_dv mj_cd_265 (mj_Ex false (mj_sh Ls) (mj_rf tp ip) Z d) R P) (hd : 1 ≤ d) {v1 : Int32} {m : mj_M} (s2 : Int32) {t : Nat} {w : Int32} (h : md_isSo_l2 v1 m s2 = some (t, w)) (h0 : t = 0 → P (2, [some (.ref 68), some (.int v1), some (.int w), none], [], (110, x), m)) (h1 : t = 1 → P (94, [none, none, none, none], [], (110, x), m)) (h2 : t = 2 → P (102, [none, none, none, none], [], (110, x), m)) : P (2, [some (.ref 68), some (.int v1), some (.int s2), none], [], (110, x), m) := by
  unfold md_isSo_l2 at h
  refine mj_gcp hC 2 ?_
  show P (4, [some (.ref 68), some (.int v1), some (.int s2), none], [.ref 68, .int s2], (110, x), m)
  refine mj_pcall hC rfl (md_knownBy_x (Nat.le_trans (by decide) hd)) ?_
  show P (7, [some (.ref 68), some (.int v1), some (.int s2), none], [.int (md_knownBy m), .int s2], (110, x), m)
  refine mj_gcp hC 1 ?_
  show P (mj_pick 102 10 ((md_knownBy m) ≤ s2), [some (.ref 68), some (.int v1), some (.int s2), none], [], (110, x), m)
  refine mj_pbr (fun c1 => ?_) (fun c1 => ?_)
  · rw [if_pos c1] at h
    cases h
    exact mj_less hC (L0 := [none, none, none, none]) trivial (h2 rfl)
  · rw [if_neg c1] at h
    obtain ⟨k2, h⟩ := mj_ifn h
    refine mj_gcp hC 5 ?_
    show _ ∧ (P (mj_pick 96 19 ((mj_I (m 105 s2.toNatClampNeg)) = 0), [some (.ref 68), some (.int v1), some (.int s2), none], [], (110, x), m))
    refine And.intro k2 (?_)
    refine mj_pbr (fun c3 => ?_) (fun c3 => ?_)
    · rw [if_pos c3] at h
      exact mj_less hC (L0 := [some (.ref 68), some (.int v1), some (.int s2), none]) (And.intro rfl (And.intro rfl (And.intro rfl trivial))) (md_isSo_j96l2_x hC hd h h0 h1 h2)
    · rw [if_neg c3] at h
      obtain ⟨k4, h⟩ := mj_ifn h
      refine mj_gcp hC 8 ?_
      show _ ∧ (P (mj_pick 34 31 ((mj_I (m 104 ((4 : Int32) * s2).toNatClampNeg)) = v1), [some (.ref 68), some (.int v1), some (.int s2), none], [], (110, x), m))
      refine And.intro k4 (?_)
      refine mj_pbr (fun c5 => ?_) (fun c5 => ?_)
      · rw [if_pos c5] at h
        obtain ⟨k6, h⟩ := mj_ifn h
        obtain ⟨k7, h⟩ := mj_ifn h
        obtain ⟨k8, h⟩ := mj_ifn h
        refine mj_gcp hC 22 ?_
        show _ ∧ (_ ∧ (_ ∧ (P (mj_pick 69 65 ((mj_I (m 93 ((8 : Int32) + (mj_I (m 104 (((4 : Int32) * s2) + 1).toNatClampNeg))).toNatClampNeg)) < (mj_I (m 104 (((4 : Int32) * s2) + 2).toNatClampNeg))), [some (.ref 68), some (.int v1), some (.int s2), none], [], (110, x), m))))
        refine And.intro k6 (And.intro k7 (And.intro k8 (?_)))
        refine mj_pbr (fun c9 => ?_) (fun c9 => ?_)
        · rw [if_pos c9] at h
          refine mj_gcp hC 1 ?_
          show P (70, [some (.ref 68), some (.int v1), some (.int s2), none], [.int 0], (110, x), m)
          exact mj_less hC (L0 := [some (.ref 68), some (.int v1), some (.int s2), none]) (And.intro rfl (And.intro rfl (And.intro rfl trivial))) (md_isSo_j70l2_x hC hd h h0 h1 h2)
        · rw [if_neg c9] at h
          refine mj_gcp hC 2 ?_
          show P (70, [some (.ref 68), some (.int v1), some (.int s2), none], [.int 1], (110, x), m)
          exact mj_less hC (L0 := [some (.ref 68), some (.int v1), some (.int s2), none]) (And.intro rfl (And.intro rfl (And.intro rfl trivial))) (md_isSo_j70l2_x hC hd h h0 h1 h2)
      · rw [if_neg c5] at h
        refine mj_gcp hC 1 ?_
        show P (96, [some (.ref 68), some (.int v1), some (.int s2), none], [], (110, x), m)
        exact mj_less hC (L0 := [some (.ref 68), some (.int v1), some (.int s2), none]) (And.intro rfl (And.intro rfl (And.intro rfl trivial))) (md_isSo_j96l2_x hC hd h h0 h1 h2)
set_option maxRecDepth 20000 in
theorem md_isSo_p {Ls tp ip x d : Nat} {Z : mj_X} {R : Option Value → mj_G → mj_M → Prop} {P : mj_K → Prop} (hC : mj_cls false (mj_sh Ls) (mj_rf tp ip) mj_dv mj_cd_265 (mj_Ex false (mj_sh Ls) (mj_rf tp ip) Z d) R P) (hd : 1 ≤ d) {v1 : Int32} {m : mj_M} {r : Int32} (h : md_isSo v1 m = some r) (hR : R (some (.int r)) (110, x) m) : P (0, [some (.ref 68), some (.int v1), none, none], [], (110, x), m) := by
  unfold md_isSo at h
  refine mj_gcp hC 2 ?_
  show P (2, [some (.ref 68), some (.int v1), some (.int 0), none], [], (110, x), m)
  obtain ⟨q13, eq13, h⟩ := mj_bnd h
  refine mj_less hC (L0 := [some (.ref 68), some (.int v1), some (.int 0), none]) (And.intro rfl (And.intro rfl (And.intro rfl trivial))) ?_
  refine mj_loop_P (A := fun z2 => P (2, [some (.ref 68), some (.int v1), some (.int z2), none], [], (110, x), m)) (E := fun j z2 => (j = 0 → P (94, [none, none, none, none], [], (110, x), m)) ∧ (¬ j = 0 → P (102, [none, none, none, none], [], (110, x), m))) (fun zz t w hb h0 h1 => md_isSo_l2_x hC hd zz hb h0 (fun ht => (h1 0 ht).1 rfl) (fun ht => (h1 1 ht).2 (by decide))) mj_F _ q13 eq13 ⟨fun hj => ?_, fun hj => ?_⟩
  · rw [if_pos hj] at h
    refine mj_gcp hC 1 ?_
    show P (95, [none, none, none, none], [.int 0], (110, x), m)
    cases h
    exact mj_pret hC rfl hR
  · rw [if_neg hj] at h
    refine mj_gcp hC 1 ?_
    show P (103, [none, none, none, none], [.int 1], (110, x), m)
    cases h
    exact mj_pret hC rfl hR
set_option maxRecDepth 20000 in
theorem md_isSo_x {Ls tp ip x d : Nat} {Z : mj_X} (hd : 2 ≤ d) {v1 : Int32} {m : mj_M} {r : Int32} (h : md_isSo v1 m = some r) : mj_Ex false (mj_sh Ls) (mj_rf tp ip) Z d 265 [.ref 68, .int v1] (110, x) m (some (.int r)) (110, x) m := by
  exact mj_Ex_of (cd := mj_cd_265) (L := [some (.ref 68), some (.int v1), none, none]) (by omega) (by decide) rfl (Nat.le_of_ble_eq_true rfl) rfl (fun P hC => md_isSo_p hC (by omega) h ⟨rfl, rfl, rfl⟩)
def md_fits_l18   (s18 : (Int32 × mj_M)) : Option (Nat × (Int32 × mj_M)) :=
  (if 40 < s18.1 then some (2, (s18.1, s18.2)) else
  (md_hourGoes 1 s18.2).bind fun q4 =>
  (md_isSo s18.1 q4).bind fun q5 =>
  (if q5 = 0 then some (1, (s18.1, q4)) else
  some (0, ((s18.1 + 1), q4))))
def md_fits  (v1 : Int32) (m : mj_M) : Option (Int32 × mj_M) :=
  (md_atFirst 1 m).bind fun q1 =>
  (md_plainTried q1).bind fun q2 =>
  (mj_loop (md_fits_l18) mj_F (1, (mj_up q2 99 (1 : Int32).toNatClampNeg (.int v1)))).bind fun q7 =>
  (if q7.1 = 0 then some (0, q7.2.2) else some (1, q7.2.2))
set_option maxRecDepth 20000 in
theorem md_fits_l18_x {Ls tp ip x d : Nat} {Z : mj_X} {R : Option Value → mj_G → mj_M → Prop} {P : mj_K → Prop} (hC : mj_cls false (mj_sh Ls) (mj_rf tp ip) mj_dv mj_cd_266 (mj_Ex false (mj_sh Ls) (mj_rf tp ip) Z d) R P) (hd : 7 ≤ d)  (s18 : (Int32 × mj_M)) {t : Nat} {w : (Int32 × mj_M)} (h : md_fits_l18 s18 = some (t, w)) (h0 : t = 0 → P (18, [some (.ref 68), none, some (.int w.1)], [], (110, x), w.2)) (h1 : t = 1 → P (37, [none, none, none], [], (110, x), w.2)) (h2 : t = 2 → P (45, [none, none, none], [], (110, x), w.2)) : P (18, [some (.ref 68), none, some (.int s18.1)], [], (110, x), s18.2) := by
  unfold md_fits_l18 at h
  refine mj_gcp hC 3 ?_
  show P (mj_pick 45 24 (40 < s18.1), [some (.ref 68), none, some (.int s18.1)], [], (110, x), s18.2)
  refine mj_pbr (fun c3 => ?_) (fun c3 => ?_)
  · rw [if_pos c3] at h
    cases h
    exact mj_less hC (L0 := [none, none, none]) trivial (h2 rfl)
  · rw [if_neg c3] at h
    refine mj_gcp hC 2 ?_
    show P (26, [some (.ref 68), none, some (.int s18.1)], [.int 1, .ref 68], (110, x), s18.2)
    obtain ⟨q4, eq4, h⟩ := mj_bnd h
    refine mj_pcall hC rfl (md_hourGoes_x (Nat.le_trans (by decide) hd) eq4) ?_
    show P (29, [some (.ref 68), none, some (.int s18.1)], [], (110, x), q4)
    refine mj_gcp hC 2 ?_
    show P (31, [some (.ref 68), none, some (.int s18.1)], [.int s18.1, .ref 68], (110, x), q4)
    obtain ⟨q5, eq5, h⟩ := mj_bnd h
    refine mj_pcall hC rfl (md_isSo_x (Nat.le_trans (by decide) hd) eq5) ?_
    show P (34, [some (.ref 68), none, some (.int s18.1)], [.int q5], (110, x), q4)
    refine mj_gcp hC 1 ?_
    show P (mj_pick 37 39 (q5 = 0), [some (.ref 68), none, some (.int s18.1)], [], (110, x), q4)
    refine mj_pbr (fun c6 => ?_) (fun c6 => ?_)
    · rw [if_pos c6] at h
      cases h
      exact mj_less hC (L0 := [none, none, none]) trivial (h1 rfl)
    · rw [if_neg c6] at h
      refine mj_gcp hC 2 ?_
      show P (18, [some (.ref 68), none, some (.int (s18.1 + 1))], [], (110, x), q4)
      cases h
      exact mj_less hC (L0 := [some (.ref 68), none, some (.int (s18.1 + 1))]) (And.intro rfl (And.intro rfl trivial)) (h0 rfl)
set_option maxRecDepth 20000 in
theorem md_fits_p {Ls tp ip x d : Nat} {Z : mj_X} {R : Option Value → mj_G → mj_M → Prop} {P : mj_K → Prop} (hC : mj_cls false (mj_sh Ls) (mj_rf tp ip) mj_dv mj_cd_266 (mj_Ex false (mj_sh Ls) (mj_rf tp ip) Z d) R P) (hd : 7 ≤ d) {v1 : Int32} {m : mj_M} {r : (Int32 × mj_M)} (h : md_fits v1 m = some r) (hR : R (some (.int r.1)) (110, x) r.2) : P (0, [some (.ref 68), some (.int v1), none], [], (110, x), m) := by
  unfold md_fits at h
  refine mj_gcp hC 2 ?_
  show P (2, [some (.ref 68), some (.int v1), none], [.int 1, .ref 68], (110, x), m)
  obtain ⟨q1, eq1, h⟩ := mj_bnd h
  refine mj_pcall hC rfl (md_atFirst_x (Nat.le_trans (by decide) hd) eq1) ?_
  show P (5, [some (.ref 68), some (.int v1), none], [], (110, x), q1)
  refine mj_gcp hC 1 ?_
  show P (6, [some (.ref 68), some (.int v1), none], [.ref 68], (110, x), q1)
  obtain ⟨q2, eq2, h⟩ := mj_bnd h
  refine mj_pcall hC rfl (md_plainTried_x (Nat.le_trans (by decide) hd) eq2) ?_
  show P (9, [some (.ref 68), some (.int v1), none], [], (110, x), q2)
  refine mj_gcp hC 7 ?_
  show _ ∧ (P (18, [some (.ref 68), some (.int v1), some (.int 1)], [], (110, x), (mj_up q2 99 (1 : Int32).toNatClampNeg (.int v1))))
  refine And.intro (show ¬ ((1 : Int32) < 0 ∨ 2 ≤ (1 : Int32).toNatClampNeg) by decide) (?_)
  obtain ⟨q7, eq7, h⟩ := mj_bnd h
  refine mj_less hC (L0 := [some (.ref 68), none, some (.int 1)]) (And.intro rfl (And.intro rfl trivial)) ?_
  refine mj_loop_P (A := fun z18 => P (18, [some (.ref 68), none, some (.int z18.1)], [], (110, x), z18.2)) (E := fun j z18 => (j = 0 → P (37, [none, none, none], [], (110, x), z18.2)) ∧ (¬ j = 0 → P (45, [none, none, none], [], (110, x), z18.2))) (fun zz t w hb h0 h1 => md_fits_l18_x hC hd zz hb h0 (fun ht => (h1 0 ht).1 rfl) (fun ht => (h1 1 ht).2 (by decide))) mj_F _ q7 eq7 ⟨fun hj => ?_, fun hj => ?_⟩
  · rw [if_pos hj] at h
    refine mj_gcp hC 1 ?_
    show P (38, [none, none, none], [.int 0], (110, x), q7.2.2)
    cases h
    exact mj_pret hC rfl hR
  · rw [if_neg hj] at h
    refine mj_gcp hC 1 ?_
    show P (46, [none, none, none], [.int 1], (110, x), q7.2.2)
    cases h
    exact mj_pret hC rfl hR
set_option maxRecDepth 20000 in
theorem md_fits_x {Ls tp ip x d : Nat} {Z : mj_X} (hd : 8 ≤ d) {v1 : Int32} {m : mj_M} {r : (Int32 × mj_M)} (h : md_fits v1 m = some r) : mj_Ex false (mj_sh Ls) (mj_rf tp ip) Z d 266 [.ref 68, .int v1] (110, x) m (some (.int r.1)) (110, x) r.2 := by
  exact mj_Ex_of (cd := mj_cd_266) (L := [some (.ref 68), some (.int v1), none]) (by omega) (by decide) rfl (Nat.le_of_ble_eq_true rfl) rfl (fun P hC => md_fits_p hC (by omega) h ⟨rfl, rfl, rfl⟩)
def md_shifts_l7   (s7 : (Int32 × mj_M)) : Option (Nat × (Int32 × mj_M)) :=
  (if (md_knownBy s7.2) ≤ s7.1 then some (1, (s7.1, s7.2)) else
  (if s7.1 < 0 ∨ 24 ≤ (s7.1 : Int32).toNatClampNeg then none else
  some (0, ((s7.1 + 1), (mj_up s7.2 105 s7.1.toNatClampNeg (.int (1 &&& 1)))))))
def md_shifts_j75l35   (v1 : Int32)  (m : mj_M) : Option (Nat × (Int32 × mj_M)) :=
  some (0, ((v1 + (-1)), m))
def md_shifts_l35   (s35 : (Int32 × mj_M)) : Option (Nat × (Int32 × mj_M)) :=
  (if s35.1 < 0 then some (1, (s35.1, s35.2)) else
  (if s35.1 < 0 ∨ 24 ≤ (s35.1 : Int32).toNatClampNeg then none else
  (if (mj_I (s35.2 105 s35.1.toNatClampNeg)) = 0 then md_shifts_j75l35 s35.1 s35.2 else
  (if ((4 : Int32) * s35.1) < 0 ∨ 96 ≤ (((4 : Int32) * s35.1) : Int32).toNatClampNeg then none else
  (if 0 ≤ (mj_I (s35.2 104 ((4 : Int32) * s35.1).toNatClampNeg)) then md_shifts_j75l35 s35.1 s35.2 else
  (if (((4 : Int32) * s35.1) + 1) < 0 ∨ 96 ≤ ((((4 : Int32) * s35.1) + 1) : Int32).toNatClampNeg then none else
  (if (mj_I (s35.2 104 (((4 : Int32) * s35.1) + 1).toNatClampNeg)) < 0 ∨ 24 ≤ ((mj_I (s35.2 104 (((4 : Int32) * s35.1) + 1).toNatClampNeg)) : Int32).toNatClampNeg then none else
  md_shifts_j75l35 s35.1 (mj_up s35.2 105 (mj_I (s35.2 104 (((4 : Int32) * s35.1) + 1).toNatClampNeg)).toNatClampNeg (.int (0 &&& 1))))))))))
def md_shifts_j109l85   (v2 : Int32) (s0 : Int32) (s1 : Int32) (m : mj_M) : Option (Nat × (Int32 × Int32 × mj_M)) :=
  some (0, ((s0 ||| s1), (v2 + 1), m))
def md_shifts_l85   (s85 : (Int32 × Int32 × mj_M)) : Option (Nat × (Int32 × Int32 × mj_M)) :=
  (if 10 ≤ s85.2.1 then some (1, (s85.1, s85.2.1, s85.2.2)) else
  (md_fits ((3 : Int32) * s85.2.1) s85.2.2).bind fun q13 =>
  (if q13.1 = 0 then md_shifts_j109l85 s85.2.1 s85.1 0 q13.2 else
  md_shifts_j109l85 s85.2.1 s85.1 ((1 : Int32) <<< (s85.2.1 &&& 31)) q13.2))
def md_shifts   (m : mj_M) : Option (Int32 × mj_M) :=
  (mj_loop (md_shifts_l7) mj_F (0, (mj_up m 68 2 (.int 0)))).bind fun q3 =>
  (mj_loop (md_shifts_l35) mj_F (((md_knownBy q3.2.2) - 1), q3.2.2)).bind fun q11 =>
  (mj_loop (md_shifts_l85) mj_F (0, 0, q11.2.2)).bind fun q15 =>
  some (q15.2.1, q15.2.2.2)
set_option maxRecDepth 20000 in
theorem md_shifts_l7_x {Ls tp ip x d : Nat} {Z : mj_X} {R : Option Value → mj_G → mj_M → Prop} {P : mj_K → Prop} (hC : mj_cls false (mj_sh Ls) (mj_rf tp ip) mj_dv mj_cd_267 (mj_Ex false (mj_sh Ls) (mj_rf tp ip) Z d) R P) (hd : 8 ≤ d)  (s7 : (Int32 × mj_M)) {t : Nat} {w : (Int32 × mj_M)} (h : md_shifts_l7 s7 = some (t, w)) (h0 : t = 0 → P (7, [some (.ref 68), some (.int w.1), none], [], (110, x), w.2)) (h1 : t = 1 → P (28, [some (.ref 68), none, none], [], (110, x), w.2)) : P (7, [some (.ref 68), some (.int s7.1), none], [], (110, x), s7.2) := by
  unfold md_shifts_l7 at h
  refine mj_gcp hC 2 ?_
  show P (9, [some (.ref 68), some (.int s7.1), none], [.ref 68, .int s7.1], (110, x), s7.2)
  refine mj_pcall hC rfl (md_knownBy_x (Nat.le_trans (by decide) hd)) ?_
  show P (12, [some (.ref 68), some (.int s7.1), none], [.int (md_knownBy s7.2), .int s7.1], (110, x), s7.2)
  refine mj_gcp hC 1 ?_
  show P (mj_pick 28 15 ((md_knownBy s7.2) ≤ s7.1), [some (.ref 68), some (.int s7.1), none], [], (110, x), s7.2)
  refine mj_pbr (fun c1 => ?_) (fun c1 => ?_)
  · rw [if_pos c1] at h
    cases h
    exact mj_less hC (L0 := [some (.ref 68), none, none]) (And.intro rfl trivial) (h1 rfl)
  · rw [if_neg c1] at h
    obtain ⟨k2, h⟩ := mj_ifn h
    refine mj_gcp hC 7 ?_
    show _ ∧ (P (7, [some (.ref 68), some (.int (s7.1 + 1)), none], [], (110, x), (mj_up s7.2 105 s7.1.toNatClampNeg (.int (1 &&& 1)))))
    refine And.intro k2 (?_)
    cases h
    exact mj_less hC (L0 := [some (.ref 68), some (.int (s7.1 + 1)), none]) (And.intro rfl (And.intro rfl trivial)) (h0 rfl)
set_option maxRecDepth 20000 in
theorem md_shifts_j75l35_x {Ls tp ip x d : Nat} {Z : mj_X} {R : Option Value → mj_G → mj_M → Prop} {P : mj_K → Prop} (hC : mj_cls false (mj_sh Ls) (mj_rf tp ip) mj_dv mj_cd_267 (mj_Ex false (mj_sh Ls) (mj_rf tp ip) Z d) R P) (hd : 8 ≤ d)  {v1 : Int32}  {m : mj_M} {t : Nat} {w : (Int32 × mj_M)} (h : md_shifts_j75l35  v1 m = some (t, w)) (h0 : t = 0 → P (35, [some (.ref 68), some (.int w.1), none], [], (110, x), w.2)) (h1 : t = 1 → P (81, [some (.ref 68), none, none], [], (110, x), w.2)) : P (75, [some (.ref 68), some (.int v1), none], [], (110, x), m) := by
  unfold md_shifts_j75l35 at h
  refine mj_gcp hC 2 ?_
  show P (35, [some (.ref 68), some (.int (v1 + (-1))), none], [], (110, x), m)
  generalize (v1 + (-1)) = nz0 at h ⊢
  cases h
  exact mj_less hC (L0 := [some (.ref 68), some (.int nz0), none]) (And.intro rfl (And.intro rfl trivial)) (h0 rfl)
set_option maxRecDepth 20000 in
theorem md_shifts_l35_x {Ls tp ip x d : Nat} {Z : mj_X} {R : Option Value → mj_G → mj_M → Prop} {P : mj_K → Prop} (hC : mj_cls false (mj_sh Ls) (mj_rf tp ip) mj_dv mj_cd_267 (mj_Ex false (mj_sh Ls) (mj_rf tp ip) Z d) R P) (hd : 8 ≤ d)  (s35 : (Int32 × mj_M)) {t : Nat} {w : (Int32 × mj_M)} (h : md_shifts_l35 s35 = some (t, w)) (h0 : t = 0 → P (35, [some (.ref 68), some (.int w.1), none], [], (110, x), w.2)) (h1 : t = 1 → P (81, [some (.ref 68), none, none], [], (110, x), w.2)) : P (35, [some (.ref 68), some (.int s35.1), none], [], (110, x), s35.2) := by
  unfold md_shifts_l35 at h
  refine mj_gcp hC 2 ?_
  show P (mj_pick 81 39 (s35.1 < 0), [some (.ref 68), some (.int s35.1), none], [], (110, x), s35.2)
  refine mj_pbr (fun c4 => ?_) (fun c4 => ?_)
  · rw [if_pos c4] at h
    cases h
    exact mj_less hC (L0 := [some (.ref 68), none, none]) (And.intro rfl trivial) (h1 rfl)
  · rw [if_neg c4] at h
    obtain ⟨k5, h⟩ := mj_ifn h
    refine mj_gcp hC 5 ?_
    show _ ∧ (P (mj_pick 75 48 ((mj_I (s35.2 105 s35.1.toNatClampNeg)) = 0), [some (.ref 68), some (.int s35.1), none], [], (110, x), s35.2))
    refine And.intro k5 (?_)
    refine mj_pbr (fun c6 => ?_) (fun c6 => ?_)
    · rw [if_pos c6] at h
      exact mj_less hC (L0 := [some (.ref 68), some (.int s35.1), none]) (And.intro rfl (And.intro rfl trivial)) (md_shifts_j75l35_x hC hd h h0 h1)
    · rw [if_neg c6] at h
      obtain ⟨k7, h⟩ := mj_ifn h
      refine mj_gcp hC 7 ?_
      show _ ∧ (P (mj_pick 75 59 (0 ≤ (mj_I (s35.2 104 ((4 : Int32) * s35.1).toNatClampNeg))), [some (.ref 68), some (.int s35.1), none], [], (110, x), s35.2))
      refine And.intro k7 (?_)
      refine mj_pbr (fun c8 => ?_) (fun c8 => ?_)
      · rw [if_pos c8] at h
        exact mj_less hC (L0 := [some (.ref 68), some (.int s35.1), none]) (And.intro rfl (And.intro rfl trivial)) (md_shifts_j75l35_x hC hd h h0 h1)
      · rw [if_neg c8] at h
        obtain ⟨k9, h⟩ := mj_ifn h
        obtain ⟨k10, h⟩ := mj_ifn h
        refine mj_gcp hC 12 ?_
        show _ ∧ (_ ∧ (P (75, [some (.ref 68), some (.int s35.1), none], [], (110, x), (mj_up s35.2 105 (mj_I (s35.2 104 (((4 : Int32) * s35.1) + 1).toNatClampNeg)).toNatClampNeg (.int (0 &&& 1))))))
        refine And.intro k9 (And.intro k10 (?_))
        exact mj_less hC (L0 := [some (.ref 68), some (.int s35.1), none]) (And.intro rfl (And.intro rfl trivial)) (md_shifts_j75l35_x hC hd h h0 h1)
set_option maxRecDepth 20000 in
theorem md_shifts_j109l85_x {Ls tp ip x d : Nat} {Z : mj_X} {R : Option Value → mj_G → mj_M → Prop} {P : mj_K → Prop} (hC : mj_cls false (mj_sh Ls) (mj_rf tp ip) mj_dv mj_cd_267 (mj_Ex false (mj_sh Ls) (mj_rf tp ip) Z d) R P) (hd : 8 ≤ d)  {v2 : Int32} {s0 : Int32} {s1 : Int32} {m : mj_M} {t : Nat} {w : (Int32 × Int32 × mj_M)} (h : md_shifts_j109l85  v2 s0 s1 m = some (t, w)) (h0 : t = 0 → P (85, [some (.ref 68), some (.int w.1), some (.int w.2.1)], [], (110, x), w.2.2)) (h1 : t = 1 → P (117, [none, some (.int w.1), none], [], (110, x), w.2.2)) : P (109, [some (.ref 68), none, some (.int v2)], [.int s1, .int s0], (110, x), m) := by
  unfold md_shifts_j109l85 at h
  refine mj_gcp hC 4 ?_
  show P (85, [some (.ref 68), some (.int (s0 ||| s1)), some (.int (v2 + 1))], [], (110, x), m)
  cases h
  exact mj_less hC (L0 := [some (.ref 68), some (.int (s0 ||| s1)), some (.int (v2 + 1))]) (And.intro rfl (And.intro rfl (And.intro rfl trivial))) (h0 rfl)
set_option maxRecDepth 20000 in
theorem md_shifts_l85_x {Ls tp ip x d : Nat} {Z : mj_X} {R : Option Value → mj_G → mj_M → Prop} {P : mj_K → Prop} (hC : mj_cls false (mj_sh Ls) (mj_rf tp ip) mj_dv mj_cd_267 (mj_Ex false (mj_sh Ls) (mj_rf tp ip) Z d) R P) (hd : 8 ≤ d)  (s85 : (Int32 × Int32 × mj_M)) {t : Nat} {w : (Int32 × Int32 × mj_M)} (h : md_shifts_l85 s85 = some (t, w)) (h0 : t = 0 → P (85, [some (.ref 68), some (.int w.1), some (.int w.2.1)], [], (110, x), w.2.2)) (h1 : t = 1 → P (117, [none, some (.int w.1), none], [], (110, x), w.2.2)) : P (85, [some (.ref 68), some (.int s85.1), some (.int s85.2.1)], [], (110, x), s85.2.2) := by
  unfold md_shifts_l85 at h
  refine mj_gcp hC 3 ?_
  show P (mj_pick 117 91 (10 ≤ s85.2.1), [some (.ref 68), some (.int s85.1), some (.int s85.2.1)], [], (110, x), s85.2.2)
  refine mj_pbr (fun c12 => ?_) (fun c12 => ?_)
  · rw [if_pos c12] at h
    cases h
    exact mj_less hC (L0 := [none, some (.int s85.1), none]) (And.intro rfl trivial) (h1 rfl)
  · rw [if_neg c12] at h
    refine mj_gcp hC 5 ?_
    show P (96, [some (.ref 68), some (.int s85.1), some (.int s85.2.1)], [.int ((3 : Int32) * s85.2.1), .ref 68, .int s85.1], (110, x), s85.2.2)
    obtain ⟨q13, eq13, h⟩ := mj_bnd h
    refine mj_pcall hC rfl (md_fits_x (Nat.le_trans (by decide) hd) eq13) ?_
    show P (99, [some (.ref 68), some (.int s85.1), some (.int s85.2.1)], [.int q13.1, .int s85.1], (110, x), q13.2)
    refine mj_gcp hC 1 ?_
    show P (mj_pick 108 102 (q13.1 = 0), [some (.ref 68), some (.int s85.1), some (.int s85.2.1)], [.int s85.1], (110, x), q13.2)
    refine mj_pbr (fun c14 => ?_) (fun c14 => ?_)
    · rw [if_pos c14] at h
      refine mj_gcp hC 1 ?_
      show P (109, [some (.ref 68), some (.int s85.1), some (.int s85.2.1)], [.int 0, .int s85.1], (110, x), q13.2)
      exact mj_less hC (L0 := [some (.ref 68), none, some (.int s85.2.1)]) (And.intro rfl (And.intro rfl trivial)) (md_shifts_j109l85_x hC hd h h0 h1)
    · rw [if_neg c14] at h
      refine mj_gcp hC 4 ?_
      show P (109, [some (.ref 68), some (.int s85.1), some (.int s85.2.1)], [.int ((1 : Int32) <<< (s85.2.1 &&& 31)), .int s85.1], (110, x), q13.2)
      exact mj_less hC (L0 := [some (.ref 68), none, some (.int s85.2.1)]) (And.intro rfl (And.intro rfl trivial)) (md_shifts_j109l85_x hC hd h h0 h1)
set_option maxRecDepth 20000 in
theorem md_shifts_p {Ls tp ip x d : Nat} {Z : mj_X} {R : Option Value → mj_G → mj_M → Prop} {P : mj_K → Prop} (hC : mj_cls false (mj_sh Ls) (mj_rf tp ip) mj_dv mj_cd_267 (mj_Ex false (mj_sh Ls) (mj_rf tp ip) Z d) R P) (hd : 8 ≤ d)  {m : mj_M} {r : (Int32 × mj_M)} (h : md_shifts m = some r) (hR : R (some (.int r.1)) (110, x) r.2) : P (0, [some (.ref 68), none, none], [], (110, x), m) := by
  unfold md_shifts at h
  refine mj_gcp hC 5 ?_
  show P (7, [some (.ref 68), some (.int 0), none], [], (110, x), (mj_up m 68 2 (.int 0)))
  obtain ⟨q3, eq3, h⟩ := mj_bnd h
  refine mj_less hC (L0 := [some (.ref 68), some (.int 0), none]) (And.intro rfl (And.intro rfl trivial)) ?_
  refine mj_loop_P (A := fun z7 => P (7, [some (.ref 68), some (.int z7.1), none], [], (110, x), z7.2)) (E := fun _ z7 => P (28, [some (.ref 68), none, none], [], (110, x), z7.2)) (fun zz t w hb h0 h1 => md_shifts_l7_x hC hd zz hb h0 (fun ht => h1 0 ht)) mj_F _ q3 eq3 ?_
  refine mj_gcp hC 1 ?_
  show P (29, [some (.ref 68), none, none], [.ref 68], (110, x), q3.2.2)
  refine mj_pcall hC rfl (md_knownBy_x (Nat.le_trans (by decide) hd)) ?_
  show P (32, [some (.ref 68), none, none], [.int (md_knownBy q3.2.2)], (110, x), q3.2.2)
  refine mj_gcp hC 3 ?_
  show P (35, [some (.ref 68), some (.int ((md_knownBy q3.2.2) - 1)), none], [], (110, x), q3.2.2)
  obtain ⟨q11, eq11, h⟩ := mj_bnd h
  refine mj_less hC (L0 := [some (.ref 68), some (.int ((md_knownBy q3.2.2) - 1)), none]) (And.intro rfl (And.intro rfl trivial)) ?_
  refine mj_loop_P (A := fun z35 => P (35, [some (.ref 68), some (.int z35.1), none], [], (110, x), z35.2)) (E := fun _ z35 => P (81, [some (.ref 68), none, none], [], (110, x), z35.2)) (fun zz t w hb h0 h1 => md_shifts_l35_x hC hd zz hb h0 (fun ht => h1 0 ht)) mj_F _ q11 eq11 ?_
  refine mj_gcp hC 4 ?_
  show P (85, [some (.ref 68), some (.int 0), some (.int 0)], [], (110, x), q11.2.2)
  obtain ⟨q15, eq15, h⟩ := mj_bnd h
  refine mj_less hC (L0 := [some (.ref 68), some (.int 0), some (.int 0)]) (And.intro rfl (And.intro rfl (And.intro rfl trivial))) ?_
  refine mj_loop_P (A := fun z85 => P (85, [some (.ref 68), some (.int z85.1), some (.int z85.2.1)], [], (110, x), z85.2.2)) (E := fun _ z85 => P (117, [none, some (.int z85.1), none], [], (110, x), z85.2.2)) (fun zz t w hb h0 h1 => md_shifts_l85_x hC hd zz hb h0 (fun ht => h1 0 ht)) mj_F _ q15 eq15 ?_
  refine mj_gcp hC 1 ?_
  show P (118, [none, some (.int q15.2.1), none], [.int q15.2.1], (110, x), q15.2.2.2)
  cases h
  exact mj_pret hC rfl hR
set_option maxRecDepth 20000 in
theorem md_shifts_x {Ls tp ip x d : Nat} {Z : mj_X} (hd : 9 ≤ d)  {m : mj_M} {r : (Int32 × mj_M)} (h : md_shifts m = some r) : mj_Ex false (mj_sh Ls) (mj_rf tp ip) Z d 267 [.ref 68] (110, x) m (some (.int r.1)) (110, x) r.2 := by
  exact mj_Ex_of (cd := mj_cd_267) (L := [some (.ref 68), none, none]) (by omega) (by decide) rfl (Nat.le_of_ble_eq_true rfl) rfl (fun P hC => md_shifts_p hC (by omega) h ⟨rfl, rfl, rfl⟩)
def md_chance_j87l47   (v2 : Int32) (v3 : Int32) (v4 : Int64) (v7 : Int32) (s0 : Int32) (s1 : Int32) (m : mj_M) : Option (Nat × (Int32 × Int32 × mj_M)) :=
  some (0, ((s0 + s1), (v7 + 1), m))
def md_chance_l47  (v2 : Int32) (v3 : Int32) (v4 : Int64) (s47 : (Int32 × Int32 × mj_M)) : Option (Nat × (Int32 × Int32 × mj_M)) :=
  (if 10 ≤ s47.2.1 then some (1, (s47.1, s47.2.1, s47.2.2)) else
  (md_layTried s47.2.2).bind fun q5 =>
  (md_goMany v2 (mj_up q5 68 63 (.int 1))).bind fun q6 =>
  (if ((8 : Int32) + v3) < 0 ∨ 16 ≤ (((8 : Int32) + v3) : Int32).toNatClampNeg then none else
  (if (mj_I (q6 93 ((8 : Int32) + v3).toNatClampNeg)) = 0 then md_chance_j87l47 v2 v3 v4 s47.2.1 s47.1 1 q6 else
  md_chance_j87l47 v2 v3 v4 s47.2.1 s47.1 0 q6)))
def md_chance  (v1 : Int32) (v2 : Int32) (v3 : Int32) (m : mj_M) : Option (Int32 × mj_M) :=
  (if v1 < 0 then some ((-1), (mj_up m 68 2 (.int 0))) else
  (if (md_isIn v2 1 99 (mj_up m 68 2 (.int 0))) = 0 then some ((-1), (mj_up m 68 2 (.int 0))) else
  (if (md_isWork v3 (mj_up m 68 2 (.int 0))) = 0 then some ((-1), (mj_up m 68 2 (.int 0))) else
  (mj_loop (md_chance_l47 v2 v3 (mj_J (m 68 60))) mj_F (0, 0, (mj_up (mj_up m 68 2 (.int 0)) 68 60 (.long (v1.toInt64))))).bind fun q9 =>
  some (q9.2.1, (mj_up (mj_up q9.2.2.2 68 63 (.int 0)) 68 60 (.long (mj_J (m 68 60))))))))
set_option maxRecDepth 20000 in
theorem md_chance_j87l47_x {Ls tp ip x d : Nat} {Z : mj_X} {R : Option Value → mj_G → mj_M → Prop} {P : mj_K → Prop} (hC : mj_cls false (mj_sh Ls) (mj_rf tp ip) mj_dv mj_cd_268 (mj_Ex false (mj_sh Ls) (mj_rf tp ip) Z d) R P) (hd : 8 ≤ d)  {v2 : Int32} {v3 : Int32} {v4 : Int64} {v7 : Int32} {s0 : Int32} {s1 : Int32} {m : mj_M} {t : Nat} {w : (Int32 × Int32 × mj_M)} (h : md_chance_j87l47  v2 v3 v4 v7 s0 s1 m = some (t, w)) (h0 : t = 0 → P (47, [some (.ref 68), none, some (.int v2), some (.int v3), some (.long v4), none, some (.int w.1), some (.int w.2.1)], [], (110, x), w.2.2)) (h1 : t = 1 → P (96, [some (.ref 68), none, none, none, some (.long v4), none, some (.int w.1), none], [], (110, x), w.2.2)) : P (87, [some (.ref 68), none, some (.int v2), some (.int v3), some (.long v4), none, none, some (.int v7)], [.int s1, .int s0], (110, x), m) := by
  unfold md_chance_j87l47 at h
  refine mj_gcp hC 4 ?_
  show P (47, [some (.ref 68), none, some (.int v2), some (.int v3), some (.long v4), none, some (.int (s0 + s1)), some (.int (v7 + 1))], [], (110, x), m)
  cases h
  exact mj_less hC (L0 := [some (.ref 68), none, some (.int v2), some (.int v3), some (.long v4), none, some (.int (s0 + s1)), some (.int (v7 + 1))]) (And.intro rfl (And.intro rfl (And.intro rfl (And.intro rfl (And.intro rfl (And.intro rfl trivial)))))) (h0 rfl)
set_option maxRecDepth 20000 in
theorem md_chance_l47_x {Ls tp ip x d : Nat} {Z : mj_X} {R : Option Value → mj_G → mj_M → Prop} {P : mj_K → Prop} (hC : mj_cls false (mj_sh Ls) (mj_rf tp ip) mj_dv mj_cd_268 (mj_Ex false (mj_sh Ls) (mj_rf tp ip) Z d) R P) (hd : 8 ≤ d) {v2 : Int32} {v3 : Int32} {v4 : Int64} (s47 : (Int32 × Int32 × mj_M)) {t : Nat} {w : (Int32 × Int32 × mj_M)} (h : md_chance_l47 v2 v3 v4 s47 = some (t, w)) (h0 : t = 0 → P (47, [some (.ref 68), none, some (.int v2), some (.int v3), some (.long v4), none, some (.int w.1), some (.int w.2.1)], [], (110, x), w.2.2)) (h1 : t = 1 → P (96, [some (.ref 68), none, none, none, some (.long v4), none, some (.int w.1), none], [], (110, x), w.2.2)) : P (47, [some (.ref 68), none, some (.int v2), some (.int v3), some (.long v4), none, some (.int s47.1), some (.int s47.2.1)], [], (110, x), s47.2.2) := by
  unfold md_chance_l47 at h
  refine mj_gcp hC 3 ?_
  show P (mj_pick 96 54 (10 ≤ s47.2.1), [some (.ref 68), none, some (.int v2), some (.int v3), some (.long v4), none, some (.int s47.1), some (.int s47.2.1)], [], (110, x), s47.2.2)
  refine mj_pbr (fun c4 => ?_) (fun c4 => ?_)
  · rw [if_pos c4] at h
    cases h
    exact mj_less hC (L0 := [some (.ref 68), none, none, none, some (.long v4), none, some (.int s47.1), none]) (And.intro rfl (And.intro rfl (And.intro rfl trivial))) (h1 rfl)
  · rw [if_neg c4] at h
    refine mj_gcp hC 1 ?_
    show P (55, [some (.ref 68), none, some (.int v2), some (.int v3), some (.long v4), none, some (.int s47.1), some (.int s47.2.1)], [.ref 68], (110, x), s47.2.2)
    obtain ⟨q5, eq5, h⟩ := mj_bnd h
    refine mj_pcall hC rfl (md_layTried_x (Nat.le_trans (by decide) hd) eq5) ?_
    show P (58, [some (.ref 68), none, some (.int v2), some (.int v3), some (.long v4), none, some (.int s47.1), some (.int s47.2.1)], [], (110, x), q5)
    refine mj_gcp hC 5 ?_
    show P (65, [some (.ref 68), none, some (.int v2), some (.int v3), some (.long v4), none, some (.int s47.1), some (.int s47.2.1)], [.int v2, .ref 68], (110, x), (mj_up q5 68 63 (.int 1)))
    obtain ⟨q6, eq6, h⟩ := mj_bnd h
    refine mj_pcall hC rfl (md_goMany_x (Nat.le_trans (by decide) hd) eq6) ?_
    show P (68, [some (.ref 68), none, some (.int v2), some (.int v3), some (.long v4), none, some (.int s47.1), some (.int s47.2.1)], [], (110, x), q6)
    obtain ⟨k7, h⟩ := mj_ifn h
    refine mj_gcp hC 8 ?_
    show _ ∧ (P (mj_pick 82 86 ((mj_I (q6 93 ((8 : Int32) + v3).toNatClampNeg)) = 0), [some (.ref 68), none, some (.int v2), some (.int v3), some (.long v4), none, some (.int s47.1), some (.int s47.2.1)], [.int s47.1], (110, x), q6))
    refine And.intro k7 (?_)
    refine mj_pbr (fun c8 => ?_) (fun c8 => ?_)
    · rw [if_pos c8] at h
      refine mj_gcp hC 2 ?_
      show P (87, [some (.ref 68), none, some (.int v2), some (.int v3), some (.long v4), none, some (.int s47.1), some (.int s47.2.1)], [.int 1, .int s47.1], (110, x), q6)
      exact mj_less hC (L0 := [some (.ref 68), none, some (.int v2), some (.int v3), some (.long v4), none, none, some (.int s47.2.1)]) (And.intro rfl (And.intro rfl (And.intro rfl (And.intro rfl (And.intro rfl trivial))))) (md_chance_j87l47_x hC hd h h0 h1)
    · rw [if_neg c8] at h
      refine mj_gcp hC 1 ?_
      show P (87, [some (.ref 68), none, some (.int v2), some (.int v3), some (.long v4), none, some (.int s47.1), some (.int s47.2.1)], [.int 0, .int s47.1], (110, x), q6)
      exact mj_less hC (L0 := [some (.ref 68), none, some (.int v2), some (.int v3), some (.long v4), none, none, some (.int s47.2.1)]) (And.intro rfl (And.intro rfl (And.intro rfl (And.intro rfl (And.intro rfl trivial))))) (md_chance_j87l47_x hC hd h h0 h1)
set_option maxRecDepth 20000 in
theorem md_chance_p {Ls tp ip x d : Nat} {Z : mj_X} {R : Option Value → mj_G → mj_M → Prop} {P : mj_K → Prop} (hC : mj_cls false (mj_sh Ls) (mj_rf tp ip) mj_dv mj_cd_268 (mj_Ex false (mj_sh Ls) (mj_rf tp ip) Z d) R P) (hd : 8 ≤ d) {v1 : Int32} {v2 : Int32} {v3 : Int32} {m : mj_M} {r : (Int32 × mj_M)} (h : md_chance v1 v2 v3 m = some r) (hR : R (some (.int r.1)) (110, x) r.2) : P (0, [some (.ref 68), some (.int v1), some (.int v2), some (.int v3), none, none, none, none], [], (110, x), m) := by
  unfold md_chance at h
  refine mj_gcp hC 5 ?_
  show P (mj_pick 27 9 (v1 < 0), [some (.ref 68), some (.int v1), some (.int v2), some (.int v3), none, none, none, none], [], (110, x), (mj_up m 68 2 (.int 0)))
  refine mj_pbr (fun c1 => ?_) (fun c1 => ?_)
  · rw [if_pos c1] at h
    refine mj_gcp hC 1 ?_
    show P (28, [some (.ref 68), some (.int v1), some (.int v2), some (.int v3), none, none, none, none], [.int (-1)], (110, x), (mj_up m 68 2 (.int 0)))
    cases h
    exact mj_pret hC rfl hR
  · rw [if_neg c1] at h
    refine mj_gcp hC 3 ?_
    show P (13, [some (.ref 68), some (.int v1), some (.int v2), some (.int v3), none, none, none, none], [.int 99, .int 1, .int v2], (110, x), (mj_up m 68 2 (.int 0)))
    refine mj_pcall hC rfl (md_isIn_x (Nat.le_trans (by decide) hd)) ?_
    show P (16, [some (.ref 68), some (.int v1), some (.int v2), some (.int v3), none, none, none, none], [.int (md_isIn v2 1 99 (mj_up m 68 2 (.int 0)))], (110, x), (mj_up m 68 2 (.int 0)))
    refine mj_gcp hC 1 ?_
    show P (mj_pick 27 19 ((md_isIn v2 1 99 (mj_up m 68 2 (.int 0))) = 0), [some (.ref 68), some (.int v1), some (.int v2), some (.int v3), none, none, none, none], [], (110, x), (mj_up m 68 2 (.int 0)))
    refine mj_pbr (fun c2 => ?_) (fun c2 => ?_)
    · rw [if_pos c2] at h
      refine mj_gcp hC 1 ?_
      show P (28, [some (.ref 68), some (.int v1), some (.int v2), some (.int v3), none, none, none, none], [.int (-1)], (110, x), (mj_up m 68 2 (.int 0)))
      cases h
      exact mj_pret hC rfl hR
    · rw [if_neg c2] at h
      refine mj_gcp hC 2 ?_
      show P (21, [some (.ref 68), some (.int v1), some (.int v2), some (.int v3), none, none, none, none], [.int v3, .ref 68], (110, x), (mj_up m 68 2 (.int 0)))
      refine mj_pcall hC rfl (md_isWork_x (Nat.le_trans (by decide) hd)) ?_
      show P (24, [some (.ref 68), some (.int v1), some (.int v2), some (.int v3), none, none, none, none], [.int (md_isWork v3 (mj_up m 68 2 (.int 0)))], (110, x), (mj_up m 68 2 (.int 0)))
      refine mj_gcp hC 1 ?_
      show P (mj_pick 27 29 ((md_isWork v3 (mj_up m 68 2 (.int 0))) = 0), [some (.ref 68), some (.int v1), some (.int v2), some (.int v3), none, none, none, none], [], (110, x), (mj_up m 68 2 (.int 0)))
      refine mj_pbr (fun c3 => ?_) (fun c3 => ?_)
      · rw [if_pos c3] at h
        refine mj_gcp hC 1 ?_
        show P (28, [some (.ref 68), some (.int v1), some (.int v2), some (.int v3), none, none, none, none], [.int (-1)], (110, x), (mj_up m 68 2 (.int 0)))
        cases h
        exact mj_pret hC rfl hR
      · rw [if_neg c3] at h
        refine mj_gcp hC 11 ?_
        show P (47, [some (.ref 68), some (.int v1), some (.int v2), some (.int v3), some (.long (mj_J (m 68 60))), none, some (.int 0), some (.int 0)], [], (110, x), (mj_up (mj_up m 68 2 (.int 0)) 68 60 (.long (v1.toInt64))))
        obtain ⟨q9, eq9, h⟩ := mj_bnd h
        refine mj_less hC (L0 := [some (.ref 68), none, some (.int v2), some (.int v3), some (.long (mj_J (m 68 60))), none, some (.int 0), some (.int 0)]) (And.intro rfl (And.intro rfl (And.intro rfl (And.intro rfl (And.intro rfl (And.intro rfl trivial)))))) ?_
        refine mj_loop_P (A := fun z47 => P (47, [some (.ref 68), none, some (.int v2), some (.int v3), some (.long (mj_J (m 68 60))), none, some (.int z47.1), some (.int z47.2.1)], [], (110, x), z47.2.2)) (E := fun _ z47 => P (96, [some (.ref 68), none, none, none, some (.long (mj_J (m 68 60))), none, some (.int z47.1), none], [], (110, x), z47.2.2)) (fun zz t w hb h0 h1 => md_chance_l47_x hC hd zz hb h0 (fun ht => h1 0 ht)) mj_F _ q9 eq9 ?_
        refine mj_gcp hC 7 ?_
        show P (109, [some (.ref 68), none, none, none, some (.long (mj_J (m 68 60))), none, some (.int q9.2.1), none], [.int q9.2.1], (110, x), (mj_up (mj_up q9.2.2.2 68 63 (.int 0)) 68 60 (.long (mj_J (m 68 60)))))
        cases h
        exact mj_pret hC rfl hR
set_option maxRecDepth 20000 in
theorem md_chance_x {Ls tp ip x d : Nat} {Z : mj_X} (hd : 9 ≤ d) {v1 : Int32} {v2 : Int32} {v3 : Int32} {m : mj_M} {r : (Int32 × mj_M)} (h : md_chance v1 v2 v3 m = some r) : mj_Ex false (mj_sh Ls) (mj_rf tp ip) Z d 268 [.ref 68, .int v1, .int v2, .int v3] (110, x) m (some (.int r.1)) (110, x) r.2 := by
  exact mj_Ex_of (cd := mj_cd_268) (L := [some (.ref 68), some (.int v1), some (.int v2), some (.int v3), none, none, none, none]) (by omega) (by decide) rfl (Nat.le_of_ble_eq_true rfl) rfl (fun P hC => md_chance_p hC (by omega) h ⟨rfl, rfl, rfl⟩)
def md_tried_j145  (v3 : Int32) (s1 : Int32) (s2 : Int32) (m : mj_M) : Option (Int32 × mj_M) :=
  (if s1 < 0 ∨ 2 ≤ (s1 : Int32).toNatClampNeg then none else
  (md_goMany v3 (mj_up m 99 s1.toNatClampNeg (.int s2))).bind fun q17 =>
  (md_plainTried q17).bind fun q18 =>
  (md_slipsAll 1 q18).bind fun q19 =>
  (md_slipsAll 0 q18).bind fun q20 =>
  some ((q19 - q20), q18))
def md_tried_j124  (v1 : Int32) (v3 : Int32) (s1 : Int32) (s2 : Int32) (m : mj_M) : Option (Int32 × mj_M) :=
  (if s1 < 0 ∨ 2 ≤ (s1 : Int32).toNatClampNeg then none else
  (if v1 = 4 then md_tried_j145 v3 1 0 (mj_up m 98 s1.toNatClampNeg (.int s2)) else
  md_tried_j145 v3 1 (mj_I (m 99 (1 : Int32).toNatClampNeg)) (mj_up m 98 s1.toNatClampNeg (.int s2))))
def md_tried_j102  (v1 : Int32) (v3 : Int32)  (m : mj_M) : Option (Int32 × mj_M) :=
  (if v1 = 3 then md_tried_j124 v1 v3 1 999 m else
  md_tried_j124 v1 v3 1 (mj_I (m 98 (1 : Int32).toNatClampNeg)) m)
def md_tried_j74  (v1 : Int32) (v2 : Int32) (v3 : Int32) (s1 : Int32) (m : mj_M) : Option (Int32 × mj_M) :=
  (if s1 = 0 ∨ s1 = 1 then
  (if v1 = 2 then (if ((6 : Int32) + v2) < 0 ∨ 12 ≤ (((6 : Int32) + v2) : Int32).toNatClampNeg then none else
  (if ((6 : Int32) + v2) < 0 ∨ 12 ≤ (((6 : Int32) + v2) : Int32).toNatClampNeg then none else
  md_tried_j102 v1 v3 (mj_up (mj_up (mj_up m 68 65 (.int s1)) 97 ((6 : Int32) + v2).toNatClampNeg (.int (0 &&& 1))) 96 ((6 : Int32) + v2).toNatClampNeg (.int 0)))) else
  md_tried_j102 v1 v3 (mj_up m 68 65 (.int s1))) else none)
def md_tried_j60  (v1 : Int32) (v2 : Int32) (v3 : Int32) (s1 : Int32) (m : mj_M) : Option (Int32 × mj_M) :=
  (if s1 = 0 ∨ s1 = 1 then
  (if v1 = 1 then md_tried_j74 v1 v2 v3 1 (mj_up m 68 64 (.int s1)) else
  md_tried_j74 v1 v2 v3 0 (mj_up m 68 64 (.int s1))) else none)
def md_tried_j46  (v1 : Int32) (v2 : Int32) (v3 : Int32)  (m : mj_M) : Option (Int32 × mj_M) :=
  (md_layTried m).bind fun q5 =>
  (if v1 = 0 then md_tried_j60 v1 v2 v3 1 q5 else
  md_tried_j60 v1 v2 v3 0 q5)
def md_tried  (v1 : Int32) (v2 : Int32) (v3 : Int32) (m : mj_M) : Option (Int32 × mj_M) :=
  (if (md_isIn v1 0 4 (mj_up m 68 2 (.int 0))) = 0 then some ((-1), (mj_up m 68 2 (.int 0))) else
  (if (md_isIn v3 0 99 (mj_up m 68 2 (.int 0))) = 0 then some ((-1), (mj_up m 68 2 (.int 0))) else
  (if v1 = 2 then (if (md_isMan v2 (mj_up m 68 2 (.int 0))) = 0 then some ((-1), (mj_up m 68 2 (.int 0))) else
  md_tried_j46 v1 v2 v3 (mj_up m 68 2 (.int 0))) else
  (if v2 = 0 then md_tried_j46 v1 v2 v3 (mj_up m 68 2 (.int 0)) else
  some ((-1), (mj_up m 68 2 (.int 0)))))))
set_option maxRecDepth 20000 in
theorem md_tried_j145_x {Ls tp ip x d : Nat} {Z : mj_X} {R : Option Value → mj_G → mj_M → Prop} {P : mj_K → Prop} (hC : mj_cls false (mj_sh Ls) (mj_rf tp ip) mj_dv mj_cd_269 (mj_Ex false (mj_sh Ls) (mj_rf tp ip) Z d) R P) (hd : 8 ≤ d) {v3 : Int32} {s1 : Int32} {s2 : Int32} {m : mj_M} {r : (Int32 × mj_M)} (h : md_tried_j145 v3 s1 s2 m = some r) (hR : R (some (.int r.1)) (110, x) r.2) : P (145, [some (.ref 68), none, none, some (.int v3)], [.int s2, .int s1, .ref 99], (110, x), m) := by
  unfold md_tried_j145 at h
  obtain ⟨k16, h⟩ := mj_ifn h
  refine mj_gcp hC 3 ?_
  show _ ∧ (P (148, [some (.ref 68), none, none, some (.int v3)], [.int v3, .ref 68], (110, x), (mj_up m 99 s1.toNatClampNeg (.int s2))))
  refine And.intro k16 (?_)
  obtain ⟨q17, eq17, h⟩ := mj_bnd h
  refine mj_pcall hC rfl (md_goMany_x (Nat.le_trans (by decide) hd) eq17) ?_
  show P (151, [some (.ref 68), none, none, some (.int v3)], [], (110, x), q17)
  refine mj_gcp hC 1 ?_
  show P (152, [some (.ref 68), none, none, some (.int v3)], [.ref 68], (110, x), q17)
  obtain ⟨q18, eq18, h⟩ := mj_bnd h
  refine mj_pcall hC rfl (md_plainTried_x (Nat.le_trans (by decide) hd) eq18) ?_
  show P (155, [some (.ref 68), none, none, some (.int v3)], [], (110, x), q18)
  refine mj_gcp hC 2 ?_
  show P (157, [some (.ref 68), none, none, some (.int v3)], [.int 1, .ref 68], (110, x), q18)
  obtain ⟨q19, eq19, h⟩ := mj_bnd h
  refine mj_pcall hC rfl (md_slipsAll_x (Nat.le_trans (by decide) hd) eq19) ?_
  show P (160, [some (.ref 68), none, none, some (.int v3)], [.int q19], (110, x), q18)
  refine mj_gcp hC 2 ?_
  show P (162, [some (.ref 68), none, none, some (.int v3)], [.int 0, .ref 68, .int q19], (110, x), q18)
  obtain ⟨q20, eq20, h⟩ := mj_bnd h
  refine mj_pcall hC rfl (md_slipsAll_x (Nat.le_trans (by decide) hd) eq20) ?_
  show P (165, [some (.ref 68), none, none, some (.int v3)], [.int q20, .int q19], (110, x), q18)
  refine mj_gcp hC 1 ?_
  show P (166, [some (.ref 68), none, none, some (.int v3)], [.int (q19 - q20)], (110, x), q18)
  cases h
  exact mj_pret hC rfl hR
set_option maxRecDepth 20000 in
theorem md_tried_j124_x {Ls tp ip x d : Nat} {Z : mj_X} {R : Option Value → mj_G → mj_M → Prop} {P : mj_K → Prop} (hC : mj_cls false (mj_sh Ls) (mj_rf tp ip) mj_dv mj_cd_269 (mj_Ex false (mj_sh Ls) (mj_rf tp ip) Z d) R P) (hd : 8 ≤ d) {v1 : Int32} {v3 : Int32} {s1 : Int32} {s2 : Int32} {m : mj_M} {r : (Int32 × mj_M)} (h : md_tried_j124 v1 v3 s1 s2 m = some r) (hR : R (some (.int r.1)) (110, x) r.2) : P (124, [some (.ref 68), some (.int v1), none, some (.int v3)], [.int s2, .int s1, .ref 98], (110, x), m) := by
  unfold md_tried_j124 at h
  obtain ⟨k14, h⟩ := mj_ifn h
  refine mj_gcp hC 7 ?_
  show _ ∧ (P (mj_pick 135 139 (v1 = 4), [some (.ref 68), some (.int v1), none, some (.int v3)], [.int 1, .ref 99], (110, x), (mj_up m 98 s1.toNatClampNeg (.int s2))))
  refine And.intro k14 (?_)
  refine mj_pbr (fun c15 => ?_) (fun c15 => ?_)
  · rw [if_pos c15] at h
    refine mj_gcp hC 2 ?_
    show P (145, [some (.ref 68), some (.int v1), none, some (.int v3)], [.int 0, .int 1, .ref 99], (110, x), (mj_up m 98 s1.toNatClampNeg (.int s2)))
    exact mj_less hC (L0 := [some (.ref 68), none, none, some (.int v3)]) (And.intro rfl (And.intro rfl trivial)) (md_tried_j145_x hC hd h hR)
  · rw [if_neg c15] at h
    refine mj_gcp hC 4 ?_
    show _ ∧ (P (145, [some (.ref 68), some (.int v1), none, some (.int v3)], [.int (mj_I (m 99 (1 : Int32).toNatClampNeg)), .int 1, .ref 99], (110, x), (mj_up m 98 s1.toNatClampNeg (.int s2))))
    refine And.intro (show ¬ ((1 : Int32) < 0 ∨ 2 ≤ (1 : Int32).toNatClampNeg) by decide) (?_)
    exact mj_less hC (L0 := [some (.ref 68), none, none, some (.int v3)]) (And.intro rfl (And.intro rfl trivial)) (md_tried_j145_x hC hd h hR)
set_option maxRecDepth 20000 in
theorem md_tried_j102_x {Ls tp ip x d : Nat} {Z : mj_X} {R : Option Value → mj_G → mj_M → Prop} {P : mj_K → Prop} (hC : mj_cls false (mj_sh Ls) (mj_rf tp ip) mj_dv mj_cd_269 (mj_Ex false (mj_sh Ls) (mj_rf tp ip) Z d) R P) (hd : 8 ≤ d) {v1 : Int32} {v3 : Int32}  {m : mj_M} {r : (Int32 × mj_M)} (h : md_tried_j102 v1 v3 m = some r) (hR : R (some (.int r.1)) (110, x) r.2) : P (102, [some (.ref 68), some (.int v1), none, some (.int v3)], [], (110, x), m) := by
  unfold md_tried_j102 at h
  refine mj_gcp hC 6 ?_
  show P (mj_pick 112 118 (v1 = 3), [some (.ref 68), some (.int v1), none, some (.int v3)], [.int 1, .ref 98], (110, x), m)
  refine mj_pbr (fun c13 => ?_) (fun c13 => ?_)
  · rw [if_pos c13] at h
    refine mj_gcp hC 2 ?_
    show P (124, [some (.ref 68), some (.int v1), none, some (.int v3)], [.int 999, .int 1, .ref 98], (110, x), m)
    exact mj_less hC (L0 := [some (.ref 68), some (.int v1), none, some (.int v3)]) (And.intro rfl (And.intro rfl (And.intro rfl trivial))) (md_tried_j124_x hC hd h hR)
  · rw [if_neg c13] at h
    refine mj_gcp hC 4 ?_
    show _ ∧ (P (124, [some (.ref 68), some (.int v1), none, some (.int v3)], [.int (mj_I (m 98 (1 : Int32).toNatClampNeg)), .int 1, .ref 98], (110, x), m))
    refine And.intro (show ¬ ((1 : Int32) < 0 ∨ 2 ≤ (1 : Int32).toNatClampNeg) by decide) (?_)
    exact mj_less hC (L0 := [some (.ref 68), some (.int v1), none, some (.int v3)]) (And.intro rfl (And.intro rfl (And.intro rfl trivial))) (md_tried_j124_x hC hd h hR)
set_option maxRecDepth 20000 in
theorem md_tried_j74_x {Ls tp ip x d : Nat} {Z : mj_X} {R : Option Value → mj_G → mj_M → Prop} {P : mj_K → Prop} (hC : mj_cls false (mj_sh Ls) (mj_rf tp ip) mj_dv mj_cd_269 (mj_Ex false (mj_sh Ls) (mj_rf tp ip) Z d) R P) (hd : 8 ≤ d) {v1 : Int32} {v2 : Int32} {v3 : Int32} {s1 : Int32} {m : mj_M} {r : (Int32 × mj_M)} (h : md_tried_j74 v1 v2 v3 s1 m = some r) (hR : R (some (.int r.1)) (110, x) r.2) : P (74, [some (.ref 68), some (.int v1), some (.int v2), some (.int v3)], [.int s1, .ref 68], (110, x), m) := by
  unfold md_tried_j74 at h
  obtain ⟨k9, h⟩ := mj_ifs h
  refine mj_pputZ hC rfl ⟨rfl, Nat.le_of_ble_eq_true rfl⟩ k9 ?_
  show P (77, [some (.ref 68), some (.int v1), some (.int v2), some (.int v3)], [], (110, x), (mj_up m 68 65 (.int s1)))
  refine mj_gcp hC 3 ?_
  show P (mj_pick 82 102 (v1 = 2), [some (.ref 68), some (.int v1), some (.int v2), some (.int v3)], [], (110, x), (mj_up m 68 65 (.int s1)))
  refine mj_pbr (fun c10 => ?_) (fun c10 => ?_)
  · rw [if_pos c10] at h
    obtain ⟨k11, h⟩ := mj_ifn h
    obtain ⟨k12, h⟩ := mj_ifn h
    refine mj_gcp hC 14 ?_
    show _ ∧ (_ ∧ (P (102, [some (.ref 68), some (.int v1), some (.int v2), some (.int v3)], [], (110, x), (mj_up (mj_up (mj_up m 68 65 (.int s1)) 97 ((6 : Int32) + v2).toNatClampNeg (.int (0 &&& 1))) 96 ((6 : Int32) + v2).toNatClampNeg (.int 0)))))
    refine And.intro k11 (And.intro k12 (?_))
    exact mj_less hC (L0 := [some (.ref 68), some (.int v1), none, some (.int v3)]) (And.intro rfl (And.intro rfl (And.intro rfl trivial))) (md_tried_j102_x hC hd h hR)
  · rw [if_neg c10] at h
    exact mj_less hC (L0 := [some (.ref 68), some (.int v1), none, some (.int v3)]) (And.intro rfl (And.intro rfl (And.intro rfl trivial))) (md_tried_j102_x hC hd h hR)
set_option maxRecDepth 20000 in
theorem md_tried_j60_x {Ls tp ip x d : Nat} {Z : mj_X} {R : Option Value → mj_G → mj_M → Prop} {P : mj_K → Prop} (hC : mj_cls false (mj_sh Ls) (mj_rf tp ip) mj_dv mj_cd_269 (mj_Ex false (mj_sh Ls) (mj_rf tp ip) Z d) R P) (hd : 8 ≤ d) {v1 : Int32} {v2 : Int32} {v3 : Int32} {s1 : Int32} {m : mj_M} {r : (Int32 × mj_M)} (h : md_tried_j60 v1 v2 v3 s1 m = some r) (hR : R (some (.int r.1)) (110, x) r.2) : P (60, [some (.ref 68), some (.int v1), some (.int v2), some (.int v3)], [.int s1, .ref 68], (110, x), m) := by
  unfold md_tried_j60 at h
  obtain ⟨k7, h⟩ := mj_ifs h
  refine mj_pputZ hC rfl ⟨rfl, Nat.le_of_ble_eq_true rfl⟩ k7 ?_
  show P (63, [some (.ref 68), some (.int v1), some (.int v2), some (.int v3)], [], (110, x), (mj_up m 68 64 (.int s1)))
  refine mj_gcp hC 4 ?_
  show P (mj_pick 69 73 (v1 = 1), [some (.ref 68), some (.int v1), some (.int v2), some (.int v3)], [.ref 68], (110, x), (mj_up m 68 64 (.int s1)))
  refine mj_pbr (fun c8 => ?_) (fun c8 => ?_)
  · rw [if_pos c8] at h
    refine mj_gcp hC 2 ?_
    show P (74, [some (.ref 68), some (.int v1), some (.int v2), some (.int v3)], [.int 1, .ref 68], (110, x), (mj_up m 68 64 (.int s1)))
    exact mj_less hC (L0 := [some (.ref 68), some (.int v1), some (.int v2), some (.int v3)]) (And.intro rfl (And.intro rfl (And.intro rfl (And.intro rfl trivial)))) (md_tried_j74_x hC hd h hR)
  · rw [if_neg c8] at h
    refine mj_gcp hC 1 ?_
    show P (74, [some (.ref 68), some (.int v1), some (.int v2), some (.int v3)], [.int 0, .ref 68], (110, x), (mj_up m 68 64 (.int s1)))
    exact mj_less hC (L0 := [some (.ref 68), some (.int v1), some (.int v2), some (.int v3)]) (And.intro rfl (And.intro rfl (And.intro rfl (And.intro rfl trivial)))) (md_tried_j74_x hC hd h hR)
set_option maxRecDepth 20000 in
theorem md_tried_j46_x {Ls tp ip x d : Nat} {Z : mj_X} {R : Option Value → mj_G → mj_M → Prop} {P : mj_K → Prop} (hC : mj_cls false (mj_sh Ls) (mj_rf tp ip) mj_dv mj_cd_269 (mj_Ex false (mj_sh Ls) (mj_rf tp ip) Z d) R P) (hd : 8 ≤ d) {v1 : Int32} {v2 : Int32} {v3 : Int32}  {m : mj_M} {r : (Int32 × mj_M)} (h : md_tried_j46 v1 v2 v3 m = some r) (hR : R (some (.int r.1)) (110, x) r.2) : P (46, [some (.ref 68), some (.int v1), some (.int v2), some (.int v3)], [], (110, x), m) := by
  unfold md_tried_j46 at h
  refine mj_gcp hC 1 ?_
  show P (47, [some (.ref 68), some (.int v1), some (.int v2), some (.int v3)], [.ref 68], (110, x), m)
  obtain ⟨q5, eq5, h⟩ := mj_bnd h
  refine mj_pcall hC rfl (md_layTried_x (Nat.le_trans (by decide) hd) eq5) ?_
  show P (50, [some (.ref 68), some (.int v1), some (.int v2), some (.int v3)], [], (110, x), q5)
  refine mj_gcp hC 3 ?_
  show P (mj_pick 55 59 (v1 = 0), [some (.ref 68), some (.int v1), some (.int v2), some (.int v3)], [.ref 68], (110, x), q5)
  refine mj_pbr (fun c6 => ?_) (fun c6 => ?_)
  · rw [if_pos c6] at h
    refine mj_gcp hC 2 ?_
    show P (60, [some (.ref 68), some (.int v1), some (.int v2), some (.int v3)], [.int 1, .ref 68], (110, x), q5)
    exact mj_less hC (L0 := [some (.ref 68), some (.int v1), some (.int v2), some (.int v3)]) (And.intro rfl (And.intro rfl (And.intro rfl (And.intro rfl trivial)))) (md_tried_j60_x hC hd h hR)
  · rw [if_neg c6] at h
    refine mj_gcp hC 1 ?_
    show P (60, [some (.ref 68), some (.int v1), some (.int v2), some (.int v3)], [.int 0, .ref 68], (110, x), q5)
    exact mj_less hC (L0 := [some (.ref 68), some (.int v1), some (.int v2), some (.int v3)]) (And.intro rfl (And.intro rfl (And.intro rfl (And.intro rfl trivial)))) (md_tried_j60_x hC hd h hR)
set_option maxRecDepth 20000 in
theorem md_tried_p {Ls tp ip x d : Nat} {Z : mj_X} {R : Option Value → mj_G → mj_M → Prop} {P : mj_K → Prop} (hC : mj_cls false (mj_sh Ls) (mj_rf tp ip) mj_dv mj_cd_269 (mj_Ex false (mj_sh Ls) (mj_rf tp ip) Z d) R P) (hd : 8 ≤ d) {v1 : Int32} {v2 : Int32} {v3 : Int32} {m : mj_M} {r : (Int32 × mj_M)} (h : md_tried v1 v2 v3 m = some r) (hR : R (some (.int r.1)) (110, x) r.2) : P (0, [some (.ref 68), some (.int v1), some (.int v2), some (.int v3)], [], (110, x), m) := by
  unfold md_tried at h
  refine mj_gcp hC 6 ?_
  show P (8, [some (.ref 68), some (.int v1), some (.int v2), some (.int v3)], [.int 4, .int 0, .int v1], (110, x), (mj_up m 68 2 (.int 0)))
  refine mj_pcall hC rfl (md_isIn_x (Nat.le_trans (by decide) hd)) ?_
  show P (11, [some (.ref 68), some (.int v1), some (.int v2), some (.int v3)], [.int (md_isIn v1 0 4 (mj_up m 68 2 (.int 0)))], (110, x), (mj_up m 68 2 (.int 0)))
  refine mj_gcp hC 1 ?_
  show P (mj_pick 44 14 ((md_isIn v1 0 4 (mj_up m 68 2 (.int 0))) = 0), [some (.ref 68), some (.int v1), some (.int v2), some (.int v3)], [], (110, x), (mj_up m 68 2 (.int 0)))
  refine mj_pbr (fun c1 => ?_) (fun c1 => ?_)
  · rw [if_pos c1] at h
    refine mj_gcp hC 1 ?_
    show P (45, [some (.ref 68), some (.int v1), some (.int v2), some (.int v3)], [.int (-1)], (110, x), (mj_up m 68 2 (.int 0)))
    cases h
    exact mj_pret hC rfl hR
  · rw [if_neg c1] at h
    refine mj_gcp hC 3 ?_
    show P (18, [some (.ref 68), some (.int v1), some (.int v2), some (.int v3)], [.int 99, .int 0, .int v3], (110, x), (mj_up m 68 2 (.int 0)))
    refine mj_pcall hC rfl (md_isIn_x (Nat.le_trans (by decide) hd)) ?_
    show P (21, [some (.ref 68), some (.int v1), some (.int v2), some (.int v3)], [.int (md_isIn v3 0 99 (mj_up m 68 2 (.int 0)))], (110, x), (mj_up m 68 2 (.int 0)))
    refine mj_gcp hC 1 ?_
    show P (mj_pick 44 24 ((md_isIn v3 0 99 (mj_up m 68 2 (.int 0))) = 0), [some (.ref 68), some (.int v1), some (.int v2), some (.int v3)], [], (110, x), (mj_up m 68 2 (.int 0)))
    refine mj_pbr (fun c2 => ?_) (fun c2 => ?_)
    · rw [if_pos c2] at h
      refine mj_gcp hC 1 ?_
      show P (45, [some (.ref 68), some (.int v1), some (.int v2), some (.int v3)], [.int (-1)], (110, x), (mj_up m 68 2 (.int 0)))
      cases h
      exact mj_pret hC rfl hR
    · rw [if_neg c2] at h
      refine mj_gcp hC 3 ?_
      show P (mj_pick 29 40 (v1 = 2), [some (.ref 68), some (.int v1), some (.int v2), some (.int v3)], [], (110, x), (mj_up m 68 2 (.int 0)))
      refine mj_pbr (fun c3 => ?_) (fun c3 => ?_)
      · rw [if_pos c3] at h
        refine mj_gcp hC 2 ?_
        show P (31, [some (.ref 68), some (.int v1), some (.int v2), some (.int v3)], [.int v2, .ref 68], (110, x), (mj_up m 68 2 (.int 0)))
        refine mj_pcall hC rfl (md_isMan_x (Nat.le_trans (by decide) hd)) ?_
        show P (34, [some (.ref 68), some (.int v1), some (.int v2), some (.int v3)], [.int (md_isMan v2 (mj_up m 68 2 (.int 0)))], (110, x), (mj_up m 68 2 (.int 0)))
        refine mj_gcp hC 1 ?_
        show P (mj_pick 37 46 ((md_isMan v2 (mj_up m 68 2 (.int 0))) = 0), [some (.ref 68), some (.int v1), some (.int v2), some (.int v3)], [], (110, x), (mj_up m 68 2 (.int 0)))
        refine mj_pbr (fun c4 => ?_) (fun c4 => ?_)
        · rw [if_pos c4] at h
          refine mj_gcp hC 1 ?_
          show P (44, [some (.ref 68), some (.int v1), some (.int v2), some (.int v3)], [], (110, x), (mj_up m 68 2 (.int 0)))
          refine mj_gcp hC 1 ?_
          show P (45, [some (.ref 68), some (.int v1), some (.int v2), some (.int v3)], [.int (-1)], (110, x), (mj_up m 68 2 (.int 0)))
          cases h
          exact mj_pret hC rfl hR
        · rw [if_neg c4] at h
          exact mj_less hC (L0 := [some (.ref 68), some (.int v1), some (.int v2), some (.int v3)]) (And.intro rfl (And.intro rfl (And.intro rfl (And.intro rfl trivial)))) (md_tried_j46_x hC hd h hR)
      · rw [if_neg c3] at h
        refine mj_gcp hC 2 ?_
        show P (mj_pick 46 44 (v2 = 0), [some (.ref 68), some (.int v1), some (.int v2), some (.int v3)], [], (110, x), (mj_up m 68 2 (.int 0)))
        refine mj_pbr (fun c21 => ?_) (fun c21 => ?_)
        · rw [if_pos c21] at h
          exact mj_less hC (L0 := [some (.ref 68), some (.int v1), some (.int v2), some (.int v3)]) (And.intro rfl (And.intro rfl (And.intro rfl (And.intro rfl trivial)))) (md_tried_j46_x hC hd h hR)
        · rw [if_neg c21] at h
          refine mj_gcp hC 1 ?_
          show P (45, [some (.ref 68), some (.int v1), some (.int v2), some (.int v3)], [.int (-1)], (110, x), (mj_up m 68 2 (.int 0)))
          cases h
          exact mj_pret hC rfl hR
set_option maxRecDepth 20000 in
theorem md_tried_x {Ls tp ip x d : Nat} {Z : mj_X} (hd : 9 ≤ d) {v1 : Int32} {v2 : Int32} {v3 : Int32} {m : mj_M} {r : (Int32 × mj_M)} (h : md_tried v1 v2 v3 m = some r) : mj_Ex false (mj_sh Ls) (mj_rf tp ip) Z d 269 [.ref 68, .int v1, .int v2, .int v3] (110, x) m (some (.int r.1)) (110, x) r.2 := by
  exact mj_Ex_of (cd := mj_cd_269) (L := [some (.ref 68), some (.int v1), some (.int v2), some (.int v3)]) (by omega) (by decide) rfl (Nat.le_of_ble_eq_true rfl) rfl (fun P hC => md_tried_p hC (by omega) h ⟨rfl, rfl, rfl⟩)
def md_put_j62l22 (uq : Nat)  (v2 : Int32) (v3 : Int32) (s1 : Int32) (s2 : Int32) (m : mj_M) : Option (Nat × (Int32 × mj_M)) :=
  (if s1 < 0 ∨ (mj_siz uq) ≤ (s1 : Int32).toNatClampNeg then none else
  some (0, ((v3 + 1), (mj_up m uq s1.toNatClampNeg (.int s2)))))
def md_put_l22 (uq : Nat) (v2 : Int32) (s22 : (Int32 × mj_M)) : Option (Nat × (Int32 × mj_M)) :=
  (if 6 ≤ s22.1 then some (1, (s22.1, s22.2)) else
  (if s22.1 < 0 ∨ 12 ≤ (s22.1 : Int32).toNatClampNeg then none else
  (if ((v2 + 2) + s22.1) < 0 ∨ (mj_siz uq) ≤ (((v2 + 2) + s22.1) : Int32).toNatClampNeg then none else
  (if s22.1 < 0 ∨ 12 ≤ (s22.1 : Int32).toNatClampNeg then none else
  (if (mj_I (s22.2 97 s22.1.toNatClampNeg)) = 0 then md_put_j62l22 uq v2 s22.1 ((v2 + 8) + s22.1) 0 (mj_up s22.2 uq ((v2 + 2) + s22.1).toNatClampNeg (.int (mj_I (s22.2 96 s22.1.toNatClampNeg)))) else
  md_put_j62l22 uq v2 s22.1 ((v2 + 8) + s22.1) 1 (mj_up s22.2 uq ((v2 + 2) + s22.1).toNatClampNeg (.int (mj_I (s22.2 96 s22.1.toNatClampNeg)))))))))
def md_put (uq : Nat) (v2 : Int32) (m : mj_M) : Option mj_M :=
  (if v2 < 0 ∨ (mj_siz uq) ≤ (v2 : Int32).toNatClampNeg then none else
  (if (v2 + 1) < 0 ∨ (mj_siz uq) ≤ ((v2 + 1) : Int32).toNatClampNeg then none else
  (mj_loop (md_put_l22 uq v2) mj_F (0, (mj_up (mj_up m uq v2.toNatClampNeg (.int (mj_I (m 99 (0 : Int32).toNatClampNeg)))) uq (v2 + 1).toNatClampNeg (.int (mj_I (m 98 (0 : Int32).toNatClampNeg)))))).bind fun q9 =>
  some q9.2.2))
set_option maxRecDepth 20000 in
theorem md_put_j62l22_x {Ls tp ip x d : Nat} {Z : mj_X} {R : Option Value → mj_G → mj_M → Prop} {P : mj_K → Prop} (hC : mj_cls false (mj_sh Ls) (mj_rf tp ip) mj_dv mj_cd_270 (mj_Ex false (mj_sh Ls) (mj_rf tp ip) Z d) R P) (hd : 0 ≤ d) {uq : Nat} (huq : uq = 106 ∨ uq = 107)  {v2 : Int32} {v3 : Int32} {s1 : Int32} {s2 : Int32} {m : mj_M} {t : Nat} {w : (Int32 × mj_M)} (h : md_put_j62l22 uq  v2 v3 s1 s2 m = some (t, w)) (h0 : t = 0 → P (22, [some (.ref 68), some (.ref uq), some (.int v2), some (.int w.1)], [], (110, x), w.2)) (h1 : t = 1 → P (69, [none, none, none, none], [], (110, x), w.2)) : P (62, [some (.ref 68), some (.ref uq), some (.int v2), some (.int v3)], [.int s2, .int s1, .ref uq], (110, x), m) := by
  unfold md_put_j62l22 at h
  rcases huq with rfl | rfl
  all_goals
    obtain ⟨k8, h⟩ := mj_ifn h
    refine mj_gcp hC 3 ?_
    show _ ∧ (P (22, [some (.ref 68), some (.ref _), some (.int v2), some (.int (v3 + 1))], [], (110, x), (mj_up m _ s1.toNatClampNeg (.int s2))))
    refine And.intro k8 (?_)
    cases h
    exact mj_less hC (L0 := [some (.ref 68), some (.ref _), some (.int v2), some (.int (v3 + 1))]) (And.intro rfl (And.intro rfl (And.intro rfl (And.intro rfl trivial)))) (h0 rfl)
set_option maxRecDepth 20000 in
theorem md_put_l22_x {Ls tp ip x d : Nat} {Z : mj_X} {R : Option Value → mj_G → mj_M → Prop} {P : mj_K → Prop} (hC : mj_cls false (mj_sh Ls) (mj_rf tp ip) mj_dv mj_cd_270 (mj_Ex false (mj_sh Ls) (mj_rf tp ip) Z d) R P) (hd : 0 ≤ d) {uq : Nat} (huq : uq = 106 ∨ uq = 107) {v2 : Int32} (s22 : (Int32 × mj_M)) {t : Nat} {w : (Int32 × mj_M)} (h : md_put_l22 uq v2 s22 = some (t, w)) (h0 : t = 0 → P (22, [some (.ref 68), some (.ref uq), some (.int v2), some (.int w.1)], [], (110, x), w.2)) (h1 : t = 1 → P (69, [none, none, none, none], [], (110, x), w.2)) : P (22, [some (.ref 68), some (.ref uq), some (.int v2), some (.int s22.1)], [], (110, x), s22.2) := by
  unfold md_put_l22 at h
  rcases huq with rfl | rfl
  all_goals
    refine mj_gcp hC 3 ?_
    show P (mj_pick 69 28 (6 ≤ s22.1), [some (.ref 68), some (.ref _), some (.int v2), some (.int s22.1)], [], (110, x), s22.2)
    refine mj_pbr (fun c3 => ?_) (fun c3 => ?_)
    · rw [if_pos c3] at h
      cases h
      exact mj_less hC (L0 := [none, none, none, none]) trivial (h1 rfl)
    · rw [if_neg c3] at h
      obtain ⟨k4, h⟩ := mj_ifn h
      obtain ⟨k5, h⟩ := mj_ifn h
      obtain ⟨k6, h⟩ := mj_ifn h
      refine mj_gcp hC 22 ?_
      show _ ∧ (_ ∧ (_ ∧ (P (mj_pick 61 57 ((mj_I (s22.2 97 s22.1.toNatClampNeg)) = 0), [some (.ref 68), some (.ref _), some (.int v2), some (.int s22.1)], [.int ((v2 + 8) + s22.1), .ref _], (110, x), (mj_up s22.2 _ ((v2 + 2) + s22.1).toNatClampNeg (.int (mj_I (s22.2 96 s22.1.toNatClampNeg))))))))
      refine And.intro k4 (And.intro k5 (And.intro k6 (?_)))
      refine mj_pbr (fun c7 => ?_) (fun c7 => ?_)
      · rw [if_pos c7] at h
        refine mj_gcp hC 1 ?_
        show P (62, [some (.ref 68), some (.ref _), some (.int v2), some (.int s22.1)], [.int 0, .int ((v2 + 8) + s22.1), .ref _], (110, x), (mj_up s22.2 _ ((v2 + 2) + s22.1).toNatClampNeg (.int (mj_I (s22.2 96 s22.1.toNatClampNeg)))))
        exact mj_less hC (L0 := [some (.ref 68), some (.ref _), some (.int v2), some (.int s22.1)]) (And.intro rfl (And.intro rfl (And.intro rfl (And.intro rfl trivial)))) (md_put_j62l22_x hC hd (by decide) h h0 h1)
      · rw [if_neg c7] at h
        refine mj_gcp hC 2 ?_
        show P (62, [some (.ref 68), some (.ref _), some (.int v2), some (.int s22.1)], [.int 1, .int ((v2 + 8) + s22.1), .ref _], (110, x), (mj_up s22.2 _ ((v2 + 2) + s22.1).toNatClampNeg (.int (mj_I (s22.2 96 s22.1.toNatClampNeg)))))
        exact mj_less hC (L0 := [some (.ref 68), some (.ref _), some (.int v2), some (.int s22.1)]) (And.intro rfl (And.intro rfl (And.intro rfl (And.intro rfl trivial)))) (md_put_j62l22_x hC hd (by decide) h h0 h1)
set_option maxRecDepth 20000 in
theorem md_put_p {Ls tp ip x d : Nat} {Z : mj_X} {R : Option Value → mj_G → mj_M → Prop} {P : mj_K → Prop} (hC : mj_cls false (mj_sh Ls) (mj_rf tp ip) mj_dv mj_cd_270 (mj_Ex false (mj_sh Ls) (mj_rf tp ip) Z d) R P) (hd : 0 ≤ d) {uq : Nat} (huq : uq = 106 ∨ uq = 107) {v2 : Int32} {m : mj_M} {r : mj_M} (h : md_put uq v2 m = some r) (hR : R none (110, x) r) : P (0, [some (.ref 68), some (.ref uq), some (.int v2), none], [], (110, x), m) := by
  unfold md_put at h
  rcases huq with rfl | rfl
  all_goals
    obtain ⟨k1, h⟩ := mj_ifn h
    obtain ⟨k2, h⟩ := mj_ifn h
    refine mj_gcp hC 18 ?_
    show _ ∧ (_ ∧ (_ ∧ (_ ∧ (P (22, [some (.ref 68), some (.ref _), some (.int v2), some (.int 0)], [], (110, x), (mj_up (mj_up m _ v2.toNatClampNeg (.int (mj_I (m 99 (0 : Int32).toNatClampNeg)))) _ (v2 + 1).toNatClampNeg (.int (mj_I (m 98 (0 : Int32).toNatClampNeg)))))))))
    refine And.intro (show ¬ ((0 : Int32) < 0 ∨ 2 ≤ (0 : Int32).toNatClampNeg) by decide) (And.intro k1 (And.intro (show ¬ ((0 : Int32) < 0 ∨ 2 ≤ (0 : Int32).toNatClampNeg) by decide) (And.intro k2 (?_))))
    obtain ⟨q9, eq9, h⟩ := mj_bnd h
    refine mj_less hC (L0 := [some (.ref 68), some (.ref _), some (.int v2), some (.int 0)]) (And.intro rfl (And.intro rfl (And.intro rfl (And.intro rfl trivial)))) ?_
    refine mj_loop_P (A := fun z22 => P (22, [some (.ref 68), some (.ref _), some (.int v2), some (.int z22.1)], [], (110, x), z22.2)) (E := fun _ z22 => P (69, [none, none, none, none], [], (110, x), z22.2)) (fun zz t w hb h0 h1 => md_put_l22_x hC hd (by decide) zz hb h0 (fun ht => h1 0 ht)) mj_F _ q9 eq9 ?_
    cases h
    exact mj_pret hC rfl hR
set_option maxRecDepth 20000 in
theorem md_put_x {Ls tp ip x d : Nat} {Z : mj_X} (hd : 1 ≤ d) {uq : Nat} (huq : uq = 106 ∨ uq = 107) {v2 : Int32} {m : mj_M} {r : mj_M} (h : md_put uq v2 m = some r) : mj_Ex false (mj_sh Ls) (mj_rf tp ip) Z d 270 [.ref 68, .ref uq, .int v2] (110, x) m none (110, x) r := by
  exact mj_Ex_of (cd := mj_cd_270) (L := [some (.ref 68), some (.ref uq), some (.int v2), none]) (by omega) (by decide) rfl (Nat.le_of_ble_eq_true rfl) rfl (fun P hC => md_put_p hC (by omega) huq h ⟨rfl, rfl, rfl⟩)
def md_take_j63l22 (uq : Nat)  (v2 : Int32) (v3 : Int32) (s1 : Int32) (s2 : Int32) (m : mj_M) : Option (Nat × (Int32 × mj_M)) :=
  (if s1 < 0 ∨ 12 ≤ (s1 : Int32).toNatClampNeg then none else
  some (0, ((v3 + 1), (mj_up m 97 s1.toNatClampNeg (.int (s2 &&& 1))))))
def md_take_l22 (uq : Nat) (v2 : Int32) (s22 : (Int32 × mj_M)) : Option (Nat × (Int32 × mj_M)) :=
  (if 6 ≤ s22.1 then some (1, (s22.1, s22.2)) else
  (if ((v2 + 2) + s22.1) < 0 ∨ (mj_siz uq) ≤ (((v2 + 2) + s22.1) : Int32).toNatClampNeg then none else
  (if s22.1 < 0 ∨ 12 ≤ (s22.1 : Int32).toNatClampNeg then none else
  (if ((v2 + 8) + s22.1) < 0 ∨ (mj_siz uq) ≤ (((v2 + 8) + s22.1) : Int32).toNatClampNeg then none else
  (if (mj_I (s22.2 uq ((v2 + 8) + s22.1).toNatClampNeg)) = 1 then md_take_j63l22 uq v2 s22.1 s22.1 1 (mj_up s22.2 96 s22.1.toNatClampNeg (.int (mj_I (s22.2 uq ((v2 + 2) + s22.1).toNatClampNeg)))) else
  md_take_j63l22 uq v2 s22.1 s22.1 0 (mj_up s22.2 96 s22.1.toNatClampNeg (.int (mj_I (s22.2 uq ((v2 + 2) + s22.1).toNatClampNeg)))))))))
def md_take (uq : Nat) (v2 : Int32) (m : mj_M) : Option mj_M :=
  (if v2 < 0 ∨ (mj_siz uq) ≤ (v2 : Int32).toNatClampNeg then none else
  (if (v2 + 1) < 0 ∨ (mj_siz uq) ≤ ((v2 + 1) : Int32).toNatClampNeg then none else
  (mj_loop (md_take_l22 uq v2) mj_F (0, (mj_up (mj_up m 99 (0 : Int32).toNatClampNeg (.int (mj_I (m uq v2.toNatClampNeg)))) 98 (0 : Int32).toNatClampNeg (.int (mj_I (m uq (v2 + 1).toNatClampNeg)))))).bind fun q9 =>
  some q9.2.2))
set_option maxRecDepth 20000 in
theorem md_take_j63l22_x {Ls tp ip x d : Nat} {Z : mj_X} {R : Option Value → mj_G → mj_M → Prop} {P : mj_K → Prop} (hC : mj_cls false (mj_sh Ls) (mj_rf tp ip) mj_dv mj_cd_271 (mj_Ex false (mj_sh Ls) (mj_rf tp ip) Z d) R P) (hd : 0 ≤ d) {uq : Nat} (huq : uq = 106 ∨ uq = 107)  {v2 : Int32} {v3 : Int32} {s1 : Int32} {s2 : Int32} {m : mj_M} {t : Nat} {w : (Int32 × mj_M)} (h : md_take_j63l22 uq  v2 v3 s1 s2 m = some (t, w)) (h0 : t = 0 → P (22, [some (.ref 68), some (.ref uq), some (.int v2), some (.int w.1)], [], (110, x), w.2)) (h1 : t = 1 → P (70, [none, none, none, none], [], (110, x), w.2)) : P (63, [some (.ref 68), some (.ref uq), some (.int v2), some (.int v3)], [.int s2, .int s1, .ref 97], (110, x), m) := by
  unfold md_take_j63l22 at h
  rcases huq with rfl | rfl
  all_goals
    obtain ⟨k8, h⟩ := mj_ifn h
    refine mj_gcp hC 3 ?_
    show _ ∧ (P (22, [some (.ref 68), some (.ref _), some (.int v2), some (.int (v3 + 1))], [], (110, x), (mj_up m 97 s1.toNatClampNeg (.int (s2 &&& 1)))))
    refine And.intro k8 (?_)
    cases h
    exact mj_less hC (L0 := [some (.ref 68), some (.ref _), some (.int v2), some (.int (v3 + 1))]) (And.intro rfl (And.intro rfl (And.intro rfl (And.intro rfl trivial)))) (h0 rfl)
set_option maxRecDepth 20000 in
theorem md_take_l22_x {Ls tp ip x d : Nat} {Z : mj_X} {R : Option Value → mj_G → mj_M → Prop} {P : mj_K → Prop} (hC : mj_cls false (mj_sh Ls) (mj_rf tp ip) mj_dv mj_cd_271 (mj_Ex false (mj_sh Ls) (mj_rf tp ip) Z d) R P) (hd : 0 ≤ d) {uq : Nat} (huq : uq = 106 ∨ uq = 107) {v2 : Int32} (s22 : (Int32 × mj_M)) {t : Nat} {w : (Int32 × mj_M)} (h : md_take_l22 uq v2 s22 = some (t, w)) (h0 : t = 0 → P (22, [some (.ref 68), some (.ref uq), some (.int v2), some (.int w.1)], [], (110, x), w.2)) (h1 : t = 1 → P (70, [none, none, none, none], [], (110, x), w.2)) : P (22, [some (.ref 68), some (.ref uq), some (.int v2), some (.int s22.1)], [], (110, x), s22.2) := by
  unfold md_take_l22 at h
  rcases huq with rfl | rfl
  all_goals
    refine mj_gcp hC 3 ?_
    show P (mj_pick 70 28 (6 ≤ s22.1), [some (.ref 68), some (.ref _), some (.int v2), some (.int s22.1)], [], (110, x), s22.2)
    refine mj_pbr (fun c3 => ?_) (fun c3 => ?_)
    · rw [if_pos c3] at h
      cases h
      exact mj_less hC (L0 := [none, none, none, none]) trivial (h1 rfl)
    · rw [if_neg c3] at h
      obtain ⟨k4, h⟩ := mj_ifn h
      obtain ⟨k5, h⟩ := mj_ifn h
      obtain ⟨k6, h⟩ := mj_ifn h
      refine mj_gcp hC 23 ?_
      show _ ∧ (_ ∧ (_ ∧ (P (mj_pick 58 62 ((mj_I (s22.2 _ ((v2 + 8) + s22.1).toNatClampNeg)) = 1), [some (.ref 68), some (.ref _), some (.int v2), some (.int s22.1)], [.int s22.1, .ref 97], (110, x), (mj_up s22.2 96 s22.1.toNatClampNeg (.int (mj_I (s22.2 _ ((v2 + 2) + s22.1).toNatClampNeg))))))))
      refine And.intro k4 (And.intro k5 (And.intro k6 (?_)))
      refine mj_pbr (fun c7 => ?_) (fun c7 => ?_)
      · rw [if_pos c7] at h
        refine mj_gcp hC 2 ?_
        show P (63, [some (.ref 68), some (.ref _), some (.int v2), some (.int s22.1)], [.int 1, .int s22.1, .ref 97], (110, x), (mj_up s22.2 96 s22.1.toNatClampNeg (.int (mj_I (s22.2 _ ((v2 + 2) + s22.1).toNatClampNeg)))))
        exact mj_less hC (L0 := [some (.ref 68), some (.ref _), some (.int v2), some (.int s22.1)]) (And.intro rfl (And.intro rfl (And.intro rfl (And.intro rfl trivial)))) (md_take_j63l22_x hC hd (by decide) h h0 h1)
      · rw [if_neg c7] at h
        refine mj_gcp hC 1 ?_
        show P (63, [some (.ref 68), some (.ref _), some (.int v2), some (.int s22.1)], [.int 0, .int s22.1, .ref 97], (110, x), (mj_up s22.2 96 s22.1.toNatClampNeg (.int (mj_I (s22.2 _ ((v2 + 2) + s22.1).toNatClampNeg)))))
        exact mj_less hC (L0 := [some (.ref 68), some (.ref _), some (.int v2), some (.int s22.1)]) (And.intro rfl (And.intro rfl (And.intro rfl (And.intro rfl trivial)))) (md_take_j63l22_x hC hd (by decide) h h0 h1)
set_option maxRecDepth 20000 in
theorem md_take_p {Ls tp ip x d : Nat} {Z : mj_X} {R : Option Value → mj_G → mj_M → Prop} {P : mj_K → Prop} (hC : mj_cls false (mj_sh Ls) (mj_rf tp ip) mj_dv mj_cd_271 (mj_Ex false (mj_sh Ls) (mj_rf tp ip) Z d) R P) (hd : 0 ≤ d) {uq : Nat} (huq : uq = 106 ∨ uq = 107) {v2 : Int32} {m : mj_M} {r : mj_M} (h : md_take uq v2 m = some r) (hR : R none (110, x) r) : P (0, [some (.ref 68), some (.ref uq), some (.int v2), none], [], (110, x), m) := by
  unfold md_take at h
  rcases huq with rfl | rfl
  all_goals
    obtain ⟨k1, h⟩ := mj_ifn h
    obtain ⟨k2, h⟩ := mj_ifn h
    refine mj_gcp hC 18 ?_
    show _ ∧ (_ ∧ (_ ∧ (_ ∧ (P (22, [some (.ref 68), some (.ref _), some (.int v2), some (.int 0)], [], (110, x), (mj_up (mj_up m 99 (0 : Int32).toNatClampNeg (.int (mj_I (m _ v2.toNatClampNeg)))) 98 (0 : Int32).toNatClampNeg (.int (mj_I (m _ (v2 + 1).toNatClampNeg)))))))))
    refine And.intro k1 (And.intro (show ¬ ((0 : Int32) < 0 ∨ 2 ≤ (0 : Int32).toNatClampNeg) by decide) (And.intro k2 (And.intro (show ¬ ((0 : Int32) < 0 ∨ 2 ≤ (0 : Int32).toNatClampNeg) by decide) (?_))))
    obtain ⟨q9, eq9, h⟩ := mj_bnd h
    refine mj_less hC (L0 := [some (.ref 68), some (.ref _), some (.int v2), some (.int 0)]) (And.intro rfl (And.intro rfl (And.intro rfl (And.intro rfl trivial)))) ?_
    refine mj_loop_P (A := fun z22 => P (22, [some (.ref 68), some (.ref _), some (.int v2), some (.int z22.1)], [], (110, x), z22.2)) (E := fun _ z22 => P (70, [none, none, none, none], [], (110, x), z22.2)) (fun zz t w hb h0 h1 => md_take_l22_x hC hd (by decide) zz hb h0 (fun ht => h1 0 ht)) mj_F _ q9 eq9 ?_
    cases h
    exact mj_pret hC rfl hR
set_option maxRecDepth 20000 in
theorem md_take_x {Ls tp ip x d : Nat} {Z : mj_X} (hd : 1 ≤ d) {uq : Nat} (huq : uq = 106 ∨ uq = 107) {v2 : Int32} {m : mj_M} {r : mj_M} (h : md_take uq v2 m = some r) : mj_Ex false (mj_sh Ls) (mj_rf tp ip) Z d 271 [.ref 68, .ref uq, .int v2] (110, x) m none (110, x) r := by
  exact mj_Ex_of (cd := mj_cd_271) (L := [some (.ref 68), some (.ref uq), some (.int v2), none]) (by omega) (by decide) rfl (Nat.le_of_ble_eq_true rfl) rfl (fun P hC => md_take_p hC (by omega) huq h ⟨rfl, rfl, rfl⟩)
def md_remember_l11   (s11 : (Int32 × mj_M)) : Option (Nat × (Int32 × mj_M)) :=
  (if 266 ≤ s11.1 then some (1, (s11.1, s11.2)) else
  (if (s11.1 + 14) < 0 ∨ 280 ≤ ((s11.1 + 14) : Int32).toNatClampNeg then none else
  (if s11.1 < 0 ∨ 280 ≤ (s11.1 : Int32).toNatClampNeg then none else
  some (0, ((s11.1 + 1), (mj_up s11.2 106 s11.1.toNatClampNeg (.int (mj_I (s11.2 106 (s11.1 + 14).toNatClampNeg)))))))))
def md_remember_j49    (m : mj_M) : Option mj_M :=
  (md_put 106 ((14 : Int32) * (mj_I (m 68 75))) m).bind fun q6 =>
  some (mj_up q6 68 75 (.int ((mj_I (q6 68 75)) + 1)))
def md_remember   (m : mj_M) : Option mj_M :=
  (if (mj_I (m 68 75)) = 20 then (mj_loop (md_remember_l11) mj_F (0, m)).bind fun q5 =>
  md_remember_j49 (mj_up q5.2.2 68 75 (.int ((mj_I (q5.2.2 68 75)) - 1))) else
  md_remember_j49 m)
set_option maxRecDepth 20000 in
theorem md_remember_l11_x {Ls tp ip x d : Nat} {Z : mj_X} {R : Option Value → mj_G → mj_M → Prop} {P : mj_K → Prop} (hC : mj_cls false (mj_sh Ls) (mj_rf tp ip) mj_dv mj_cd_272 (mj_Ex false (mj_sh Ls) (mj_rf tp ip) Z d) R P) (hd : 1 ≤ d)  (s11 : (Int32 × mj_M)) {t : Nat} {w : (Int32 × mj_M)} (h : md_remember_l11 s11 = some (t, w)) (h0 : t = 0 → P (11, [some (.ref 68), some (.int w.1)], [], (110, x), w.2)) (h1 : t = 1 → P (39, [some (.ref 68), none], [], (110, x), w.2)) : P (11, [some (.ref 68), some (.int s11.1)], [], (110, x), s11.2) := by
  unfold md_remember_l11 at h
  refine mj_gcp hC 3 ?_
  show P (mj_pick 39 18 (266 ≤ s11.1), [some (.ref 68), some (.int s11.1)], [], (110, x), s11.2)
  refine mj_pbr (fun c2 => ?_) (fun c2 => ?_)
  · rw [if_pos c2] at h
    cases h
    exact mj_less hC (L0 := [some (.ref 68), none]) (And.intro rfl trivial) (h1 rfl)
  · rw [if_neg c2] at h
    obtain ⟨k3, h⟩ := mj_ifn h
    obtain ⟨k4, h⟩ := mj_ifn h
    refine mj_gcp hC 12 ?_
    show _ ∧ (_ ∧ (P (11, [some (.ref 68), some (.int (s11.1 + 1))], [], (110, x), (mj_up s11.2 106 s11.1.toNatClampNeg (.int (mj_I (s11.2 106 (s11.1 + 14).toNatClampNeg)))))))
    refine And.intro k3 (And.intro k4 (?_))
    cases h
    exact mj_less hC (L0 := [some (.ref 68), some (.int (s11.1 + 1))]) (And.intro rfl (And.intro rfl trivial)) (h0 rfl)
set_option maxRecDepth 20000 in
theorem md_remember_j49_x {Ls tp ip x d : Nat} {Z : mj_X} {R : Option Value → mj_G → mj_M → Prop} {P : mj_K → Prop} (hC : mj_cls false (mj_sh Ls) (mj_rf tp ip) mj_dv mj_cd_272 (mj_Ex false (mj_sh Ls) (mj_rf tp ip) Z d) R P) (hd : 1 ≤ d)   {m : mj_M} {r : mj_M} (h : md_remember_j49 m = some r) (hR : R none (110, x) r) : P (49, [some (.ref 68), none], [], (110, x), m) := by
  unfold md_remember_j49 at h
  refine mj_gcp hC 7 ?_
  show P (61, [some (.ref 68), none], [.int ((14 : Int32) * (mj_I (m 68 75))), .ref 106, .ref 68], (110, x), m)
  obtain ⟨q6, eq6, h⟩ := mj_bnd h
  refine mj_pcall hC rfl (md_put_x (Nat.le_trans (by decide) hd) (by decide) eq6) ?_
  show P (64, [some (.ref 68), none], [], (110, x), q6)
  refine mj_gcp hC 6 ?_
  show P (74, [some (.ref 68), none], [], (110, x), (mj_up q6 68 75 (.int ((mj_I (q6 68 75)) + 1))))
  cases h
  exact mj_pret hC rfl hR
set_option maxRecDepth 20000 in
theorem md_remember_p {Ls tp ip x d : Nat} {Z : mj_X} {R : Option Value → mj_G → mj_M → Prop} {P : mj_K → Prop} (hC : mj_cls false (mj_sh Ls) (mj_rf tp ip) mj_dv mj_cd_272 (mj_Ex false (mj_sh Ls) (mj_rf tp ip) Z d) R P) (hd : 1 ≤ d)  {m : mj_M} {r : mj_M} (h : md_remember m = some r) (hR : R none (110, x) r) : P (0, [some (.ref 68), none], [], (110, x), m) := by
  unfold md_remember at h
  refine mj_gcp hC 4 ?_
  show P (mj_pick 9 49 ((mj_I (m 68 75)) = 20), [some (.ref 68), none], [], (110, x), m)
  refine mj_pbr (fun c1 => ?_) (fun c1 => ?_)
  · rw [if_pos c1] at h
    refine mj_gcp hC 2 ?_
    show P (11, [some (.ref 68), some (.int 0)], [], (110, x), m)
    obtain ⟨q5, eq5, h⟩ := mj_bnd h
    refine mj_less hC (L0 := [some (.ref 68), some (.int 0)]) (And.intro rfl (And.intro rfl trivial)) ?_
    refine mj_loop_P (A := fun z11 => P (11, [some (.ref 68), some (.int z11.1)], [], (110, x), z11.2)) (E := fun _ z11 => P (39, [some (.ref 68), none], [], (110, x), z11.2)) (fun zz t w hb h0 h1 => md_remember_l11_x hC hd zz hb h0 (fun ht => h1 0 ht)) mj_F _ q5 eq5 ?_
    refine mj_gcp hC 6 ?_
    show P (49, [some (.ref 68), none], [], (110, x), (mj_up q5.2.2 68 75 (.int ((mj_I (q5.2.2 68 75)) - 1))))
    exact mj_less hC (L0 := [some (.ref 68), none]) (And.intro rfl trivial) (md_remember_j49_x hC hd h hR)
  · rw [if_neg c1] at h
    exact mj_less hC (L0 := [some (.ref 68), none]) (And.intro rfl trivial) (md_remember_j49_x hC hd h hR)
set_option maxRecDepth 20000 in
theorem md_remember_x {Ls tp ip x d : Nat} {Z : mj_X} (hd : 2 ≤ d)  {m : mj_M} {r : mj_M} (h : md_remember m = some r) : mj_Ex false (mj_sh Ls) (mj_rf tp ip) Z d 272 [.ref 68] (110, x) m none (110, x) r := by
  exact mj_Ex_of (cd := mj_cd_272) (L := [some (.ref 68), none]) (by omega) (by decide) rfl (Nat.le_of_ble_eq_true rfl) rfl (fun P hC => md_remember_p hC (by omega) h ⟨rfl, rfl, rfl⟩)
def md_undo   (m : mj_M) : Option (Int32 × mj_M) :=
  (if (mj_I (m 68 75)) = 0 then some ((-1), (mj_up m 68 2 (.int 0))) else
  (md_take 106 ((14 : Int32) * ((mj_I (m 68 75)) - 1)) (mj_up (mj_up m 68 2 (.int 0)) 68 75 (.int ((mj_I (m 68 75)) - 1)))).bind fun q2 =>
  some ((mj_I (q2 68 75)), q2))
set_option maxRecDepth 20000 in
theorem md_undo_p {Ls tp ip x d : Nat} {Z : mj_X} {R : Option Value → mj_G → mj_M → Prop} {P : mj_K → Prop} (hC : mj_cls false (mj_sh Ls) (mj_rf tp ip) mj_dv mj_cd_273 (mj_Ex false (mj_sh Ls) (mj_rf tp ip) Z d) R P) (hd : 1 ≤ d)  {m : mj_M} {r : (Int32 × mj_M)} (h : md_undo m = some r) (hR : R (some (.int r.1)) (110, x) r.2) : P (0, [some (.ref 68)], [], (110, x), m) := by
  unfold md_undo at h
  refine mj_gcp hC 6 ?_
  show P (mj_pick 12 14 ((mj_I (m 68 75)) = 0), [some (.ref 68)], [], (110, x), (mj_up m 68 2 (.int 0)))
  refine mj_pbr (fun c1 => ?_) (fun c1 => ?_)
  · rw [if_pos c1] at h
    refine mj_gcp hC 1 ?_
    show P (13, [some (.ref 68)], [.int (-1)], (110, x), (mj_up m 68 2 (.int 0)))
    cases h
    exact mj_pret hC rfl hR
  · rw [if_neg c1] at h
    refine mj_gcp hC 13 ?_
    show P (36, [some (.ref 68)], [.int ((14 : Int32) * ((mj_I (m 68 75)) - 1)), .ref 106, .ref 68], (110, x), (mj_up (mj_up m 68 2 (.int 0)) 68 75 (.int ((mj_I (m 68 75)) - 1))))
    obtain ⟨q2, eq2, h⟩ := mj_bnd h
    refine mj_pcall hC rfl (md_take_x (Nat.le_trans (by decide) hd) (by decide) eq2) ?_
    show P (39, [some (.ref 68)], [], (110, x), q2)
    refine mj_gcp hC 2 ?_
    show P (43, [some (.ref 68)], [.int (mj_I (q2 68 75))], (110, x), q2)
    cases h
    exact mj_pret hC rfl hR
set_option maxRecDepth 20000 in
theorem md_undo_x {Ls tp ip x d : Nat} {Z : mj_X} (hd : 2 ≤ d)  {m : mj_M} {r : (Int32 × mj_M)} (h : md_undo m = some r) : mj_Ex false (mj_sh Ls) (mj_rf tp ip) Z d 273 [.ref 68] (110, x) m (some (.int r.1)) (110, x) r.2 := by
  exact mj_Ex_of (cd := mj_cd_273) (L := [some (.ref 68)]) (by omega) (by decide) rfl (Nat.le_of_ble_eq_true rfl) rfl (fun P hC => md_undo_p hC (by omega) h ⟨rfl, rfl, rfl⟩)
def md_keep_l21   (s21 : (Int32 × mj_M)) : Option (Nat × (Int32 × mj_M)) :=
  (if 8 ≤ s21.1 then some (1, (s21.1, s21.2)) else
  (if s21.1 < 0 ∨ 16 ≤ (s21.1 : Int32).toNatClampNeg then none else
  (if s21.1 < 0 ∨ 23 ≤ (s21.1 : Int32).toNatClampNeg then none else
  (if s21.1 < 0 ∨ 16 ≤ (s21.1 : Int32).toNatClampNeg then none else
  (if ((8 : Int32) + s21.1) < 0 ∨ 23 ≤ (((8 : Int32) + s21.1) : Int32).toNatClampNeg then none else
  some (0, ((s21.1 + 1), (mj_up (mj_up s21.2 108 s21.1.toNatClampNeg (.int (mj_I (s21.2 93 s21.1.toNatClampNeg)))) 108 ((8 : Int32) + s21.1).toNatClampNeg (.int (mj_I (s21.2 94 s21.1.toNatClampNeg)))))))))))
def md_keep_l62   (s62 : (Int32 × mj_M)) : Option (Nat × (Int32 × mj_M)) :=
  (if 6 ≤ s62.1 then some (1, (s62.1, s62.2)) else
  (if s62.1 < 0 ∨ 12 ≤ (s62.1 : Int32).toNatClampNeg then none else
  (if ((16 : Int32) + s62.1) < 0 ∨ 23 ≤ (((16 : Int32) + s62.1) : Int32).toNatClampNeg then none else
  some (0, ((s62.1 + 1), (mj_up s62.2 108 ((16 : Int32) + s62.1).toNatClampNeg (.int (mj_I (s62.2 95 s62.1.toNatClampNeg)))))))))
def md_keep   (m : mj_M) : Option (Int32 × mj_M) :=
  (md_put 107 0 (mj_up (mj_up m 68 2 (.int 0)) 68 77 (.int 1))).bind fun q1 =>
  (mj_loop (md_keep_l21) mj_F (0, q1)).bind fun q7 =>
  (mj_loop (md_keep_l62) mj_F (0, q7.2.2)).bind fun q11 =>
  some ((mj_I (q11.2.2 100 (0 : Int32).toNatClampNeg)), (mj_up (mj_up q11.2.2 108 (22 : Int32).toNatClampNeg (.int (mj_I (q11.2.2 100 (0 : Int32).toNatClampNeg)))) 68 80 (.long (mj_J (q11.2.2 68 60)))))
set_option maxRecDepth 20000 in
theorem md_keep_l21_x {Ls tp ip x d : Nat} {Z : mj_X} {R : Option Value → mj_G → mj_M → Prop} {P : mj_K → Prop} (hC : mj_cls false (mj_sh Ls) (mj_rf tp ip) mj_dv mj_cd_274 (mj_Ex false (mj_sh Ls) (mj_rf tp ip) Z d) R P) (hd : 1 ≤ d)  (s21 : (Int32 × mj_M)) {t : Nat} {w : (Int32 × mj_M)} (h : md_keep_l21 s21 = some (t, w)) (h0 : t = 0 → P (21, [some (.ref 68), some (.int w.1)], [], (110, x), w.2)) (h1 : t = 1 → P (60, [some (.ref 68), none], [], (110, x), w.2)) : P (21, [some (.ref 68), some (.int s21.1)], [], (110, x), s21.2) := by
  unfold md_keep_l21 at h
  refine mj_gcp hC 3 ?_
  show P (mj_pick 60 27 (8 ≤ s21.1), [some (.ref 68), some (.int s21.1)], [], (110, x), s21.2)
  refine mj_pbr (fun c2 => ?_) (fun c2 => ?_)
  · rw [if_pos c2] at h
    cases h
    exact mj_less hC (L0 := [some (.ref 68), none]) (And.intro rfl trivial) (h1 rfl)
  · rw [if_neg c2] at h
    obtain ⟨k3, h⟩ := mj_ifn h
    obtain ⟨k4, h⟩ := mj_ifn h
    obtain ⟨k5, h⟩ := mj_ifn h
    obtain ⟨k6, h⟩ := mj_ifn h
    refine mj_gcp hC 20 ?_
    show _ ∧ (_ ∧ (_ ∧ (_ ∧ (P (21, [some (.ref 68), some (.int (s21.1 + 1))], [], (110, x), (mj_up (mj_up s21.2 108 s21.1.toNatClampNeg (.int (mj_I (s21.2 93 s21.1.toNatClampNeg)))) 108 ((8 : Int32) + s21.1).toNatClampNeg (.int (mj_I (s21.2 94 s21.1.toNatClampNeg)))))))))
    refine And.intro k3 (And.intro k4 (And.intro k5 (And.intro k6 (?_))))
    cases h
    exact mj_less hC (L0 := [some (.ref 68), some (.int (s21.1 + 1))]) (And.intro rfl (And.intro rfl trivial)) (h0 rfl)
set_option maxRecDepth 20000 in
theorem md_keep_l62_x {Ls tp ip x d : Nat} {Z : mj_X} {R : Option Value → mj_G → mj_M → Prop} {P : mj_K → Prop} (hC : mj_cls false (mj_sh Ls) (mj_rf tp ip) mj_dv mj_cd_274 (mj_Ex false (mj_sh Ls) (mj_rf tp ip) Z d) R P) (hd : 1 ≤ d)  (s62 : (Int32 × mj_M)) {t : Nat} {w : (Int32 × mj_M)} (h : md_keep_l62 s62 = some (t, w)) (h0 : t = 0 → P (62, [some (.ref 68), some (.int w.1)], [], (110, x), w.2)) (h1 : t = 1 → P (89, [some (.ref 68), none], [], (110, x), w.2)) : P (62, [some (.ref 68), some (.int s62.1)], [], (110, x), s62.2) := by
  unfold md_keep_l62 at h
  refine mj_gcp hC 3 ?_
  show P (mj_pick 89 68 (6 ≤ s62.1), [some (.ref 68), some (.int s62.1)], [], (110, x), s62.2)
  refine mj_pbr (fun c8 => ?_) (fun c8 => ?_)
  · rw [if_pos c8] at h
    cases h
    exact mj_less hC (L0 := [some (.ref 68), none]) (And.intro rfl trivial) (h1 rfl)
  · rw [if_neg c8] at h
    obtain ⟨k9, h⟩ := mj_ifn h
    obtain ⟨k10, h⟩ := mj_ifn h
    refine mj_gcp hC 12 ?_
    show _ ∧ (_ ∧ (P (62, [some (.ref 68), some (.int (s62.1 + 1))], [], (110, x), (mj_up s62.2 108 ((16 : Int32) + s62.1).toNatClampNeg (.int (mj_I (s62.2 95 s62.1.toNatClampNeg)))))))
    refine And.intro k9 (And.intro k10 (?_))
    cases h
    exact mj_less hC (L0 := [some (.ref 68), some (.int (s62.1 + 1))]) (And.intro rfl (And.intro rfl trivial)) (h0 rfl)
set_option maxRecDepth 20000 in
theorem md_keep_p {Ls tp ip x d : Nat} {Z : mj_X} {R : Option Value → mj_G → mj_M → Prop} {P : mj_K → Prop} (hC : mj_cls false (mj_sh Ls) (mj_rf tp ip) mj_dv mj_cd_274 (mj_Ex false (mj_sh Ls) (mj_rf tp ip) Z d) R P) (hd : 1 ≤ d)  {m : mj_M} {r : (Int32 × mj_M)} (h : md_keep m = some r) (hR : R (some (.int r.1)) (110, x) r.2) : P (0, [some (.ref 68), none], [], (110, x), m) := by
  unfold md_keep at h
  refine mj_gcp hC 10 ?_
  show P (16, [some (.ref 68), none], [.int 0, .ref 107, .ref 68], (110, x), (mj_up (mj_up m 68 2 (.int 0)) 68 77 (.int 1)))
  obtain ⟨q1, eq1, h⟩ := mj_bnd h
  refine mj_pcall hC rfl (md_put_x (Nat.le_trans (by decide) hd) (by decide) eq1) ?_
  show P (19, [some (.ref 68), none], [], (110, x), q1)
  refine mj_gcp hC 2 ?_
  show P (21, [some (.ref 68), some (.int 0)], [], (110, x), q1)
  obtain ⟨q7, eq7, h⟩ := mj_bnd h
  refine mj_less hC (L0 := [some (.ref 68), some (.int 0)]) (And.intro rfl (And.intro rfl trivial)) ?_
  refine mj_loop_P (A := fun z21 => P (21, [some (.ref 68), some (.int z21.1)], [], (110, x), z21.2)) (E := fun _ z21 => P (60, [some (.ref 68), none], [], (110, x), z21.2)) (fun zz t w hb h0 h1 => md_keep_l21_x hC hd zz hb h0 (fun ht => h1 0 ht)) mj_F _ q7 eq7 ?_
  refine mj_gcp hC 2 ?_
  show P (62, [some (.ref 68), some (.int 0)], [], (110, x), q7.2.2)
  obtain ⟨q11, eq11, h⟩ := mj_bnd h
  refine mj_less hC (L0 := [some (.ref 68), some (.int 0)]) (And.intro rfl (And.intro rfl trivial)) ?_
  refine mj_loop_P (A := fun z62 => P (62, [some (.ref 68), some (.int z62.1)], [], (110, x), z62.2)) (E := fun _ z62 => P (89, [some (.ref 68), none], [], (110, x), z62.2)) (fun zz t w hb h0 h1 => md_keep_l62_x hC hd zz hb h0 (fun ht => h1 0 ht)) mj_F _ q11 eq11 ?_
  refine mj_gcp hC 16 ?_
  show _ ∧ (_ ∧ (_ ∧ (P (116, [some (.ref 68), none], [.int (mj_I (q11.2.2 100 (0 : Int32).toNatClampNeg))], (110, x), (mj_up (mj_up q11.2.2 108 (22 : Int32).toNatClampNeg (.int (mj_I (q11.2.2 100 (0 : Int32).toNatClampNeg)))) 68 80 (.long (mj_J (q11.2.2 68 60))))))))
  refine And.intro (show ¬ ((0 : Int32) < 0 ∨ 2 ≤ (0 : Int32).toNatClampNeg) by decide) (And.intro (show ¬ ((22 : Int32) < 0 ∨ 23 ≤ (22 : Int32).toNatClampNeg) by decide) (And.intro (show ¬ ((0 : Int32) < 0 ∨ 2 ≤ (0 : Int32).toNatClampNeg) by decide) (?_)))
  cases h
  exact mj_pret hC rfl hR
set_option maxRecDepth 20000 in
theorem md_keep_x {Ls tp ip x d : Nat} {Z : mj_X} (hd : 2 ≤ d)  {m : mj_M} {r : (Int32 × mj_M)} (h : md_keep m = some r) : mj_Ex false (mj_sh Ls) (mj_rf tp ip) Z d 274 [.ref 68] (110, x) m (some (.int r.1)) (110, x) r.2 := by
  exact mj_Ex_of (cd := mj_cd_274) (L := [some (.ref 68), none]) (by omega) (by decide) rfl (Nat.le_of_ble_eq_true rfl) rfl (fun P hC => md_keep_p hC (by omega) h ⟨rfl, rfl, rfl⟩)
