/-! WORDS stay: what reading leaves, finer than by groups (made by genw.py out of part 24; own work) -/
theorem to_clear_w {q : Nat} {m : mj_M} {r : mj_M} {k : Nat} (h : to_clear q m = some r) (hq : q = 3 ∨ q = 17) (h_q : mj_gr k ≠ mj_gr q) : r k = m k := by
  unfold to_clear at h
  rcases hq with rfl | rfl
  all_goals
    cases h
    exact ((fr_fill (fun e => h_q (by subst e; rfl))).trans ((fr_fill (fun e => h_q (by subst e; rfl))).trans ((fr_up (fun e => h_q (by subst e; rfl))).trans ((fr_up (fun e => h_q (by subst e; rfl))).trans ((fr_up (fun e => h_q (by subst e; rfl))).trans ((fr_up (fun e => h_q (by subst e; rfl))).trans ((fr_up (fun e => h_q (by subst e; rfl))).trans ((fr_up (fun e => h_q (by subst e; rfl))).trans ((fr_fill (fun e => h_q (by subst e; rfl))).trans ((fr_up (fun e => h_q (by subst e; rfl))).trans rfl))))))))))
theorem to_addTie_w {q : Nat} {v1 : Int32} {v2 : Int32} {m : mj_M} {r : mj_M} {k : Nat} (h : to_addTie q v1 v2 m = some r) (hq : q = 3 ∨ q = 17) (h_q : mj_gr k ≠ mj_gr q) : r k = m k := by
  unfold to_addTie at h
  rcases hq with rfl | rfl
  all_goals
    cases h
    exact ((fr_put (fun e => h_q (by subst e; rfl))).trans ((fr_put (fun e => h_q (by subst e; rfl))).trans rfl))
theorem to_addKnot_w {q : Nat} {v1 : Int32} {m : mj_M} {r : mj_M} {k : Nat} (h : to_addKnot q v1 m = some r) (hq : q = 3 ∨ q = 17) (h_q : mj_gr k ≠ mj_gr q) : r k = m k := by
  unfold to_addKnot at h
  rcases hq with rfl | rfl
  all_goals
    cases h
    exact ((fr_up (fun e => h_q (by subst e; rfl))).trans ((fr_put (fun e => h_q (by subst e; rfl))).trans rfl))
theorem rd_refuse_w {v1 : Int32} {m : mj_M} {r : mj_M} {k : Nat} (h : rd_refuse v1 m = some r) (h_31 : k ≠ 31 ∧ k ≠ 32 ∧ k ≠ 34 ∧ k ≠ 35 ∧ k ≠ 36) : r k = m k := by
  unfold rd_refuse at h
  refine fr_if h (fun h => ?_) (fun h => ?_)
  · skip
    cases h
    exact ((fr_up (fun e => by omega)).trans ((fr_up (fun e => by omega)).trans rfl))
  · skip
    cases h
    exact rfl
theorem rd_findPerson_j44_w {ip : Nat} {v1 : Int32} {m : mj_M} {r : (Int32 × mj_M)} {k : Nat} (h : rd_findPerson_j44 ip v1 m = some r) (hip : ip = 3 ∨ ip = 17) (h_31 : k ≠ 31 ∧ k ≠ 32 ∧ k ≠ 34 ∧ k ≠ 35 ∧ k ≠ 36) : r.2 k = m k := by
  unfold rd_findPerson_j44 at h
  rcases hip with rfl | rfl
  all_goals
    refine fr_if h (fun h => ?_) (fun h => ?_)
    · skip
      obtain ⟨q3, eq3, h⟩ := mj_bnd h
      have fq3 := (rd_refuse_w eq3 h_31).trans rfl
      cases h
      exact fq3
    · skip
      cases h
      exact rfl
theorem rd_findPerson_w {ip : Nat} {m : mj_M} {r : (Int32 × mj_M)} {k : Nat} (h : rd_findPerson ip m = some r) (hip : ip = 3 ∨ ip = 17) (h_31 : k ≠ 31 ∧ k ≠ 32 ∧ k ≠ 34 ∧ k ≠ 35 ∧ k ≠ 36) : r.2 k = m k := by
  unfold rd_findPerson at h
  rcases hip with rfl | rfl
  all_goals
    refine fr_if h (fun h => ?_) (fun h => ?_)
    · skip
      exact (rd_findPerson_j44_w h (by decide) h_31).trans rfl
    · skip
      refine fr_if h (fun h => ?_) (fun h => ?_)
      · skip
        obtain ⟨q5, eq5, h⟩ := mj_bnd h
        have fq5 := (rd_refuse_w eq5 h_31).trans rfl
        exact (rd_findPerson_j44_w h (by decide) h_31).trans fq5
      · skip
        exact (rd_findPerson_j44_w h (by decide) h_31).trans rfl
theorem rd_add_w {ip : Nat} {v1 : Int32} {m : mj_M} {r : mj_M} {k : Nat} (h : rd_add ip v1 m = some r) (hip : ip = 3 ∨ ip = 17) (h_ip : mj_gr k ≠ mj_gr ip) : r k = m k := by
  unfold rd_add at h
  rcases hip with rfl | rfl
  all_goals
    refine fr_if h (fun h => ?_) (fun h => ?_)
    · skip
      obtain ⟨q2, eq2, h⟩ := mj_bnd h
      have fq2 := (to_addKnot_w eq2 (by decide) h_ip).trans rfl
      cases h
      exact fq2
    · skip
      cases h
      exact rfl
theorem tk_add_w {v1 : Int32} {v2 : Int32} {v3 : Int32} {m : mj_M} {r : mj_M} {k : Nat} (h : tk_add v1 v2 v3 m = some r) (h_31 : k ≠ 31 ∧ k ≠ 32 ∧ k ≠ 34 ∧ k ≠ 35 ∧ k ≠ 36) : r k = m k := by
  unfold tk_add at h
  cases h
  exact ((fr_up (fun e => by omega)).trans ((fr_put (fun e => by omega)).trans ((fr_put (fun e => by omega)).trans ((fr_put (fun e => by omega)).trans rfl))))
theorem tk_cutWord_l6_w {v2 : Int32} {v3 : Int32} {s6 : (Int32 × Int32 × mj_M)} {r : (Nat × (Int32 × Int32 × mj_M))} {k : Nat} (h : tk_cutWord_l6 v2 v3 s6 = some r) : r.2.2.2 k = s6.2.2 k := by
  unfold tk_cutWord_l6 at h
  refine fr_if h (fun h => ?_) (fun h => ?_)
  · skip
    cases h
    exact rfl
  · skip
    refine fr_if h (fun h => ?_) (fun h => ?_)
    · skip
      cases h
      exact rfl
    · skip
      cases h
      exact rfl
theorem tk_cutWord_j89_w {v2 : Int32} {v4 : Int32} {v5 : Int32} {s1 : Int32} {m : mj_M} {r : (Int32 × mj_M)} {k : Nat} (h : tk_cutWord_j89 v2 v4 v5 s1 m = some r) (h_31 : k ≠ 31 ∧ k ≠ 32 ∧ k ≠ 34 ∧ k ≠ 35 ∧ k ≠ 36) : r.2 k = m k := by
  unfold tk_cutWord_j89 at h
  obtain ⟨q6, eq6, h⟩ := mj_bnd h
  have fq6 := (tk_add_w eq6 h_31).trans rfl
  cases h
  exact fq6
theorem tk_cutWord_j48_w {v2 : Int32} {v4 : Int32} {v5 : Int32} {m : mj_M} {r : (Int32 × mj_M)} {k : Nat} (h : tk_cutWord_j48 v2 v4 v5 m = some r) (h_31 : k ≠ 31 ∧ k ≠ 32 ∧ k ≠ 34 ∧ k ≠ 35 ∧ k ≠ 36) : r.2 k = m k := by
  unfold tk_cutWord_j48 at h
  refine fr_if h (fun h => ?_) (fun h => ?_)
  · skip
    refine fr_if h (fun h => ?_) (fun h => ?_)
    · skip
      exact (tk_cutWord_j89_w h h_31).trans rfl
    · skip
      exact (tk_cutWord_j89_w h h_31).trans rfl
  · skip
    exact (tk_cutWord_j89_w h h_31).trans rfl
theorem tk_cutWord_w {v2 : Int32} {v3 : Int32} {m : mj_M} {r : (Int32 × mj_M)} {k : Nat} (h : tk_cutWord v2 v3 m = some r) (h_31 : k ≠ 31 ∧ k ≠ 32 ∧ k ≠ 34 ∧ k ≠ 35 ∧ k ≠ 36) : r.2 k = m k := by
  unfold tk_cutWord at h
  obtain ⟨q3, eq3, h⟩ := mj_bnd h
  have fq3 := (fr_loop (pr := fun z => z.2.2 k) (fun zs zt z1 hz => tk_cutWord_l6_w hz) _ _ _ eq3).trans rfl
  exact (tk_cutWord_j48_w h h_31).trans fq3
theorem tk_step_w {m : mj_M} {r : mj_M} {k : Nat} (h : tk_step m = some r) (h_31 : k ≠ 31 ∧ k ≠ 32 ∧ k ≠ 34 ∧ k ≠ 35 ∧ k ≠ 36) : r k = m k := by
  unfold tk_step at h
  cases h
  exact ((fr_up (fun e => by omega)).trans ((fr_up (fun e => by omega)).trans ((fr_up (fun e => by omega)).trans ((fr_up (fun e => by omega)).trans rfl))))
theorem tk_cutNumber_l6_w {v2 : Int32} {v3 : Int32} {s6 : (Int32 × Int32 × mj_M)} {r : (Nat × (Int32 × Int32 × mj_M))} {k : Nat} (h : tk_cutNumber_l6 v2 v3 s6 = some r) : r.2.2.2 k = s6.2.2 k := by
  unfold tk_cutNumber_l6 at h
  refine fr_if h (fun h => ?_) (fun h => ?_)
  · skip
    cases h
    exact rfl
  · skip
    refine fr_if h (fun h => ?_) (fun h => ?_)
    · skip
      cases h
      exact rfl
    · skip
      cases h
      exact rfl
theorem tk_cutNumber_j52_w {v2 : Int32} {v4 : Int32} {v5 : Int32} {m : mj_M} {r : (Int32 × mj_M)} {k : Nat} (h : tk_cutNumber_j52 v2 v4 v5 m = some r) (h_31 : k ≠ 31 ∧ k ≠ 32 ∧ k ≠ 34 ∧ k ≠ 35 ∧ k ≠ 36) : r.2 k = m k := by
  unfold tk_cutNumber_j52 at h
  obtain ⟨q4, eq4, h⟩ := mj_bnd h
  have fq4 := (tk_add_w eq4 h_31).trans rfl
  cases h
  exact fq4
theorem tk_cutNumber_w {v2 : Int32} {v3 : Int32} {m : mj_M} {r : (Int32 × mj_M)} {k : Nat} (h : tk_cutNumber v2 v3 m = some r) (h_31 : k ≠ 31 ∧ k ≠ 32 ∧ k ≠ 34 ∧ k ≠ 35 ∧ k ≠ 36) : r.2 k = m k := by
  unfold tk_cutNumber at h
  obtain ⟨q3, eq3, h⟩ := mj_bnd h
  have fq3 := (fr_loop (pr := fun z => z.2.2 k) (fun zs zt z1 hz => tk_cutNumber_l6_w hz) _ _ _ eq3).trans rfl
  exact (tk_cutNumber_j52_w h h_31).trans fq3
theorem tk_cutSign_w {v1 : Int32} {v2 : Int32} {v3 : Int32} {m : mj_M} {r : (Int32 × mj_M)} {k : Nat} (h : tk_cutSign v1 v2 v3 m = some r) (h_31 : k ≠ 31 ∧ k ≠ 32 ∧ k ≠ 34 ∧ k ≠ 35 ∧ k ≠ 36) : r.2 k = m k := by
  unfold tk_cutSign at h
  obtain ⟨q1, eq1, h⟩ := mj_bnd h
  have fq1 := (tk_add_w eq1 h_31).trans rfl
  refine fr_if h (fun h => ?_) (fun h => ?_)
  · skip
    cases h
    exact fq1
  · skip
    refine fr_if h (fun h => ?_) (fun h => ?_)
    · skip
      cases h
      exact fq1
    · skip
      refine fr_if h (fun h => ?_) (fun h => ?_)
      · skip
        cases h
        exact fq1
      · skip
        cases h
        exact fq1
theorem rd_take_w {v1 : Int32} {m : mj_M} {r : mj_M} {k : Nat} (h : rd_take v1 m = some r) (h_31 : k ≠ 31 ∧ k ≠ 32 ∧ k ≠ 34 ∧ k ≠ 35 ∧ k ≠ 36) : r k = m k := by
  unfold rd_take at h
  refine fr_if h (fun h => ?_) (fun h => ?_)
  · skip
    obtain ⟨q2, eq2, h⟩ := mj_bnd h
    have fq2 := (rd_refuse_w eq2 h_31).trans rfl
    cases h
    exact fq2
  · skip
    obtain ⟨q3, eq3, h⟩ := mj_bnd h
    have fq3 := (tk_step_w eq3 h_31).trans rfl
    cases h
    exact fq3
theorem rd_takeUnless_w {v1 : Int32} {v2 : Int32} {m : mj_M} {r : mj_M} {k : Nat} (h : rd_takeUnless v1 v2 m = some r) (h_31 : k ≠ 31 ∧ k ≠ 32 ∧ k ≠ 34 ∧ k ≠ 35 ∧ k ≠ 36) : r k = m k := by
  unfold rd_takeUnless at h
  refine fr_if h (fun h => ?_) (fun h => ?_)
  · skip
    obtain ⟨q2, eq2, h⟩ := mj_bnd h
    have fq2 := (tk_step_w eq2 h_31).trans rfl
    cases h
    exact fq2
  · skip
    obtain ⟨q3, eq3, h⟩ := mj_bnd h
    have fq3 := (rd_refuse_w eq3 h_31).trans rfl
    cases h
    exact fq3
theorem rd_readTie_j70_w {ip : Nat} {v1 : Int32} {v2 : Int32} {m : mj_M} {r : mj_M} {k : Nat} (h : rd_readTie_j70 ip v1 v2 m = some r) (hip : ip = 3 ∨ ip = 17) (h_31 : k ≠ 31 ∧ k ≠ 32 ∧ k ≠ 34 ∧ k ≠ 35 ∧ k ≠ 36) (h_ip : mj_gr k ≠ mj_gr ip) : r k = m k := by
  unfold rd_readTie_j70 at h
  rcases hip with rfl | rfl
  all_goals
    obtain ⟨q12, eq12, h⟩ := mj_bnd h
    have fq12 := (rd_take_w eq12 h_31).trans rfl
    refine fr_if h (fun h => ?_) (fun h => ?_)
    · skip
      obtain ⟨q14, eq14, h⟩ := mj_bnd h
      have fq14 := (to_addTie_w eq14 (by decide) h_ip).trans fq12
      cases h
      exact fq14
    · skip
      cases h
      exact fq12
theorem rd_readTie_j53_w {ip : Nat} {v1 : Int32} {v2 : Int32} {m : mj_M} {r : mj_M} {k : Nat} (h : rd_readTie_j53 ip v1 v2 m = some r) (hip : ip = 3 ∨ ip = 17) (h_31 : k ≠ 31 ∧ k ≠ 32 ∧ k ≠ 34 ∧ k ≠ 35 ∧ k ≠ 36) (h_ip : mj_gr k ≠ mj_gr ip) : r k = m k := by
  unfold rd_readTie_j53 at h
  rcases hip with rfl | rfl
  all_goals
    refine fr_if h (fun h => ?_) (fun h => ?_)
    · skip
      refine fr_if h (fun h => ?_) (fun h => ?_)
      · skip
        obtain ⟨q11, eq11, h⟩ := mj_bnd h
        have fq11 := (rd_refuse_w eq11 h_31).trans rfl
        exact (rd_readTie_j70_w h (by decide) h_31 h_ip).trans fq11
      · skip
        exact (rd_readTie_j70_w h (by decide) h_31 h_ip).trans rfl
    · skip
      exact (rd_readTie_j70_w h (by decide) h_31 h_ip).trans rfl
theorem rd_readTie_w {ip : Nat} {m : mj_M} {r : mj_M} {k : Nat} (h : rd_readTie ip m = some r) (hip : ip = 3 ∨ ip = 17) (h_31 : k ≠ 31 ∧ k ≠ 32 ∧ k ≠ 34 ∧ k ≠ 35 ∧ k ≠ 36) (h_ip : mj_gr k ≠ mj_gr ip) : r k = m k := by
  unfold rd_readTie at h
  rcases hip with rfl | rfl
  all_goals
    obtain ⟨q1, eq1, h⟩ := mj_bnd h
    obtain ⟨q2, eq2, h⟩ := mj_bnd h
    have fq2 := (rd_takeUnless_w eq2 h_31).trans rfl
    obtain ⟨q3, eq3, h⟩ := mj_bnd h
    have fq3 := (rd_findPerson_w eq3 (by decide) h_31).trans fq2
    obtain ⟨q4, eq4, h⟩ := mj_bnd h
    have fq4 := (rd_take_w eq4 h_31).trans fq3
    obtain ⟨q5, eq5, h⟩ := mj_bnd h
    have fq5 := (rd_findPerson_w eq5 (by decide) h_31).trans fq4
    refine fr_if h (fun h => ?_) (fun h => ?_)
    · skip
      obtain ⟨q7, eq7, h⟩ := mj_bnd h
      refine fr_if h (fun h => ?_) (fun h => ?_)
      · skip
        exact (rd_readTie_j53_w h (by decide) h_31 h_ip).trans fq5
      · skip
        obtain ⟨q15, eq15, h⟩ := mj_bnd h
        have fq15 := (rd_refuse_w eq15 h_31).trans fq5
        exact (rd_readTie_j53_w h (by decide) h_31 h_ip).trans fq15
    · skip
      exact (rd_readTie_j53_w h (by decide) h_31 h_ip).trans fq5
theorem rd_takeOnce_w {m : mj_M} {r : mj_M} {k : Nat} (h : rd_takeOnce m = some r) (h_31 : k ≠ 31 ∧ k ≠ 32 ∧ k ≠ 34 ∧ k ≠ 35 ∧ k ≠ 36) : r k = m k := by
  unfold rd_takeOnce at h
  refine fr_if h (fun h => ?_) (fun h => ?_)
  · skip
    obtain ⟨q2, eq2, h⟩ := mj_bnd h
    have fq2 := (tk_step_w eq2 h_31).trans ((fr_up (fun e => by omega)).trans rfl)
    cases h
    exact fq2
  · skip
    obtain ⟨q3, eq3, h⟩ := mj_bnd h
    have fq3 := (rd_refuse_w eq3 h_31).trans rfl
    cases h
    exact fq3
theorem rd_readNumber_j31_w {v3 : Int32} {m : mj_M} {r : (Int32 × mj_M)} {k : Nat} (h : rd_readNumber_j31 v3 m = some r) (h_31 : k ≠ 31 ∧ k ≠ 32 ∧ k ≠ 34 ∧ k ≠ 35 ∧ k ≠ 36) : r.2 k = m k := by
  unfold rd_readNumber_j31 at h
  obtain ⟨q2, eq2, h⟩ := mj_bnd h
  have fq2 := (rd_take_w eq2 h_31).trans rfl
  cases h
  exact fq2
theorem rd_readNumber_w {v1 : Int32} {v2 : Int32} {m : mj_M} {r : (Int32 × mj_M)} {k : Nat} (h : rd_readNumber v1 v2 m = some r) (h_31 : k ≠ 31 ∧ k ≠ 32 ∧ k ≠ 34 ∧ k ≠ 35 ∧ k ≠ 36) : r.2 k = m k := by
  unfold rd_readNumber at h
  refine fr_if h (fun h => ?_) (fun h => ?_)
  · skip
    exact (rd_readNumber_j31_w h h_31).trans rfl
  · skip
    refine fr_if h (fun h => ?_) (fun h => ?_)
    · skip
      obtain ⟨q4, eq4, h⟩ := mj_bnd h
      have fq4 := (rd_refuse_w eq4 h_31).trans rfl
      exact (rd_readNumber_j31_w h h_31).trans fq4
    · skip
      exact (rd_readNumber_j31_w h h_31).trans rfl
theorem rd_readNewName_j32_w {np : Nat} {v3 : Int32} {m : mj_M} {r : (Int32 × mj_M)} {k : Nat} (h : rd_readNewName_j32 np v3 m = some r) (hnp : np = 4 ∨ np = 18 ∨ np = 8 ∨ np = 22) (h_31 : k ≠ 31 ∧ k ≠ 32 ∧ k ≠ 34 ∧ k ≠ 35 ∧ k ≠ 36) : r.2 k = m k := by
  unfold rd_readNewName_j32 at h
  rcases hnp with rfl | rfl | rfl | rfl
  all_goals
    obtain ⟨q2, eq2, h⟩ := mj_bnd h
    have fq2 := (rd_take_w eq2 h_31).trans rfl
    cases h
    exact fq2
theorem rd_readNewName_w {np : Nat} {v2 : Int32} {m : mj_M} {r : (Int32 × mj_M)} {k : Nat} (h : rd_readNewName np v2 m = some r) (hnp : np = 4 ∨ np = 18 ∨ np = 8 ∨ np = 22) (h_31 : k ≠ 31 ∧ k ≠ 32 ∧ k ≠ 34 ∧ k ≠ 35 ∧ k ≠ 36) : r.2 k = m k := by
  unfold rd_readNewName at h
  rcases hnp with rfl | rfl | rfl | rfl
  all_goals
    refine fr_if h (fun h => ?_) (fun h => ?_)
    · skip
      exact (rd_readNewName_j32_w h (by decide) h_31).trans rfl
    · skip
      refine fr_if h (fun h => ?_) (fun h => ?_)
      · skip
        exact (rd_readNewName_j32_w h (by decide) h_31).trans rfl
      · skip
        obtain ⟨q4, eq4, h⟩ := mj_bnd h
        have fq4 := (rd_refuse_w eq4 h_31).trans rfl
        exact (rd_readNewName_j32_w h (by decide) h_31).trans fq4
theorem rd_takeKnot_j14_w {m : mj_M} {r : mj_M} {k : Nat} (h : rd_takeKnot_j14 m = some r) (h_31 : k ≠ 31 ∧ k ≠ 32 ∧ k ≠ 34 ∧ k ≠ 35 ∧ k ≠ 36) : r k = m k := by
  unfold rd_takeKnot_j14 at h
  refine fr_if h (fun h => ?_) (fun h => ?_)
  · skip
    obtain ⟨q3, eq3, h⟩ := mj_bnd h
    have fq3 := (tk_step_w eq3 h_31).trans ((fr_up (fun e => by omega)).trans rfl)
    cases h
    exact fq3
  · skip
    cases h
    exact rfl
theorem rd_takeKnot_w {m : mj_M} {r : mj_M} {k : Nat} (h : rd_takeKnot m = some r) (h_31 : k ≠ 31 ∧ k ≠ 32 ∧ k ≠ 34 ∧ k ≠ 35 ∧ k ≠ 36) : r k = m k := by
  unfold rd_takeKnot at h
  refine fr_if h (fun h => ?_) (fun h => ?_)
  · skip
    exact (rd_takeKnot_j14_w h h_31).trans rfl
  · skip
    obtain ⟨q4, eq4, h⟩ := mj_bnd h
    have fq4 := (rd_refuse_w eq4 h_31).trans rfl
    exact (rd_takeKnot_j14_w h h_31).trans fq4
theorem tk_split_j112l10_w {v2 : Int32} {v3 : Int32} {v4 : Int32} {m : mj_M} {r : (Nat × (Int32 × Int32 × mj_M))} {k : Nat} (h : tk_split_j112l10 v2 v3 v4 m = some r) : r.2.2.2 k = m k := by
  unfold tk_split_j112l10 at h
  cases h
  exact rfl
theorem tk_split_j80l10_w {v2 : Int32} {v3 : Int32} {v4 : Int32} {m : mj_M} {r : (Nat × (Int32 × Int32 × mj_M))} {k : Nat} (h : tk_split_j80l10 v2 v3 v4 m = some r) : r.2.2.2 k = m k := by
  unfold tk_split_j80l10 at h
  exact (tk_split_j112l10_w h).trans rfl
theorem tk_split_j107l10_w {v2 : Int32} {v3 : Int32} {v4 : Int32} {s1 : Int32} {s2 : Int32} {m : mj_M} {r : (Nat × (Int32 × Int32 × mj_M))} {k : Nat} (h : tk_split_j107l10 v2 v3 v4 s1 s2 m = some r) (h_31 : k ≠ 31 ∧ k ≠ 32 ∧ k ≠ 34 ∧ k ≠ 35 ∧ k ≠ 36) : r.2.2.2 k = m k := by
  unfold tk_split_j107l10 at h
  obtain ⟨q8, eq8, h⟩ := mj_bnd h
  have fq8 := (tk_cutSign_w eq8 h_31).trans rfl
  exact (tk_split_j112l10_w h).trans fq8
theorem tk_split_l10_w {v2 : Int32} {s10 : (Int32 × Int32 × mj_M)} {r : (Nat × (Int32 × Int32 × mj_M))} {k : Nat} (h : tk_split_l10 v2 s10 = some r) (h_31 : k ≠ 31 ∧ k ≠ 32 ∧ k ≠ 34 ∧ k ≠ 35 ∧ k ≠ 36) : r.2.2.2 k = s10.2.2 k := by
  unfold tk_split_l10 at h
  refine fr_if h (fun h => ?_) (fun h => ?_)
  · skip
    cases h
    exact rfl
  · skip
    refine fr_if h (fun h => ?_) (fun h => ?_)
    · skip
      cases h
      exact rfl
    · skip
      refine fr_if h (fun h => ?_) (fun h => ?_)
      · skip
        refine fr_if h (fun h => ?_) (fun h => ?_)
        · skip
          refine fr_if h (fun h => ?_) (fun h => ?_)
          · skip
            exact (tk_split_j80l10_w h).trans rfl
          · skip
            refine fr_if h (fun h => ?_) (fun h => ?_)
            · skip
              exact (tk_split_j80l10_w h).trans rfl
            · skip
              refine fr_if h (fun h => ?_) (fun h => ?_)
              · skip
                exact (tk_split_j107l10_w h h_31).trans rfl
              · skip
                exact (tk_split_j107l10_w h h_31).trans rfl
        · skip
          obtain ⟨q9, eq9, h⟩ := mj_bnd h
          have fq9 := (tk_cutNumber_w eq9 h_31).trans rfl
          exact (tk_split_j112l10_w h).trans fq9
      · skip
        obtain ⟨q10, eq10, h⟩ := mj_bnd h
        have fq10 := (tk_cutWord_w eq10 h_31).trans rfl
        exact (tk_split_j112l10_w h).trans fq10
theorem tk_split_j118_w {v2 : Int32} {m : mj_M} {r : mj_M} {k : Nat} (h : tk_split_j118 v2 m = some r) (h_31 : k ≠ 31 ∧ k ≠ 32 ∧ k ≠ 34 ∧ k ≠ 35 ∧ k ≠ 36) : r k = m k := by
  unfold tk_split_j118 at h
  obtain ⟨q12, eq12, h⟩ := mj_bnd h
  have fq12 := (tk_add_w eq12 h_31).trans rfl
  obtain ⟨q13, eq13, h⟩ := mj_bnd h
  have fq13 := (tk_step_w eq13 h_31).trans ((fr_up (fun e => by omega)).trans fq12)
  cases h
  exact fq13
theorem tk_split_w {v2 : Int32} {m : mj_M} {r : mj_M} {k : Nat} (h : tk_split v2 m = some r) (h_31 : k ≠ 31 ∧ k ≠ 32 ∧ k ≠ 34 ∧ k ≠ 35 ∧ k ≠ 36) : r k = m k := by
  unfold tk_split at h
  obtain ⟨q11, eq11, h⟩ := mj_bnd h
  have fq11 := (fr_loop (pr := fun z => z.2.2 k) (fun zs zt z1 hz => tk_split_l10_w hz h_31) _ _ _ eq11).trans ((fr_up (fun e => by omega)).trans rfl)
  exact (tk_split_j118_w h h_31).trans fq11
theorem rd_readMan_w {ip : Nat} {m : mj_M} {r : mj_M} {k : Nat} (h : rd_readMan ip m = some r) (hip : ip = 3 ∨ ip = 17) (h_31 : k ≠ 31 ∧ k ≠ 32 ∧ k ≠ 34 ∧ k ≠ 35 ∧ k ≠ 36) (h_ip : mj_gr k ≠ mj_gr ip) : r k = m k := by
  unfold rd_readMan at h
  rcases hip with rfl | rfl
  all_goals
    obtain ⟨q1, eq1, h⟩ := mj_bnd h
    have fq1 := (rd_takeUnless_w eq1 h_31).trans rfl
    obtain ⟨q2, eq2, h⟩ := mj_bnd h
    have fq2 := (rd_readNewName_w eq2 (by decide) h_31).trans fq1
    obtain ⟨q3, eq3, h⟩ := mj_bnd h
    have fq3 := (rd_readNumber_w eq3 h_31).trans fq2
    obtain ⟨q4, eq4, h⟩ := mj_bnd h
    have fq4 := (rd_readNumber_w eq4 h_31).trans fq3
    refine fr_if h (fun h => ?_) (fun h => ?_)
    · skip
      cases h
      exact ((fr_up (fun e => h_ip (by subst e; rfl))).trans ((fr_put (fun e => h_ip (by subst e; rfl))).trans ((fr_put (fun e => h_ip (by subst e; rfl))).trans ((fr_put (fun e => h_ip (by subst e; rfl))).trans fq4))))
    · skip
      cases h
      exact fq4
theorem rd_readWork_w {ip : Nat} {m : mj_M} {r : mj_M} {k : Nat} (h : rd_readWork ip m = some r) (hip : ip = 3 ∨ ip = 17) (h_31 : k ≠ 31 ∧ k ≠ 32 ∧ k ≠ 34 ∧ k ≠ 35 ∧ k ≠ 36) (h_ip : mj_gr k ≠ mj_gr ip) : r k = m k := by
  unfold rd_readWork at h
  rcases hip with rfl | rfl
  all_goals
    obtain ⟨q1, eq1, h⟩ := mj_bnd h
    have fq1 := (rd_takeUnless_w eq1 h_31).trans rfl
    obtain ⟨q2, eq2, h⟩ := mj_bnd h
    have fq2 := (rd_readNewName_w eq2 (by decide) h_31).trans fq1
    obtain ⟨q3, eq3, h⟩ := mj_bnd h
    have fq3 := (rd_findPerson_w eq3 (by decide) h_31).trans fq2
    obtain ⟨q4, eq4, h⟩ := mj_bnd h
    have fq4 := (rd_take_w eq4 h_31).trans fq3
    obtain ⟨q5, eq5, h⟩ := mj_bnd h
    have fq5 := (rd_readNumber_w eq5 h_31).trans fq4
    obtain ⟨q6, eq6, h⟩ := mj_bnd h
    have fq6 := (rd_readNumber_w eq6 h_31).trans fq5
    obtain ⟨q7, eq7, h⟩ := mj_bnd h
    have fq7 := (rd_readNumber_w eq7 h_31).trans fq6
    refine fr_if h (fun h => ?_) (fun h => ?_)
    · skip
      cases h
      exact ((fr_up (fun e => h_ip (by subst e; rfl))).trans ((fr_put (fun e => h_ip (by subst e; rfl))).trans ((fr_put (fun e => h_ip (by subst e; rfl))).trans ((fr_put (fun e => h_ip (by subst e; rfl))).trans ((fr_put (fun e => h_ip (by subst e; rfl))).trans ((fr_put (fun e => h_ip (by subst e; rfl))).trans fq7))))))
    · skip
      cases h
      exact fq7
theorem rd_readSpeed_w {ip : Nat} {m : mj_M} {r : mj_M} {k : Nat} (h : rd_readSpeed ip m = some r) (hip : ip = 3 ∨ ip = 17) (h_31 : k ≠ 31 ∧ k ≠ 32 ∧ k ≠ 34 ∧ k ≠ 35 ∧ k ≠ 36) (h_ip : mj_gr k ≠ mj_gr ip) : r k = m k := by
  unfold rd_readSpeed at h
  rcases hip with rfl | rfl
  all_goals
    obtain ⟨q1, eq1, h⟩ := mj_bnd h
    have fq1 := (rd_takeUnless_w eq1 h_31).trans rfl
    obtain ⟨q2, eq2, h⟩ := mj_bnd h
    have fq2 := (rd_readNumber_w eq2 h_31).trans fq1
    refine fr_if h (fun h => ?_) (fun h => ?_)
    · skip
      cases h
      exact ((fr_up (fun e => h_ip (by subst e; rfl))).trans ((fr_put (fun e => h_ip (by subst e; rfl))).trans fq2))
    · skip
      cases h
      exact fq2
theorem rd_readOnce_w {v1 : Int32} {m : mj_M} {r : (Int32 × mj_M)} {k : Nat} (h : rd_readOnce v1 m = some r) (h_31 : k ≠ 31 ∧ k ≠ 32 ∧ k ≠ 34 ∧ k ≠ 35 ∧ k ≠ 36) : r.2 k = m k := by
  unfold rd_readOnce at h
  obtain ⟨q1, eq1, h⟩ := mj_bnd h
  have fq1 := (rd_takeOnce_w eq1 h_31).trans rfl
  obtain ⟨q2, eq2, h⟩ := mj_bnd h
  have fq2 := (rd_readNumber_w eq2 h_31).trans fq1
  cases h
  exact fq2
theorem rd_readPart_j99_w {ip : Nat} {G : Int32 → mj_M → Option mj_M} {m : mj_M} {r : mj_M} {k : Nat} (h : rd_readPart_j99 ip G m = some r) (hip : ip = 3 ∨ ip = 17) (h_31 : k ≠ 31 ∧ k ≠ 32 ∧ k ≠ 34 ∧ k ≠ 35 ∧ k ≠ 36) (hG : ∀ {w : Int32} {m r : mj_M}, G w m = some r → r k = m k) : r k = m k := by
  unfold rd_readPart_j99 at h
  rcases hip with rfl | rfl
  all_goals
    obtain ⟨q4, eq4, h⟩ := mj_bnd h
    have fq4 := (rd_refuse_w eq4 h_31).trans rfl
    cases h
    exact fq4
theorem rd_readPart_j56_w {ip : Nat} {G : Int32 → mj_M → Option mj_M} {v3 : Int32} {m : mj_M} {r : mj_M} {k : Nat} (h : rd_readPart_j56 ip G v3 m = some r) (hip : ip = 3 ∨ ip = 17) (h_31 : k ≠ 31 ∧ k ≠ 32 ∧ k ≠ 34 ∧ k ≠ 35 ∧ k ≠ 36) (h_ip : mj_gr k ≠ mj_gr ip) (hG : ∀ {w : Int32} {m r : mj_M}, G w m = some r → r k = m k) : r k = m k := by
  unfold rd_readPart_j56 at h
  rcases hip with rfl | rfl
  all_goals
    obtain ⟨q9, eq9, h⟩ := mj_bnd h
    have fq9 := (rd_takeKnot_w eq9 h_31).trans rfl
    obtain ⟨q10, eq10, h⟩ := mj_bnd h
    have fq10 := (rd_add_w eq10 (by decide) h_ip).trans fq9
    cases h
    exact fq10
theorem rd_readPart_w {ip : Nat} {G : Int32 → mj_M → Option mj_M} {v1 : Int32} {m : mj_M} {r : mj_M} {k : Nat} (h : rd_readPart ip G v1 m = some r) (hip : ip = 3 ∨ ip = 17) (h_31 : k ≠ 31 ∧ k ≠ 32 ∧ k ≠ 34 ∧ k ≠ 35 ∧ k ≠ 36) (h_ip : mj_gr k ≠ mj_gr ip) (hG : ∀ {w : Int32} {m r : mj_M}, G w m = some r → r k = m k) : r k = m k := by
  unfold rd_readPart at h
  rcases hip with rfl | rfl
  all_goals
    refine fr_if h (fun h => ?_) (fun h => ?_)
    · skip
      refine fr_if h (fun h => ?_) (fun h => ?_)
      · skip
        refine fr_if h (fun h => ?_) (fun h => ?_)
        · skip
          exact (rd_readPart_j99_w h (by decide) h_31 hG).trans rfl
        · skip
          refine fr_if h (fun h => ?_) (fun h => ?_)
          · skip
            exact (rd_readPart_j99_w h (by decide) h_31 hG).trans rfl
          · skip
            obtain ⟨q6, eq6, h⟩ := mj_bnd h
            have fq6 := (rd_takeKnot_w eq6 h_31).trans rfl
            obtain ⟨q7, eq7, h⟩ := mj_bnd h
            have fq7 := (rd_add_w eq7 (by decide) h_ip).trans fq6
            cases h
            exact fq7
      · skip
        refine fr_if h (fun h => ?_) (fun h => ?_)
        · skip
          exact (rd_readPart_j56_w h (by decide) h_31 h_ip hG).trans rfl
        · skip
          obtain ⟨q11, eq11, h⟩ := mj_bnd h
          have fq11 := (rd_refuse_w eq11 h_31).trans rfl
          exact (rd_readPart_j56_w h (by decide) h_31 h_ip hG).trans fq11
    · skip
      obtain ⟨q12, eq12, h⟩ := mj_bnd h
      have fq12 := hG eq12 |>.trans rfl
      cases h
      exact fq12
theorem rd_readProduct_j31l7_w {ip : Nat} {G : Int32 → mj_M → Option mj_M} {v1 : Int32} {v2 : Int32} {m : mj_M} {r : (Nat × (Int32 × mj_M))} {k : Nat} (h : rd_readProduct_j31l7 ip G v1 v2 m = some r) (hip : ip = 3 ∨ ip = 17) (h_31 : k ≠ 31 ∧ k ≠ 32 ∧ k ≠ 34 ∧ k ≠ 35 ∧ k ≠ 36) (h_ip : mj_gr k ≠ mj_gr ip) (hG : ∀ {w : Int32} {m r : mj_M}, G w m = some r → r k = m k) : r.2.2 k = m k := by
  unfold rd_readProduct_j31l7 at h
  rcases hip with rfl | rfl
  all_goals
    obtain ⟨q5, eq5, h⟩ := mj_bnd h
    have fq5 := (rd_takeKnot_w eq5 h_31).trans rfl
    obtain ⟨q6, eq6, h⟩ := mj_bnd h
    have fq6 := (rd_readPart_w eq6 (by decide) h_31 h_ip hG).trans fq5
    obtain ⟨q7, eq7, h⟩ := mj_bnd h
    have fq7 := (rd_add_w eq7 (by decide) h_ip).trans fq6
    cases h
    exact fq7
theorem rd_readProduct_l7_w {ip : Nat} {G : Int32 → mj_M → Option mj_M} {v1 : Int32} {s7 : (Int32 × mj_M)} {r : (Nat × (Int32 × mj_M))} {k : Nat} (h : rd_readProduct_l7 ip G v1 s7 = some r) (hip : ip = 3 ∨ ip = 17) (h_31 : k ≠ 31 ∧ k ≠ 32 ∧ k ≠ 34 ∧ k ≠ 35 ∧ k ≠ 36) (h_ip : mj_gr k ≠ mj_gr ip) (hG : ∀ {w : Int32} {m r : mj_M}, G w m = some r → r k = m k) : r.2.2 k = s7.2 k := by
  unfold rd_readProduct_l7 at h
  rcases hip with rfl | rfl
  all_goals
    refine fr_if h (fun h => ?_) (fun h => ?_)
    · skip
      cases h
      exact rfl
    · skip
      refine fr_if h (fun h => ?_) (fun h => ?_)
      · skip
        refine fr_if h (fun h => ?_) (fun h => ?_)
        · skip
          cases h
          exact rfl
        · skip
          exact (rd_readProduct_j31l7_w h (by decide) h_31 h_ip hG).trans rfl
      · skip
        exact (rd_readProduct_j31l7_w h (by decide) h_31 h_ip hG).trans rfl
theorem rd_readProduct_w {ip : Nat} {G : Int32 → mj_M → Option mj_M} {v1 : Int32} {m : mj_M} {r : mj_M} {k : Nat} (h : rd_readProduct ip G v1 m = some r) (hip : ip = 3 ∨ ip = 17) (h_31 : k ≠ 31 ∧ k ≠ 32 ∧ k ≠ 34 ∧ k ≠ 35 ∧ k ≠ 36) (h_ip : mj_gr k ≠ mj_gr ip) (hG : ∀ {w : Int32} {m r : mj_M}, G w m = some r → r k = m k) : r k = m k := by
  unfold rd_readProduct at h
  rcases hip with rfl | rfl
  all_goals
    obtain ⟨q1, eq1, h⟩ := mj_bnd h
    have fq1 := (rd_readPart_w eq1 (by decide) h_31 h_ip hG).trans rfl
    obtain ⟨q8, eq8, h⟩ := mj_bnd h
    have fq8 := (fr_loop (pr := fun z => z.2 k) (fun zs zt z1 hz => rd_readProduct_l7_w hz (by decide) h_31 h_ip hG) _ _ _ eq8).trans fq1
    cases h
    exact fq8
theorem rd_readSum_j31l7_w {ip : Nat} {G : Int32 → mj_M → Option mj_M} {v1 : Int32} {v2 : Int32} {m : mj_M} {r : (Nat × (Int32 × mj_M))} {k : Nat} (h : rd_readSum_j31l7 ip G v1 v2 m = some r) (hip : ip = 3 ∨ ip = 17) (h_31 : k ≠ 31 ∧ k ≠ 32 ∧ k ≠ 34 ∧ k ≠ 35 ∧ k ≠ 36) (h_ip : mj_gr k ≠ mj_gr ip) (hG : ∀ {w : Int32} {m r : mj_M}, G w m = some r → r k = m k) : r.2.2 k = m k := by
  unfold rd_readSum_j31l7 at h
  rcases hip with rfl | rfl
  all_goals
    obtain ⟨q5, eq5, h⟩ := mj_bnd h
    have fq5 := (rd_takeKnot_w eq5 h_31).trans rfl
    obtain ⟨q6, eq6, h⟩ := mj_bnd h
    have fq6 := (rd_readProduct_w eq6 (by decide) h_31 h_ip hG).trans fq5
    obtain ⟨q7, eq7, h⟩ := mj_bnd h
    have fq7 := (rd_add_w eq7 (by decide) h_ip).trans fq6
    cases h
    exact fq7
theorem rd_readSum_l7_w {ip : Nat} {G : Int32 → mj_M → Option mj_M} {v1 : Int32} {s7 : (Int32 × mj_M)} {r : (Nat × (Int32 × mj_M))} {k : Nat} (h : rd_readSum_l7 ip G v1 s7 = some r) (hip : ip = 3 ∨ ip = 17) (h_31 : k ≠ 31 ∧ k ≠ 32 ∧ k ≠ 34 ∧ k ≠ 35 ∧ k ≠ 36) (h_ip : mj_gr k ≠ mj_gr ip) (hG : ∀ {w : Int32} {m r : mj_M}, G w m = some r → r k = m k) : r.2.2 k = s7.2 k := by
  unfold rd_readSum_l7 at h
  rcases hip with rfl | rfl
  all_goals
    refine fr_if h (fun h => ?_) (fun h => ?_)
    · skip
      cases h
      exact rfl
    · skip
      refine fr_if h (fun h => ?_) (fun h => ?_)
      · skip
        refine fr_if h (fun h => ?_) (fun h => ?_)
        · skip
          cases h
          exact rfl
        · skip
          exact (rd_readSum_j31l7_w h (by decide) h_31 h_ip hG).trans rfl
      · skip
        exact (rd_readSum_j31l7_w h (by decide) h_31 h_ip hG).trans rfl
theorem rd_readSum_w {ip : Nat} {G : Int32 → mj_M → Option mj_M} {v1 : Int32} {m : mj_M} {r : mj_M} {k : Nat} (h : rd_readSum ip G v1 m = some r) (hip : ip = 3 ∨ ip = 17) (h_31 : k ≠ 31 ∧ k ≠ 32 ∧ k ≠ 34 ∧ k ≠ 35 ∧ k ≠ 36) (h_ip : mj_gr k ≠ mj_gr ip) (hG : ∀ {w : Int32} {m r : mj_M}, G w m = some r → r k = m k) : r k = m k := by
  unfold rd_readSum at h
  rcases hip with rfl | rfl
  all_goals
    obtain ⟨q1, eq1, h⟩ := mj_bnd h
    have fq1 := (rd_readProduct_w eq1 (by decide) h_31 h_ip hG).trans rfl
    obtain ⟨q8, eq8, h⟩ := mj_bnd h
    have fq8 := (fr_loop (pr := fun z => z.2 k) (fun zs zt z1 hz => rd_readSum_l7_w hz (by decide) h_31 h_ip hG) _ _ _ eq8).trans fq1
    cases h
    exact fq8
theorem rd_readComparison_w {ip : Nat} {G : Int32 → mj_M → Option mj_M} {v1 : Int32} {m : mj_M} {r : mj_M} {k : Nat} (h : rd_readComparison ip G v1 m = some r) (hip : ip = 3 ∨ ip = 17) (h_31 : k ≠ 31 ∧ k ≠ 32 ∧ k ≠ 34 ∧ k ≠ 35 ∧ k ≠ 36) (h_ip : mj_gr k ≠ mj_gr ip) (hG : ∀ {w : Int32} {m r : mj_M}, G w m = some r → r k = m k) : r k = m k := by
  unfold rd_readComparison at h
  rcases hip with rfl | rfl
  all_goals
    obtain ⟨q1, eq1, h⟩ := mj_bnd h
    have fq1 := (rd_readSum_w eq1 (by decide) h_31 h_ip hG).trans rfl
    refine fr_if h (fun h => ?_) (fun h => ?_)
    · skip
      refine fr_if h (fun h => ?_) (fun h => ?_)
      · skip
        cases h
        exact fq1
      · skip
        refine fr_if h (fun h => ?_) (fun h => ?_)
        · skip
          cases h
          exact fq1
        · skip
          obtain ⟨q5, eq5, h⟩ := mj_bnd h
          have fq5 := (rd_takeKnot_w eq5 h_31).trans fq1
          obtain ⟨q6, eq6, h⟩ := mj_bnd h
          have fq6 := (rd_readSum_w eq6 (by decide) h_31 h_ip hG).trans fq5
          obtain ⟨q7, eq7, h⟩ := mj_bnd h
          have fq7 := (rd_add_w eq7 (by decide) h_ip).trans fq6
          cases h
          exact fq7
    · skip
      cases h
      exact fq1
theorem rd_readNot_l2_w {ip : Nat} {G : Int32 → mj_M → Option mj_M} {v1 : Int32} {s2 : (Int32 × mj_M)} {r : (Nat × (Int32 × mj_M))} {k : Nat} (h : rd_readNot_l2 ip G v1 s2 = some r) (hip : ip = 3 ∨ ip = 17) (h_31 : k ≠ 31 ∧ k ≠ 32 ∧ k ≠ 34 ∧ k ≠ 35 ∧ k ≠ 36) (hG : ∀ {w : Int32} {m r : mj_M}, G w m = some r → r k = m k) : r.2.2 k = s2.2 k := by
  unfold rd_readNot_l2 at h
  rcases hip with rfl | rfl
  all_goals
    refine fr_if h (fun h => ?_) (fun h => ?_)
    · skip
      cases h
      exact rfl
    · skip
      refine fr_if h (fun h => ?_) (fun h => ?_)
      · skip
        cases h
        exact rfl
      · skip
        obtain ⟨q3, eq3, h⟩ := mj_bnd h
        have fq3 := (rd_takeKnot_w eq3 h_31).trans rfl
        cases h
        exact fq3
theorem rd_readNot_l34_w {ip : Nat} {G : Int32 → mj_M → Option mj_M} {v2 : Int32} {s34 : (Int32 × mj_M)} {r : (Nat × (Int32 × mj_M))} {k : Nat} (h : rd_readNot_l34 ip G v2 s34 = some r) (hip : ip = 3 ∨ ip = 17) (h_ip : mj_gr k ≠ mj_gr ip) (hG : ∀ {w : Int32} {m r : mj_M}, G w m = some r → r k = m k) : r.2.2 k = s34.2 k := by
  unfold rd_readNot_l34 at h
  rcases hip with rfl | rfl
  all_goals
    refine fr_if h (fun h => ?_) (fun h => ?_)
    · skip
      cases h
      exact rfl
    · skip
      obtain ⟨q7, eq7, h⟩ := mj_bnd h
      have fq7 := (rd_add_w eq7 (by decide) h_ip).trans rfl
      cases h
      exact fq7
theorem rd_readNot_j27_w {ip : Nat} {G : Int32 → mj_M → Option mj_M} {v1 : Int32} {v2 : Int32} {m : mj_M} {r : mj_M} {k : Nat} (h : rd_readNot_j27 ip G v1 v2 m = some r) (hip : ip = 3 ∨ ip = 17) (h_31 : k ≠ 31 ∧ k ≠ 32 ∧ k ≠ 34 ∧ k ≠ 35 ∧ k ≠ 36) (h_ip : mj_gr k ≠ mj_gr ip) (hG : ∀ {w : Int32} {m r : mj_M}, G w m = some r → r k = m k) : r k = m k := by
  unfold rd_readNot_j27 at h
  rcases hip with rfl | rfl
  all_goals
    obtain ⟨q5, eq5, h⟩ := mj_bnd h
    have fq5 := (rd_readComparison_w eq5 (by decide) h_31 h_ip hG).trans rfl
    obtain ⟨q8, eq8, h⟩ := mj_bnd h
    have fq8 := (fr_loop (pr := fun z => z.2 k) (fun zs zt z1 hz => rd_readNot_l34_w hz (by decide) h_ip hG) _ _ _ eq8).trans fq5
    cases h
    exact fq8
theorem rd_readNot_w {ip : Nat} {G : Int32 → mj_M → Option mj_M} {v1 : Int32} {m : mj_M} {r : mj_M} {k : Nat} (h : rd_readNot ip G v1 m = some r) (hip : ip = 3 ∨ ip = 17) (h_31 : k ≠ 31 ∧ k ≠ 32 ∧ k ≠ 34 ∧ k ≠ 35 ∧ k ≠ 36) (h_ip : mj_gr k ≠ mj_gr ip) (hG : ∀ {w : Int32} {m r : mj_M}, G w m = some r → r k = m k) : r k = m k := by
  unfold rd_readNot at h
  rcases hip with rfl | rfl
  all_goals
    obtain ⟨q4, eq4, h⟩ := mj_bnd h
    have fq4 := (fr_loop (pr := fun z => z.2 k) (fun zs zt z1 hz => rd_readNot_l2_w hz (by decide) h_31 hG) _ _ _ eq4).trans rfl
    exact (rd_readNot_j27_w h (by decide) h_31 h_ip hG).trans fq4
theorem rd_readBoth_l7_w {ip : Nat} {G : Int32 → mj_M → Option mj_M} {v1 : Int32} {s7 : (Int32 × mj_M)} {r : (Nat × (Int32 × mj_M))} {k : Nat} (h : rd_readBoth_l7 ip G v1 s7 = some r) (hip : ip = 3 ∨ ip = 17) (h_31 : k ≠ 31 ∧ k ≠ 32 ∧ k ≠ 34 ∧ k ≠ 35 ∧ k ≠ 36) (h_ip : mj_gr k ≠ mj_gr ip) (hG : ∀ {w : Int32} {m r : mj_M}, G w m = some r → r k = m k) : r.2.2 k = s7.2 k := by
  unfold rd_readBoth_l7 at h
  rcases hip with rfl | rfl
  all_goals
    refine fr_if h (fun h => ?_) (fun h => ?_)
    · skip
      cases h
      exact rfl
    · skip
      refine fr_if h (fun h => ?_) (fun h => ?_)
      · skip
        cases h
        exact rfl
      · skip
        obtain ⟨q4, eq4, h⟩ := mj_bnd h
        have fq4 := (rd_takeKnot_w eq4 h_31).trans rfl
        obtain ⟨q5, eq5, h⟩ := mj_bnd h
        have fq5 := (rd_readNot_w eq5 (by decide) h_31 h_ip hG).trans fq4
        obtain ⟨q6, eq6, h⟩ := mj_bnd h
        have fq6 := (rd_add_w eq6 (by decide) h_ip).trans fq5
        cases h
        exact fq6
theorem rd_readBoth_w {ip : Nat} {G : Int32 → mj_M → Option mj_M} {v1 : Int32} {m : mj_M} {r : mj_M} {k : Nat} (h : rd_readBoth ip G v1 m = some r) (hip : ip = 3 ∨ ip = 17) (h_31 : k ≠ 31 ∧ k ≠ 32 ∧ k ≠ 34 ∧ k ≠ 35 ∧ k ≠ 36) (h_ip : mj_gr k ≠ mj_gr ip) (hG : ∀ {w : Int32} {m r : mj_M}, G w m = some r → r k = m k) : r k = m k := by
  unfold rd_readBoth at h
  rcases hip with rfl | rfl
  all_goals
    obtain ⟨q1, eq1, h⟩ := mj_bnd h
    have fq1 := (rd_readNot_w eq1 (by decide) h_31 h_ip hG).trans rfl
    obtain ⟨q7, eq7, h⟩ := mj_bnd h
    have fq7 := (fr_loop (pr := fun z => z.2 k) (fun zs zt z1 hz => rd_readBoth_l7_w hz (by decide) h_31 h_ip hG) _ _ _ eq7).trans fq1
    cases h
    exact fq7
theorem rd_readEither_l7_w {ip : Nat} {G : Int32 → mj_M → Option mj_M} {v1 : Int32} {s7 : (Int32 × mj_M)} {r : (Nat × (Int32 × mj_M))} {k : Nat} (h : rd_readEither_l7 ip G v1 s7 = some r) (hip : ip = 3 ∨ ip = 17) (h_31 : k ≠ 31 ∧ k ≠ 32 ∧ k ≠ 34 ∧ k ≠ 35 ∧ k ≠ 36) (h_ip : mj_gr k ≠ mj_gr ip) (hG : ∀ {w : Int32} {m r : mj_M}, G w m = some r → r k = m k) : r.2.2 k = s7.2 k := by
  unfold rd_readEither_l7 at h
  rcases hip with rfl | rfl
  all_goals
    refine fr_if h (fun h => ?_) (fun h => ?_)
    · skip
      cases h
      exact rfl
    · skip
      refine fr_if h (fun h => ?_) (fun h => ?_)
      · skip
        cases h
        exact rfl
      · skip
        obtain ⟨q4, eq4, h⟩ := mj_bnd h
        have fq4 := (rd_takeKnot_w eq4 h_31).trans rfl
        obtain ⟨q5, eq5, h⟩ := mj_bnd h
        have fq5 := (rd_readBoth_w eq5 (by decide) h_31 h_ip hG).trans fq4
        obtain ⟨q6, eq6, h⟩ := mj_bnd h
        have fq6 := (rd_add_w eq6 (by decide) h_ip).trans fq5
        cases h
        exact fq6
theorem rd_readEither_w {ip : Nat} {G : Int32 → mj_M → Option mj_M} {v1 : Int32} {m : mj_M} {r : mj_M} {k : Nat} (h : rd_readEither ip G v1 m = some r) (hip : ip = 3 ∨ ip = 17) (h_31 : k ≠ 31 ∧ k ≠ 32 ∧ k ≠ 34 ∧ k ≠ 35 ∧ k ≠ 36) (h_ip : mj_gr k ≠ mj_gr ip) (hG : ∀ {w : Int32} {m r : mj_M}, G w m = some r → r k = m k) : r k = m k := by
  unfold rd_readEither at h
  rcases hip with rfl | rfl
  all_goals
    obtain ⟨q1, eq1, h⟩ := mj_bnd h
    have fq1 := (rd_readBoth_w eq1 (by decide) h_31 h_ip hG).trans rfl
    obtain ⟨q7, eq7, h⟩ := mj_bnd h
    have fq7 := (fr_loop (pr := fun z => z.2 k) (fun zs zt z1 hz => rd_readEither_l7_w hz (by decide) h_31 h_ip hG) _ _ _ eq7).trans fq1
    cases h
    exact fq7
theorem rd_readGroupB_w {ip : Nat} {G : Int32 → mj_M → Option mj_M} {v1 : Int32} {m : mj_M} {r : mj_M} {k : Nat} (h : rd_readGroupB ip G v1 m = some r) (hip : ip = 3 ∨ ip = 17) (h_31 : k ≠ 31 ∧ k ≠ 32 ∧ k ≠ 34 ∧ k ≠ 35 ∧ k ≠ 36) (h_ip : mj_gr k ≠ mj_gr ip) (hG : ∀ {w : Int32} {m r : mj_M}, G w m = some r → r k = m k) : r k = m k := by
  unfold rd_readGroupB at h
  rcases hip with rfl | rfl
  all_goals
    refine fr_if h (fun h => ?_) (fun h => ?_)
    · skip
      obtain ⟨q2, eq2, h⟩ := mj_bnd h
      have fq2 := (tk_step_w eq2 h_31).trans rfl
      obtain ⟨q3, eq3, h⟩ := mj_bnd h
      have fq3 := (rd_readEither_w eq3 (by decide) h_31 h_ip hG).trans fq2
      obtain ⟨q4, eq4, h⟩ := mj_bnd h
      have fq4 := (rd_take_w eq4 h_31).trans fq3
      cases h
      exact fq4
    · skip
      obtain ⟨q5, eq5, h⟩ := mj_bnd h
      have fq5 := (rd_refuse_w eq5 h_31).trans rfl
      cases h
      exact fq5
theorem rd_readGroup_w {ip k : Nat} (hip : ip = 3 ∨ ip = 17) (h_31 : k ≠ 31 ∧ k ≠ 32 ∧ k ≠ 34 ∧ k ≠ 35 ∧ k ≠ 36) (h_ip : mj_gr k ≠ mj_gr ip) : ∀ (f : Nat) {w : Int32} {m r : mj_M}, rd_readGroup ip f w m = some r → r k = m k := by
  intro f
  induction f with
  | zero => intro w m r h; cases h
  | succ f ih => intro w m r h; exact rd_readGroupB_w h hip h_31 h_ip ih
theorem rd_readEither0_w {ip : Nat} {v : Int32} {m r : mj_M} {k : Nat} (h : rd_readEither0 ip v m = some r) (hip : ip = 3 ∨ ip = 17) (h_31 : k ≠ 31 ∧ k ≠ 32 ∧ k ≠ 34 ∧ k ≠ 35 ∧ k ≠ 36) (h_ip : mj_gr k ≠ mj_gr ip) : r k = m k := rd_readEither_w h hip h_31 h_ip (rd_readGroup_w hip h_31 h_ip 12)
theorem rd_readLaw_j27_w {ip : Nat} {m : mj_M} {r : mj_M} {k : Nat} (h : rd_readLaw_j27 ip m = some r) (hip : ip = 3 ∨ ip = 17) (h_31 : k ≠ 31 ∧ k ≠ 32 ∧ k ≠ 34 ∧ k ≠ 35 ∧ k ≠ 36) : r k = m k := by
  unfold rd_readLaw_j27 at h
  rcases hip with rfl | rfl
  all_goals
    obtain ⟨q3, eq3, h⟩ := mj_bnd h
    have fq3 := (rd_refuse_w eq3 h_31).trans rfl
    cases h
    exact fq3
theorem rd_readLaw_w {ip : Nat} {m : mj_M} {r : mj_M} {k : Nat} (h : rd_readLaw ip m = some r) (hip : ip = 3 ∨ ip = 17) (h_31 : k ≠ 31 ∧ k ≠ 32 ∧ k ≠ 34 ∧ k ≠ 35 ∧ k ≠ 36) (h_ip : mj_gr k ≠ mj_gr ip) : r k = m k := by
  unfold rd_readLaw at h
  rcases hip with rfl | rfl
  all_goals
    obtain ⟨q1, eq1, h⟩ := mj_bnd h
    have fq1 := (tk_step_w eq1 h_31).trans rfl
    refine fr_if h (fun h => ?_) (fun h => ?_)
    · skip
      exact (rd_readLaw_j27_w h (by decide) h_31).trans fq1
    · skip
      refine fr_if h (fun h => ?_) (fun h => ?_)
      · skip
        obtain ⟨q5, eq5, h⟩ := mj_bnd h
        have fq5 := (rd_takeOnce_w eq5 h_31).trans fq1
        obtain ⟨q6, eq6, h⟩ := mj_bnd h
        have fq6 := (rd_readEither0_w eq6 (by decide) h_31 h_ip).trans ((fr_put (fun e => h_ip (by subst e; rfl))).trans fq5)
        cases h
        exact ((fr_put (fun e => h_ip (by subst e; rfl))).trans fq6)
      · skip
        exact (rd_readLaw_j27_w h (by decide) h_31).trans fq1
theorem rd_readLine_j141_w {ip : Nat} {m : mj_M} {r : mj_M} {k : Nat} (h : rd_readLine_j141 ip m = some r) (hip : ip = 3 ∨ ip = 17) (h_31 : k ≠ 31 ∧ k ≠ 32 ∧ k ≠ 34 ∧ k ≠ 35 ∧ k ≠ 36) : r k = m k := by
  unfold rd_readLine_j141 at h
  rcases hip with rfl | rfl
  all_goals
    obtain ⟨q3, eq3, h⟩ := mj_bnd h
    have fq3 := (rd_take_w eq3 h_31).trans rfl
    cases h
    exact fq3
theorem rd_readLine_w {ip : Nat} {m : mj_M} {r : mj_M} {k : Nat} (h : rd_readLine ip m = some r) (hip : ip = 3 ∨ ip = 17) (h_31 : k ≠ 31 ∧ k ≠ 32 ∧ k ≠ 34 ∧ k ≠ 35 ∧ k ≠ 36) (h_ip : mj_gr k ≠ mj_gr ip) : r k = m k := by
  unfold rd_readLine at h
  rcases hip with rfl | rfl
  all_goals
    refine fr_if h (fun h => ?_) (fun h => ?_)
    · skip
      obtain ⟨q2, eq2, h⟩ := mj_bnd h
      have fq2 := (rd_readMan_w eq2 (by decide) h_31 h_ip).trans rfl
      exact (rd_readLine_j141_w h (by decide) h_31).trans fq2
    · skip
      refine fr_if h (fun h => ?_) (fun h => ?_)
      · skip
        obtain ⟨q5, eq5, h⟩ := mj_bnd h
        have fq5 := (rd_readTie_w eq5 (by decide) h_31 h_ip).trans rfl
        exact (rd_readLine_j141_w h (by decide) h_31).trans fq5
      · skip
        refine fr_if h (fun h => ?_) (fun h => ?_)
        · skip
          obtain ⟨q7, eq7, h⟩ := mj_bnd h
          have fq7 := (rd_readWork_w eq7 (by decide) h_31 h_ip).trans rfl
          exact (rd_readLine_j141_w h (by decide) h_31).trans fq7
        · skip
          refine fr_if h (fun h => ?_) (fun h => ?_)
          · skip
            obtain ⟨q9, eq9, h⟩ := mj_bnd h
            have fq9 := (rd_readSpeed_w eq9 (by decide) h_31 h_ip).trans rfl
            exact (rd_readLine_j141_w h (by decide) h_31).trans fq9
          · skip
            refine fr_if h (fun h => ?_) (fun h => ?_)
            · skip
              obtain ⟨q11, eq11, h⟩ := mj_bnd h
              have fq11 := (rd_readOnce_w eq11 h_31).trans rfl
              exact (rd_readLine_j141_w h (by decide) h_31).trans ((fr_up (fun e => h_ip (by subst e; rfl))).trans fq11)
            · skip
              refine fr_if h (fun h => ?_) (fun h => ?_)
              · skip
                obtain ⟨q13, eq13, h⟩ := mj_bnd h
                have fq13 := (rd_readOnce_w eq13 h_31).trans rfl
                exact (rd_readLine_j141_w h (by decide) h_31).trans ((fr_up (fun e => h_ip (by subst e; rfl))).trans fq13)
              · skip
                refine fr_if h (fun h => ?_) (fun h => ?_)
                · skip
                  obtain ⟨q15, eq15, h⟩ := mj_bnd h
                  have fq15 := (rd_readOnce_w eq15 h_31).trans rfl
                  exact (rd_readLine_j141_w h (by decide) h_31).trans ((fr_up (fun e => h_ip (by subst e; rfl))).trans fq15)
                · skip
                  refine fr_if h (fun h => ?_) (fun h => ?_)
                  · skip
                    obtain ⟨q17, eq17, h⟩ := mj_bnd h
                    have fq17 := (rd_readLaw_w eq17 (by decide) h_31 h_ip).trans rfl
                    exact (rd_readLine_j141_w h (by decide) h_31).trans fq17
                  · skip
                    obtain ⟨q18, eq18, h⟩ := mj_bnd h
                    have fq18 := (rd_refuse_w eq18 h_31).trans rfl
                    exact (rd_readLine_j141_w h (by decide) h_31).trans fq18
theorem rd_read_l44_w {ip : Nat} {v2 : Int32} {s44 : (Int32 × mj_M)} {r : (Nat × (Int32 × mj_M))} {k : Nat} (h : rd_read_l44 ip v2 s44 = some r) (hip : ip = 3 ∨ ip = 17) (h_31 : k ≠ 31 ∧ k ≠ 32 ∧ k ≠ 34 ∧ k ≠ 35 ∧ k ≠ 36) (h_ip : mj_gr k ≠ mj_gr ip) : r.2.2 k = s44.2 k := by
  unfold rd_read_l44 at h
  rcases hip with rfl | rfl
  all_goals
    refine fr_if h (fun h => ?_) (fun h => ?_)
    · skip
      cases h
      exact rfl
    · skip
      refine fr_if h (fun h => ?_) (fun h => ?_)
      · skip
        refine fr_if h (fun h => ?_) (fun h => ?_)
        · skip
          cases h
          exact rfl
        · skip
          obtain ⟨q6, eq6, h⟩ := mj_bnd h
          have fq6 := (rd_readLine_w eq6 (by decide) h_31 h_ip).trans rfl
          cases h
          exact fq6
      · skip
        cases h
        exact rfl
theorem rd_read_j79_w {ip : Nat} {v4 : Int32} {m : mj_M} {r : (Int32 × mj_M)} {k : Nat} (h : rd_read_j79 ip v4 m = some r) (hip : ip = 3 ∨ ip = 17) : r.2 k = m k := by
  unfold rd_read_j79 at h
  rcases hip with rfl | rfl
  all_goals
    refine fr_if h (fun h => ?_) (fun h => ?_)
    · skip
      cases h
      exact rfl
    · skip
      cases h
      exact rfl
theorem rd_read_w {ip : Nat} {v2 : Int32} {m : mj_M} {r : (Int32 × mj_M)} {k : Nat} (h : rd_read ip v2 m = some r) (hip : ip = 3 ∨ ip = 17) (h_ip : mj_gr k ≠ mj_gr ip) (h_31 : k ≠ 31 ∧ k ≠ 32 ∧ k ≠ 34 ∧ k ≠ 35 ∧ k ≠ 36) : r.2 k = m k := by
  unfold rd_read at h
  rcases hip with rfl | rfl
  all_goals
    obtain ⟨q1, eq1, h⟩ := mj_bnd h
    have fq1 := (to_clear_w eq1 (by decide) h_ip).trans rfl
    obtain ⟨q2, eq2, h⟩ := mj_bnd h
    have fq2 := (tk_split_w eq2 h_31).trans ((fr_up (fun e => by omega)).trans ((fr_up (fun e => by omega)).trans ((fr_up (fun e => by omega)).trans ((fr_up (fun e => by omega)).trans fq1))))
    obtain ⟨q7, eq7, h⟩ := mj_bnd h
    have fq7 := (fr_loop (pr := fun z => z.2 k) (fun zs zt z1 hz => rd_read_l44_w hz (by decide) h_31 h_ip) _ _ _ eq7).trans fq2
    exact (rd_read_j79_w h (by decide)).trans fq7
